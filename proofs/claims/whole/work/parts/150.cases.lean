/-! THE LAW: its cases -/
set_option maxHeartbeats 20000000 in
set_option maxRecDepth 100000 in
theorem case_sides {p : Program} {e : Env} {s : State} {m : MethodId} {below : List Frame} {meth : Method} {c : Code} (l : Launch) {g : Gt} {b L : Nat} {xs : Nat → Int32} {Q : State → Prop} (C : LC p s m c g b L xs) (ad : Nat → Nat) (cf : Nat → Option Nat) (md : Nat → Nat) (u : EBS) (x : MS) (hc0 : cf 0 = some (ad 11)) (hc1 : cf 1 = some (ad 15)) (hc2 : cf 2 = some (ad 19)) (hST : ST u x) {i : Nat} (hi : i + 6 ≤ L) (hL : L ≤ 3072) {H : Heap} {locs : List Loc} {cells slots : Nat} (hcl : cells + 3 ≤ 600000) (hsl : slots + 6 ≤ 7302250) (hP : va_P g.1 vwCl (eCells g ad cf u ++ mCells g md x) H) (hD : va_D (fun q : Nat => s.heap.size ≤ q) (eCells g ad cf u ++ mCells g md x)) (hS : va_S (fun q : Nat => s.heap.size ≤ q) s.heap H locs) {ls : Array Slot} (hl : lv_has ls 4 (lvL b ad md i))
    (kk : ∀ (u1 : EBS) (x1 : MS) (H1 : Heap) (locs1 : List Loc), ST u1 x1 → va_P g.1 vwCl (eCells g ad cf u1 ++ mCells g md x1) H1 → va_D (fun q : Nat => s.heap.size ≤ q) (eCells g ad cf u1 ++ mCells g md x1) → va_S (fun q : Nat => s.heap.size ≤ q) s.heap H1 locs1 → W p l e room_1 s m #[Value.ref b] below meth c H1 locs1 (cells + 3) (slots + 6) Q (F0 m 796 ls [])) :
    W p l e room_1 s m #[Value.ref b] below meth c H locs cells slots Q (F0 m 664 ls []) := by
  obtain ⟨hx, hb, hml, hown, hts, hX, hbl, hK, hN⟩ := C
  have hA : ∀ q : Nat, s.heap.size ≤ q → (fun q : Nat => s.heap.size ≤ q) q := fun _ h => h
  have hbA : ¬ (fun q : Nat => s.heap.size ≤ q) b := Nat.not_le.mpr hbl
  have v1 : vp_in (nI (i + 1)) L := vp_in_nI (by omega) (by omega)
  refine lv_aload_n hx hb dL_law_664 rfl (lv_at hl 1 rfl) ?_
  refine lv_aload_n hx hb dL_law_665 rfl (lv_at hl 0 rfl) ?_
  refine lv_iload_n hx hb dL_law_666 rfl (lv_at hl 3 rfl) ?_
  refine lv_iconst (v := nI 1) hx hb dL_law_667 (by decide) ?_
  refine lv_iadd hx hb dL_law_668 ?_
  refine k_ei (y := nI (i + 1)) (nI_add _ _) ?_
  refine va_sld hx hb hX hbl hbA hS v1 dL_law_669 ?_
  refine go_i (wc := eCells g ad cf u) (wr := mCells g md x) hP hD hS hA [0, 1, 2, 3, 4, 5, 6, 7, 8, 9, 10, 11, 12, 13, 14, 15, 16, 17, 18, 19, 20, 21, 22, 23, 24, 25, 26] [27, 28, 29, 30, 31, 32, 33, 34, 35, 36] rfl rfl rfl rfl (by decide) (fun hPc hDc => rn_V (As := [.int (xs (nI (i + 1)).toNatClampNeg)]) (rest := []) ⟨hx, hb, hml, hown, hts⟩ (c_X3_sides l g ad cf u (xs (nI (i + 1)).toNatClampNeg) hc0 hc1 hc2 hST.1 hST.2.1 _) (cwl_X3_sides hts) hK hN hPc hDc 0 rfl rfl rfl rfl hl.1 (Nat.le_of_ble_eq_true rfl) dL_law_670 ⟨by show _ ≤ 600000; omega, by show _ ≤ 7302250; omega⟩) ?_
  intro r1 u1 H locs hr1 hP hD hS
  have hP : va_P g.1 vwCl (eCells g ad cf u1 ++ mCells g md x) H := hP.sub [10, 11, 12, 13, 14, 15, 16, 17, 18, 19, 20, 21, 22, 23, 24, 25, 26, 27, 28, 29, 30, 31, 32, 33, 34, 35, 36, 0, 1, 2, 3, 4, 5, 6, 7, 8, 9] rfl
  have hD : va_D (fun q : Nat => s.heap.size ≤ q) (eCells g ad cf u1 ++ mCells g md x) := hD.sub [10, 11, 12, 13, 14, 15, 16, 17, 18, 19, 20, 21, 22, 23, 24, 25, 26, 27, 28, 29, 30, 31, 32, 33, 34, 35, 36, 0, 1, 2, 3, 4, 5, 6, 7, 8, 9] rfl rfl
  refine lv_aload_n hx hb dL_law_673 rfl (lv_at hl 2 rfl) ?_
  refine lv_aload_n hx hb dL_law_674 rfl (lv_at hl 0 rfl) ?_
  refine lv_iload_n hx hb dL_law_675 rfl (lv_at hl 3 rfl) ?_
  refine lv_iconst (v := nI 1) hx hb dL_law_676 (by decide) ?_
  refine lv_iadd hx hb dL_law_677 ?_
  refine k_ei (y := nI (i + 1)) (nI_add _ _) ?_
  refine va_sld hx hb hX hbl hbA hS v1 dL_law_678 ?_
  refine go_i (wc := mCells g md x) (wr := eCells g ad cf u1) hP hD hS hA [27, 28, 29, 30, 31, 32, 33, 34, 35, 36] [0, 1, 2, 3, 4, 5, 6, 7, 8, 9, 10, 11, 12, 13, 14, 15, 16, 17, 18, 19, 20, 21, 22, 23, 24, 25, 26] rfl rfl rfl rfl (by decide) (fun hPc hDc => rn_V (As := [.int (xs (nI (i + 1)).toNatClampNeg)]) (rest := [.int r1]) ⟨hx, hb, hml, hown, hts⟩ (c_X4_sides l g md x (xs (nI (i + 1)).toNatClampNeg) hST.2.2.1 _) (cwl_X4_sides hts) hK hN hPc hDc 0 rfl rfl rfl rfl hl.1 (Nat.le_of_ble_eq_true rfl) dL_law_679 ⟨by show _ ≤ 600000; omega, by show _ ≤ 7302250; omega⟩) ?_
  intro r2 x1 H locs hr2 hP hD hS
  have hP : va_P g.1 vwCl (eCells g ad cf u1 ++ mCells g md x1) H := hP
  have hD : va_D (fun q : Nat => s.heap.size ≤ q) (eCells g ad cf u1 ++ mCells g md x1) := hD
  have hh : r1 = r2 ∧ ST u1 x1 := ⟨a_sides hST hr1.2 hr2.2, ST_keep hST hr1.1 hr2.1⟩
  refine lv_icmp_eq (tgt := 796) hx hb dL_law_682 (by decide) (fun c_9 => ?_) (fun c_9 => ?_)
  · refine W.widen (k := cells + 3) (n := slots + 6) (by omega) (by omega) ?_
    exact kk u1 x1 H locs hh.2 hP hD hS
  · exact absurd hh.1 c_9
set_option maxHeartbeats 20000000 in
set_option maxRecDepth 100000 in
theorem case_side {p : Program} {e : Env} {s : State} {m : MethodId} {below : List Frame} {meth : Method} {c : Code} (l : Launch) {g : Gt} {b L : Nat} {xs : Nat → Int32} {Q : State → Prop} (C : LC p s m c g b L xs) (ad : Nat → Nat) (cf : Nat → Option Nat) (md : Nat → Nat) (u : EBS) (x : MS) (hc0 : cf 0 = some (ad 11)) (hc1 : cf 1 = some (ad 15)) (hc2 : cf 2 = some (ad 19)) (hST : ST u x) {i : Nat} (hi : i + 6 ≤ L) (hL : L ≤ 3072) {H : Heap} {locs : List Loc} {cells slots : Nat} (hcl : cells + 3 ≤ 600000) (hsl : slots + 6 ≤ 7302250) (hP : va_P g.1 vwCl (eCells g ad cf u ++ mCells g md x) H) (hD : va_D (fun q : Nat => s.heap.size ≤ q) (eCells g ad cf u ++ mCells g md x)) (hS : va_S (fun q : Nat => s.heap.size ≤ q) s.heap H locs) {ls : Array Slot} (hl : lv_has ls 4 (lvL b ad md i))
    (kk : ∀ (u1 : EBS) (x1 : MS) (H1 : Heap) (locs1 : List Loc), ST u1 x1 → va_P g.1 vwCl (eCells g ad cf u1 ++ mCells g md x1) H1 → va_D (fun q : Nat => s.heap.size ≤ q) (eCells g ad cf u1 ++ mCells g md x1) → va_S (fun q : Nat => s.heap.size ≤ q) s.heap H1 locs1 → W p l e room_1 s m #[Value.ref b] below meth c H1 locs1 (cells + 3) (slots + 6) Q (F0 m 796 ls [])) :
    W p l e room_1 s m #[Value.ref b] below meth c H locs cells slots Q (F0 m 687 ls []) := by
  obtain ⟨hx, hb, hml, hown, hts, hX, hbl, hK, hN⟩ := C
  have hA : ∀ q : Nat, s.heap.size ≤ q → (fun q : Nat => s.heap.size ≤ q) q := fun _ h => h
  have hbA : ¬ (fun q : Nat => s.heap.size ≤ q) b := Nat.not_le.mpr hbl
  have v1 : vp_in (nI (i + 1)) L := vp_in_nI (by omega) (by omega)
  have v2 : vp_in (nI (i + 2)) L := vp_in_nI (by omega) (by omega)
  have v3 : vp_in (nI (i + 3)) L := vp_in_nI (by omega) (by omega)
  refine lv_aload_n hx hb dL_law_687 rfl (lv_at hl 1 rfl) ?_
  refine lv_aload_n hx hb dL_law_688 rfl (lv_at hl 0 rfl) ?_
  refine lv_iload_n hx hb dL_law_689 rfl (lv_at hl 3 rfl) ?_
  refine lv_iconst (v := nI 1) hx hb dL_law_690 (by decide) ?_
  refine lv_iadd hx hb dL_law_691 ?_
  refine k_ei (y := nI (i + 1)) (nI_add _ _) ?_
  refine va_sld hx hb hX hbl hbA hS v1 dL_law_692 ?_
  refine lv_aload_n hx hb dL_law_693 rfl (lv_at hl 0 rfl) ?_
  refine lv_iload_n hx hb dL_law_694 rfl (lv_at hl 3 rfl) ?_
  refine lv_iconst (v := nI 2) hx hb dL_law_695 (by decide) ?_
  refine lv_iadd hx hb dL_law_696 ?_
  refine k_ei (y := nI (i + 2)) (nI_add _ _) ?_
  refine va_sld hx hb hX hbl hbA hS v2 dL_law_697 ?_
  refine lv_aload_n hx hb dL_law_698 rfl (lv_at hl 0 rfl) ?_
  refine lv_iload_n hx hb dL_law_699 rfl (lv_at hl 3 rfl) ?_
  refine lv_iconst (v := nI 3) hx hb dL_law_700 (by decide) ?_
  refine lv_iadd hx hb dL_law_701 ?_
  refine k_ei (y := nI (i + 3)) (nI_add _ _) ?_
  refine va_sld hx hb hX hbl hbA hS v3 dL_law_702 ?_
  refine go_i (wc := eCells g ad cf u) (wr := mCells g md x) hP hD hS hA [0, 1, 2, 3, 4, 5, 6, 7, 8, 9, 10, 11, 12, 13, 14, 15, 16, 17, 18, 19, 20, 21, 22, 23, 24, 25, 26] [27, 28, 29, 30, 31, 32, 33, 34, 35, 36] rfl rfl rfl rfl (by decide) (fun hPc hDc => rn_V (As := [.int (xs (nI (i + 1)).toNatClampNeg), .int (xs (nI (i + 2)).toNatClampNeg), .int (xs (nI (i + 3)).toNatClampNeg)]) (rest := []) ⟨hx, hb, hml, hown, hts⟩ (c_X3_side l g ad cf u (xs (nI (i + 1)).toNatClampNeg) (xs (nI (i + 2)).toNatClampNeg) (xs (nI (i + 3)).toNatClampNeg) hc0 hc1 hc2 hST.1 hST.2.1 _) (cwl_X3_side hts) hK hN hPc hDc 0 rfl rfl rfl rfl hl.1 (Nat.le_of_ble_eq_true rfl) dL_law_703 ⟨by show _ ≤ 600000; omega, by show _ ≤ 7302250; omega⟩) ?_
  intro r1 u1 H locs hr1 hP hD hS
  have hP : va_P g.1 vwCl (eCells g ad cf u1 ++ mCells g md x) H := hP.sub [10, 11, 12, 13, 14, 15, 16, 17, 18, 19, 20, 21, 22, 23, 24, 25, 26, 27, 28, 29, 30, 31, 32, 33, 34, 35, 36, 0, 1, 2, 3, 4, 5, 6, 7, 8, 9] rfl
  have hD : va_D (fun q : Nat => s.heap.size ≤ q) (eCells g ad cf u1 ++ mCells g md x) := hD.sub [10, 11, 12, 13, 14, 15, 16, 17, 18, 19, 20, 21, 22, 23, 24, 25, 26, 27, 28, 29, 30, 31, 32, 33, 34, 35, 36, 0, 1, 2, 3, 4, 5, 6, 7, 8, 9] rfl rfl
  refine lv_aload_n hx hb dL_law_706 rfl (lv_at hl 2 rfl) ?_
  refine lv_aload_n hx hb dL_law_707 rfl (lv_at hl 0 rfl) ?_
  refine lv_iload_n hx hb dL_law_708 rfl (lv_at hl 3 rfl) ?_
  refine lv_iconst (v := nI 1) hx hb dL_law_709 (by decide) ?_
  refine lv_iadd hx hb dL_law_710 ?_
  refine k_ei (y := nI (i + 1)) (nI_add _ _) ?_
  refine va_sld hx hb hX hbl hbA hS v1 dL_law_711 ?_
  refine lv_aload_n hx hb dL_law_712 rfl (lv_at hl 0 rfl) ?_
  refine lv_iload_n hx hb dL_law_713 rfl (lv_at hl 3 rfl) ?_
  refine lv_iconst (v := nI 2) hx hb dL_law_714 (by decide) ?_
  refine lv_iadd hx hb dL_law_715 ?_
  refine k_ei (y := nI (i + 2)) (nI_add _ _) ?_
  refine va_sld hx hb hX hbl hbA hS v2 dL_law_716 ?_
  refine lv_aload_n hx hb dL_law_717 rfl (lv_at hl 0 rfl) ?_
  refine lv_iload_n hx hb dL_law_718 rfl (lv_at hl 3 rfl) ?_
  refine lv_iconst (v := nI 3) hx hb dL_law_719 (by decide) ?_
  refine lv_iadd hx hb dL_law_720 ?_
  refine k_ei (y := nI (i + 3)) (nI_add _ _) ?_
  refine va_sld hx hb hX hbl hbA hS v3 dL_law_721 ?_
  refine go_i (wc := mCells g md x) (wr := eCells g ad cf u1) hP hD hS hA [27, 28, 29, 30, 31, 32, 33, 34, 35, 36] [0, 1, 2, 3, 4, 5, 6, 7, 8, 9, 10, 11, 12, 13, 14, 15, 16, 17, 18, 19, 20, 21, 22, 23, 24, 25, 26] rfl rfl rfl rfl (by decide) (fun hPc hDc => rn_V (As := [.int (xs (nI (i + 1)).toNatClampNeg), .int (xs (nI (i + 2)).toNatClampNeg), .int (xs (nI (i + 3)).toNatClampNeg)]) (rest := [.int r1]) ⟨hx, hb, hml, hown, hts⟩ (c_X4_side l g md x (xs (nI (i + 1)).toNatClampNeg) (xs (nI (i + 2)).toNatClampNeg) (xs (nI (i + 3)).toNatClampNeg) hST.2.2.1 _) (cwl_X4_side hts) hK hN hPc hDc 0 rfl rfl rfl rfl hl.1 (Nat.le_of_ble_eq_true rfl) dL_law_722 ⟨by show _ ≤ 600000; omega, by show _ ≤ 7302250; omega⟩) ?_
  intro r2 x1 H locs hr2 hP hD hS
  have hP : va_P g.1 vwCl (eCells g ad cf u1 ++ mCells g md x1) H := hP
  have hD : va_D (fun q : Nat => s.heap.size ≤ q) (eCells g ad cf u1 ++ mCells g md x1) := hD
  have hh : r1 = r2 ∧ ST u1 x1 := ⟨a_side hST hr1.2 hr2.2, ST_keep hST hr1.1 hr2.1⟩
  refine lv_icmp_eq (tgt := 796) hx hb dL_law_725 (by decide) (fun c_9 => ?_) (fun c_9 => ?_)
  · refine W.widen (k := cells + 3) (n := slots + 6) (by omega) (by omega) ?_
    exact kk u1 x1 H locs hh.2 hP hD hS
  · exact absurd hh.1 c_9
set_option maxHeartbeats 20000000 in
set_option maxRecDepth 100000 in
theorem case_suits {p : Program} {e : Env} {s : State} {m : MethodId} {below : List Frame} {meth : Method} {c : Code} (l : Launch) {g : Gt} {b L : Nat} {xs : Nat → Int32} {Q : State → Prop} (C : LC p s m c g b L xs) (ad : Nat → Nat) (cf : Nat → Option Nat) (md : Nat → Nat) (u : EBS) (x : MS) (hc0 : cf 0 = some (ad 11)) (hc1 : cf 1 = some (ad 15)) (hc2 : cf 2 = some (ad 19)) (hST : ST u x) {i : Nat} (hi : i + 6 ≤ L) (hL : L ≤ 3072) {H : Heap} {locs : List Loc} {cells slots : Nat} (hcl : cells + 3 ≤ 600000) (hsl : slots + 6 ≤ 7302250) (hP : va_P g.1 vwCl (eCells g ad cf u ++ mCells g md x) H) (hD : va_D (fun q : Nat => s.heap.size ≤ q) (eCells g ad cf u ++ mCells g md x)) (hS : va_S (fun q : Nat => s.heap.size ≤ q) s.heap H locs) {ls : Array Slot} (hl : lv_has ls 4 (lvL b ad md i))
    (kk : ∀ (u1 : EBS) (x1 : MS) (H1 : Heap) (locs1 : List Loc), ST u1 x1 → va_P g.1 vwCl (eCells g ad cf u1 ++ mCells g md x1) H1 → va_D (fun q : Nat => s.heap.size ≤ q) (eCells g ad cf u1 ++ mCells g md x1) → va_S (fun q : Nat => s.heap.size ≤ q) s.heap H1 locs1 → W p l e room_1 s m #[Value.ref b] below meth c H1 locs1 (cells + 3) (slots + 6) Q (F0 m 796 ls [])) :
    W p l e room_1 s m #[Value.ref b] below meth c H locs cells slots Q (F0 m 730 ls []) := by
  obtain ⟨hx, hb, hml, hown, hts, hX, hbl, hK, hN⟩ := C
  have hA : ∀ q : Nat, s.heap.size ≤ q → (fun q : Nat => s.heap.size ≤ q) q := fun _ h => h
  have hbA : ¬ (fun q : Nat => s.heap.size ≤ q) b := Nat.not_le.mpr hbl
  have v1 : vp_in (nI (i + 1)) L := vp_in_nI (by omega) (by omega)
  have v2 : vp_in (nI (i + 2)) L := vp_in_nI (by omega) (by omega)
  have v3 : vp_in (nI (i + 3)) L := vp_in_nI (by omega) (by omega)
  refine lv_aload_n hx hb dL_law_730 rfl (lv_at hl 1 rfl) ?_
  refine lv_aload_n hx hb dL_law_731 rfl (lv_at hl 0 rfl) ?_
  refine lv_iload_n hx hb dL_law_732 rfl (lv_at hl 3 rfl) ?_
  refine lv_iconst (v := nI 1) hx hb dL_law_733 (by decide) ?_
  refine lv_iadd hx hb dL_law_734 ?_
  refine k_ei (y := nI (i + 1)) (nI_add _ _) ?_
  refine va_sld hx hb hX hbl hbA hS v1 dL_law_735 ?_
  refine lv_aload_n hx hb dL_law_736 rfl (lv_at hl 0 rfl) ?_
  refine lv_iload_n hx hb dL_law_737 rfl (lv_at hl 3 rfl) ?_
  refine lv_iconst (v := nI 2) hx hb dL_law_738 (by decide) ?_
  refine lv_iadd hx hb dL_law_739 ?_
  refine k_ei (y := nI (i + 2)) (nI_add _ _) ?_
  refine va_sld hx hb hX hbl hbA hS v2 dL_law_740 ?_
  refine lv_aload_n hx hb dL_law_741 rfl (lv_at hl 0 rfl) ?_
  refine lv_iload_n hx hb dL_law_742 rfl (lv_at hl 3 rfl) ?_
  refine lv_iconst (v := nI 3) hx hb dL_law_743 (by decide) ?_
  refine lv_iadd hx hb dL_law_744 ?_
  refine k_ei (y := nI (i + 3)) (nI_add _ _) ?_
  refine va_sld hx hb hX hbl hbA hS v3 dL_law_745 ?_
  refine go_i (wc := eCells g ad cf u) (wr := mCells g md x) hP hD hS hA [0, 1, 2, 3, 4, 5, 6, 7, 8, 9, 10, 11, 12, 13, 14, 15, 16, 17, 18, 19, 20, 21, 22, 23, 24, 25, 26] [27, 28, 29, 30, 31, 32, 33, 34, 35, 36] rfl rfl rfl rfl (by decide) (fun hPc hDc => rn_V (As := [.int (xs (nI (i + 1)).toNatClampNeg), .int (xs (nI (i + 2)).toNatClampNeg), .int (xs (nI (i + 3)).toNatClampNeg)]) (rest := []) ⟨hx, hb, hml, hown, hts⟩ (c_X3_suits l g ad cf u (xs (nI (i + 1)).toNatClampNeg) (xs (nI (i + 2)).toNatClampNeg) (xs (nI (i + 3)).toNatClampNeg) hc0 hc1 hc2 hST.1 hST.2.1 _) (cwl_X3_suits hts) hK hN hPc hDc 0 rfl rfl rfl rfl hl.1 (Nat.le_of_ble_eq_true rfl) dL_law_746 ⟨by show _ ≤ 600000; omega, by show _ ≤ 7302250; omega⟩) ?_
  intro r1 u1 H locs hr1 hP hD hS
  have hP : va_P g.1 vwCl (eCells g ad cf u1 ++ mCells g md x) H := hP.sub [10, 11, 12, 13, 14, 15, 16, 17, 18, 19, 20, 21, 22, 23, 24, 25, 26, 27, 28, 29, 30, 31, 32, 33, 34, 35, 36, 0, 1, 2, 3, 4, 5, 6, 7, 8, 9] rfl
  have hD : va_D (fun q : Nat => s.heap.size ≤ q) (eCells g ad cf u1 ++ mCells g md x) := hD.sub [10, 11, 12, 13, 14, 15, 16, 17, 18, 19, 20, 21, 22, 23, 24, 25, 26, 27, 28, 29, 30, 31, 32, 33, 34, 35, 36, 0, 1, 2, 3, 4, 5, 6, 7, 8, 9] rfl rfl
  refine lv_aload_n hx hb dL_law_749 rfl (lv_at hl 2 rfl) ?_
  refine lv_aload_n hx hb dL_law_750 rfl (lv_at hl 0 rfl) ?_
  refine lv_iload_n hx hb dL_law_751 rfl (lv_at hl 3 rfl) ?_
  refine lv_iconst (v := nI 1) hx hb dL_law_752 (by decide) ?_
  refine lv_iadd hx hb dL_law_753 ?_
  refine k_ei (y := nI (i + 1)) (nI_add _ _) ?_
  refine va_sld hx hb hX hbl hbA hS v1 dL_law_754 ?_
  refine lv_aload_n hx hb dL_law_755 rfl (lv_at hl 0 rfl) ?_
  refine lv_iload_n hx hb dL_law_756 rfl (lv_at hl 3 rfl) ?_
  refine lv_iconst (v := nI 2) hx hb dL_law_757 (by decide) ?_
  refine lv_iadd hx hb dL_law_758 ?_
  refine k_ei (y := nI (i + 2)) (nI_add _ _) ?_
  refine va_sld hx hb hX hbl hbA hS v2 dL_law_759 ?_
  refine lv_aload_n hx hb dL_law_760 rfl (lv_at hl 0 rfl) ?_
  refine lv_iload_n hx hb dL_law_761 rfl (lv_at hl 3 rfl) ?_
  refine lv_iconst (v := nI 3) hx hb dL_law_762 (by decide) ?_
  refine lv_iadd hx hb dL_law_763 ?_
  refine k_ei (y := nI (i + 3)) (nI_add _ _) ?_
  refine va_sld hx hb hX hbl hbA hS v3 dL_law_764 ?_
  refine go_i (wc := mCells g md x) (wr := eCells g ad cf u1) hP hD hS hA [27, 28, 29, 30, 31, 32, 33, 34, 35, 36] [0, 1, 2, 3, 4, 5, 6, 7, 8, 9, 10, 11, 12, 13, 14, 15, 16, 17, 18, 19, 20, 21, 22, 23, 24, 25, 26] rfl rfl rfl rfl (by decide) (fun hPc hDc => rn_V (As := [.int (xs (nI (i + 1)).toNatClampNeg), .int (xs (nI (i + 2)).toNatClampNeg), .int (xs (nI (i + 3)).toNatClampNeg)]) (rest := [.int r1]) ⟨hx, hb, hml, hown, hts⟩ (c_X4_suits l g md x (xs (nI (i + 1)).toNatClampNeg) (xs (nI (i + 2)).toNatClampNeg) (xs (nI (i + 3)).toNatClampNeg) hST.2.2.1 _) (cwl_X4_suits hts) hK hN hPc hDc 0 rfl rfl rfl rfl hl.1 (Nat.le_of_ble_eq_true rfl) dL_law_765 ⟨by show _ ≤ 600000; omega, by show _ ≤ 7302250; omega⟩) ?_
  intro r2 x1 H locs hr2 hP hD hS
  have hP : va_P g.1 vwCl (eCells g ad cf u1 ++ mCells g md x1) H := hP
  have hD : va_D (fun q : Nat => s.heap.size ≤ q) (eCells g ad cf u1 ++ mCells g md x1) := hD
  have hh : r1 = r2 ∧ ST u1 x1 := ⟨a_suits hST hr1.2 hr2.2, ST_keep hST hr1.1 hr2.1⟩
  refine lv_icmp_eq (tgt := 796) hx hb dL_law_768 (by decide) (fun c_9 => ?_) (fun c_9 => ?_)
  · refine W.widen (k := cells + 3) (n := slots + 6) (by omega) (by omega) ?_
    exact kk u1 x1 H locs hh.2 hP hD hS
  · exact absurd hh.1 c_9
set_option maxHeartbeats 20000000 in
set_option maxRecDepth 100000 in
theorem case_count {p : Program} {e : Env} {s : State} {m : MethodId} {below : List Frame} {meth : Method} {c : Code} (l : Launch) {g : Gt} {b L : Nat} {xs : Nat → Int32} {Q : State → Prop} (C : LC p s m c g b L xs) (ad : Nat → Nat) (cf : Nat → Option Nat) (md : Nat → Nat) (u : EBS) (x : MS) (hc0 : cf 0 = some (ad 11)) (hc1 : cf 1 = some (ad 15)) (hc2 : cf 2 = some (ad 19)) (hST : ST u x) {i : Nat} (hi : i + 6 ≤ L) (hL : L ≤ 3072) {H : Heap} {locs : List Loc} {cells slots : Nat} (hcl : cells + 3 ≤ 600000) (hsl : slots + 6 ≤ 7302250) (hP : va_P g.1 vwCl (eCells g ad cf u ++ mCells g md x) H) (hD : va_D (fun q : Nat => s.heap.size ≤ q) (eCells g ad cf u ++ mCells g md x)) (hS : va_S (fun q : Nat => s.heap.size ≤ q) s.heap H locs) {ls : Array Slot} (hl : lv_has ls 4 (lvL b ad md i))
    (kk : ∀ (u1 : EBS) (x1 : MS) (H1 : Heap) (locs1 : List Loc), ST u1 x1 → va_P g.1 vwCl (eCells g ad cf u1 ++ mCells g md x1) H1 → va_D (fun q : Nat => s.heap.size ≤ q) (eCells g ad cf u1 ++ mCells g md x1) → va_S (fun q : Nat => s.heap.size ≤ q) s.heap H1 locs1 → W p l e room_1 s m #[Value.ref b] below meth c H1 locs1 (cells + 3) (slots + 6) Q (F0 m 796 ls [])) :
    W p l e room_1 s m #[Value.ref b] below meth c H locs cells slots Q (F0 m 773 ls []) := by
  obtain ⟨hx, hb, hml, hown, hts, hX, hbl, hK, hN⟩ := C
  have hA : ∀ q : Nat, s.heap.size ≤ q → (fun q : Nat => s.heap.size ≤ q) q := fun _ h => h
  have hbA : ¬ (fun q : Nat => s.heap.size ≤ q) b := Nat.not_le.mpr hbl
  have v1 : vp_in (nI (i + 1)) L := vp_in_nI (by omega) (by omega)
  refine lv_aload_n hx hb dL_law_773 rfl (lv_at hl 1 rfl) ?_
  refine lv_aload_n hx hb dL_law_774 rfl (lv_at hl 0 rfl) ?_
  refine lv_iload_n hx hb dL_law_775 rfl (lv_at hl 3 rfl) ?_
  refine lv_iconst (v := nI 1) hx hb dL_law_776 (by decide) ?_
  refine lv_iadd hx hb dL_law_777 ?_
  refine k_ei (y := nI (i + 1)) (nI_add _ _) ?_
  refine va_sld hx hb hX hbl hbA hS v1 dL_law_778 ?_
  refine go_i (wc := eCells g ad cf u) (wr := mCells g md x) hP hD hS hA [0, 1, 2, 3, 4, 5, 6, 7, 8, 9, 10, 11, 12, 13, 14, 15, 16, 17, 18, 19, 20, 21, 22, 23, 24, 25, 26] [27, 28, 29, 30, 31, 32, 33, 34, 35, 36] rfl rfl rfl rfl (by decide) (fun hPc hDc => rn_V (As := [.int (xs (nI (i + 1)).toNatClampNeg)]) (rest := []) ⟨hx, hb, hml, hown, hts⟩ (c_X3_count l g ad cf u (xs (nI (i + 1)).toNatClampNeg) hc0 hc1 hc2 hST.1 hST.2.1 _) (cwl_X3_count hts) hK hN hPc hDc 0 rfl rfl rfl rfl hl.1 (Nat.le_of_ble_eq_true rfl) dL_law_779 ⟨by show _ ≤ 600000; omega, by show _ ≤ 7302250; omega⟩) ?_
  intro r1 u1 H locs hr1 hP hD hS
  have hP : va_P g.1 vwCl (eCells g ad cf u1 ++ mCells g md x) H := hP.sub [10, 11, 12, 13, 14, 15, 16, 17, 18, 19, 20, 21, 22, 23, 24, 25, 26, 27, 28, 29, 30, 31, 32, 33, 34, 35, 36, 0, 1, 2, 3, 4, 5, 6, 7, 8, 9] rfl
  have hD : va_D (fun q : Nat => s.heap.size ≤ q) (eCells g ad cf u1 ++ mCells g md x) := hD.sub [10, 11, 12, 13, 14, 15, 16, 17, 18, 19, 20, 21, 22, 23, 24, 25, 26, 27, 28, 29, 30, 31, 32, 33, 34, 35, 36, 0, 1, 2, 3, 4, 5, 6, 7, 8, 9] rfl rfl
  refine lv_aload_n hx hb dL_law_782 rfl (lv_at hl 2 rfl) ?_
  refine lv_aload_n hx hb dL_law_783 rfl (lv_at hl 0 rfl) ?_
  refine lv_iload_n hx hb dL_law_784 rfl (lv_at hl 3 rfl) ?_
  refine lv_iconst (v := nI 1) hx hb dL_law_785 (by decide) ?_
  refine lv_iadd hx hb dL_law_786 ?_
  refine k_ei (y := nI (i + 1)) (nI_add _ _) ?_
  refine va_sld hx hb hX hbl hbA hS v1 dL_law_787 ?_
  refine go_i (wc := mCells g md x) (wr := eCells g ad cf u1) hP hD hS hA [27, 28, 29, 30, 31, 32, 33, 34, 35, 36] [0, 1, 2, 3, 4, 5, 6, 7, 8, 9, 10, 11, 12, 13, 14, 15, 16, 17, 18, 19, 20, 21, 22, 23, 24, 25, 26] rfl rfl rfl rfl (by decide) (fun hPc hDc => rn_V (As := [.int (xs (nI (i + 1)).toNatClampNeg)]) (rest := [.int r1]) ⟨hx, hb, hml, hown, hts⟩ (c_X4_count l g md x (xs (nI (i + 1)).toNatClampNeg) hST.2.2.1 _) (cwl_X4_count hts) hK hN hPc hDc 0 rfl rfl rfl rfl hl.1 (Nat.le_of_ble_eq_true rfl) dL_law_788 ⟨by show _ ≤ 600000; omega, by show _ ≤ 7302250; omega⟩) ?_
  intro r2 x1 H locs hr2 hP hD hS
  have hP : va_P g.1 vwCl (eCells g ad cf u1 ++ mCells g md x1) H := hP
  have hD : va_D (fun q : Nat => s.heap.size ≤ q) (eCells g ad cf u1 ++ mCells g md x1) := hD
  have hh : r1 = r2 ∧ ST u1 x1 := ⟨by rw [hr1.2, hr2.2]; exact a_count hST _, ST_keep hST hr1.1 hr2.1⟩
  refine lv_icmp_eq (tgt := 796) hx hb dL_law_791 (by decide) (fun c_9 => ?_) (fun c_9 => ?_)
  · refine W.widen (k := cells + 3) (n := slots + 6) (by omega) (by omega) ?_
    exact kk u1 x1 H locs hh.2 hP hD hS
  · exact absurd hh.1 c_9
