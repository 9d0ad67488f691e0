/-! THE LAW: its cases -/
set_option maxHeartbeats 20000000 in
set_option maxRecDepth 100000 in
theorem case_size {p : Program} {e : Env} {s : State} {m : MethodId} {below : List Frame} {meth : Method} {c : Code} (l : Launch) {g : Gt} {b L : Nat} {xs : Nat → Int32} {Q : State → Prop} (C : LC p s m c g b L xs) (ad : Nat → Nat) (cf : Nat → Option Nat) (md : Nat → Nat) (u : EBS) (x : MS) (hc0 : cf 0 = some (ad 11)) (hc1 : cf 1 = some (ad 15)) (hc2 : cf 2 = some (ad 19)) (hST : ST u x) {i : Nat} (hi : i + 6 ≤ L) (hL : L ≤ 3072) {H : Heap} {locs : List Loc} {cells slots : Nat} (hcl : cells + 3 ≤ 600000) (hsl : slots + 6 ≤ 7302250) (hP : va_P g.1 vwCl (eCells g ad cf u ++ mCells g md x) H) (hD : va_D (fun q : Nat => s.heap.size ≤ q) (eCells g ad cf u ++ mCells g md x)) (hS : va_S (fun q : Nat => s.heap.size ≤ q) s.heap H locs) {ls : Array Slot} (hl : lv_has ls 4 (lvL b ad md i))
    (kk : ∀ (u1 : EBS) (x1 : MS) (H1 : Heap) (locs1 : List Loc), ST u1 x1 → va_P g.1 vwCl (eCells g ad cf u1 ++ mCells g md x1) H1 → va_D (fun q : Nat => s.heap.size ≤ q) (eCells g ad cf u1 ++ mCells g md x1) → va_S (fun q : Nat => s.heap.size ≤ q) s.heap H1 locs1 → W p l e room_1 s m #[Value.ref b] below meth c H1 locs1 (cells + 3) (slots + 6) Q (F0 m 796 ls [])) :
    W p l e room_1 s m #[Value.ref b] below meth c H locs cells slots Q (F0 m 463 ls []) := by
  obtain ⟨hx, hb, hml, hown, hts, hX, hbl, hK, hN⟩ := C
  have hA : ∀ q : Nat, s.heap.size ≤ q → (fun q : Nat => s.heap.size ≤ q) q := fun _ h => h
  have hbA : ¬ (fun q : Nat => s.heap.size ≤ q) b := Nat.not_le.mpr hbl
  have v1 : vp_in (nI (i + 1)) L := vp_in_nI (by omega) (by omega)
  refine lv_aload_n hx hb dL_law_463 rfl (lv_at hl 1 rfl) ?_
  refine lv_aload_n hx hb dL_law_464 rfl (lv_at hl 0 rfl) ?_
  refine lv_iload_n hx hb dL_law_465 rfl (lv_at hl 3 rfl) ?_
  refine lv_iconst (v := nI 1) hx hb dL_law_466 (by decide) ?_
  refine lv_iadd hx hb dL_law_467 ?_
  refine k_ei (y := nI (i + 1)) (nI_add _ _) ?_
  refine va_sld hx hb hX hbl hbA hS v1 dL_law_468 ?_
  refine go_i (wc := eCells g ad cf u) (wr := mCells g md x) hP hD hS hA [0, 1, 2, 3, 4, 5, 6, 7, 8, 9, 10, 11, 12, 13, 14, 15, 16, 17, 18, 19, 20, 21, 22, 23, 24, 25, 26] [27, 28, 29, 30, 31, 32, 33, 34, 35, 36] rfl rfl rfl rfl (by decide) (fun hPc hDc => rn_V (As := [.int (xs (nI (i + 1)).toNatClampNeg)]) (rest := []) ⟨hx, hb, hml, hown, hts⟩ (c_X3_size l g ad cf u (xs (nI (i + 1)).toNatClampNeg) hc0 hc1 hc2 hST.1 hST.2.1 _) (cwl_X3_size hts) hK hN hPc hDc 0 rfl rfl rfl rfl hl.1 (Nat.le_of_ble_eq_true rfl) dL_law_469 ⟨by show _ ≤ 600000; omega, by show _ ≤ 7302250; omega⟩) ?_
  intro r1 u1 H locs hr1 hP hD hS
  have hP : va_P g.1 vwCl (eCells g ad cf u1 ++ mCells g md x) H := hP.sub [10, 11, 12, 13, 14, 15, 16, 17, 18, 19, 20, 21, 22, 23, 24, 25, 26, 27, 28, 29, 30, 31, 32, 33, 34, 35, 36, 0, 1, 2, 3, 4, 5, 6, 7, 8, 9] rfl
  have hD : va_D (fun q : Nat => s.heap.size ≤ q) (eCells g ad cf u1 ++ mCells g md x) := hD.sub [10, 11, 12, 13, 14, 15, 16, 17, 18, 19, 20, 21, 22, 23, 24, 25, 26, 27, 28, 29, 30, 31, 32, 33, 34, 35, 36, 0, 1, 2, 3, 4, 5, 6, 7, 8, 9] rfl rfl
  refine lv_aload_n hx hb dL_law_472 rfl (lv_at hl 2 rfl) ?_
  refine lv_aload_n hx hb dL_law_473 rfl (lv_at hl 0 rfl) ?_
  refine lv_iload_n hx hb dL_law_474 rfl (lv_at hl 3 rfl) ?_
  refine lv_iconst (v := nI 1) hx hb dL_law_475 (by decide) ?_
  refine lv_iadd hx hb dL_law_476 ?_
  refine k_ei (y := nI (i + 1)) (nI_add _ _) ?_
  refine va_sld hx hb hX hbl hbA hS v1 dL_law_477 ?_
  refine go_i (wc := mCells g md x) (wr := eCells g ad cf u1) hP hD hS hA [27, 28, 29, 30, 31, 32, 33, 34, 35, 36] [0, 1, 2, 3, 4, 5, 6, 7, 8, 9, 10, 11, 12, 13, 14, 15, 16, 17, 18, 19, 20, 21, 22, 23, 24, 25, 26] rfl rfl rfl rfl (by decide) (fun hPc hDc => rn_V (As := [.int (xs (nI (i + 1)).toNatClampNeg)]) (rest := [.int r1]) ⟨hx, hb, hml, hown, hts⟩ (c_X4_size l g md x (xs (nI (i + 1)).toNatClampNeg) hST.2.2.1 _) (cwl_X4_size hts) hK hN hPc hDc 0 rfl rfl rfl rfl hl.1 (Nat.le_of_ble_eq_true rfl) dL_law_478 ⟨by show _ ≤ 600000; omega, by show _ ≤ 7302250; omega⟩) ?_
  intro r2 x1 H locs hr2 hP hD hS
  have hP : va_P g.1 vwCl (eCells g ad cf u1 ++ mCells g md x1) H := hP
  have hD : va_D (fun q : Nat => s.heap.size ≤ q) (eCells g ad cf u1 ++ mCells g md x1) := hD
  have hh : r1 = r2 ∧ ST u1 x1 := ⟨a_size hST hr1.2 hr2.2, ST_keep hST hr1.1 hr2.1⟩
  refine lv_icmp_eq (tgt := 796) hx hb dL_law_481 (by decide) (fun c_9 => ?_) (fun c_9 => ?_)
  · refine W.widen (k := cells + 3) (n := slots + 6) (by omega) (by omega) ?_
    exact kk u1 x1 H locs hh.2 hP hD hS
  · exact absurd hh.1 c_9
set_option maxHeartbeats 20000000 in
set_option maxRecDepth 100000 in
theorem case_above {p : Program} {e : Env} {s : State} {m : MethodId} {below : List Frame} {meth : Method} {c : Code} (l : Launch) {g : Gt} {b L : Nat} {xs : Nat → Int32} {Q : State → Prop} (C : LC p s m c g b L xs) (ad : Nat → Nat) (cf : Nat → Option Nat) (md : Nat → Nat) (u : EBS) (x : MS) (hc0 : cf 0 = some (ad 11)) (hc1 : cf 1 = some (ad 15)) (hc2 : cf 2 = some (ad 19)) (hST : ST u x) {i : Nat} (hi : i + 6 ≤ L) (hL : L ≤ 3072) {H : Heap} {locs : List Loc} {cells slots : Nat} (hcl : cells + 3 ≤ 600000) (hsl : slots + 6 ≤ 7302250) (hP : va_P g.1 vwCl (eCells g ad cf u ++ mCells g md x) H) (hD : va_D (fun q : Nat => s.heap.size ≤ q) (eCells g ad cf u ++ mCells g md x)) (hS : va_S (fun q : Nat => s.heap.size ≤ q) s.heap H locs) {ls : Array Slot} (hl : lv_has ls 4 (lvL b ad md i))
    (kk : ∀ (u1 : EBS) (x1 : MS) (H1 : Heap) (locs1 : List Loc), ST u1 x1 → va_P g.1 vwCl (eCells g ad cf u1 ++ mCells g md x1) H1 → va_D (fun q : Nat => s.heap.size ≤ q) (eCells g ad cf u1 ++ mCells g md x1) → va_S (fun q : Nat => s.heap.size ≤ q) s.heap H1 locs1 → W p l e room_1 s m #[Value.ref b] below meth c H1 locs1 (cells + 3) (slots + 6) Q (F0 m 796 ls [])) :
    W p l e room_1 s m #[Value.ref b] below meth c H locs cells slots Q (F0 m 486 ls []) := by
  obtain ⟨hx, hb, hml, hown, hts, hX, hbl, hK, hN⟩ := C
  have hA : ∀ q : Nat, s.heap.size ≤ q → (fun q : Nat => s.heap.size ≤ q) q := fun _ h => h
  have hbA : ¬ (fun q : Nat => s.heap.size ≤ q) b := Nat.not_le.mpr hbl
  have v1 : vp_in (nI (i + 1)) L := vp_in_nI (by omega) (by omega)
  have v2 : vp_in (nI (i + 2)) L := vp_in_nI (by omega) (by omega)
  have v3 : vp_in (nI (i + 3)) L := vp_in_nI (by omega) (by omega)
  refine lv_aload_n hx hb dL_law_486 rfl (lv_at hl 1 rfl) ?_
  refine lv_aload_n hx hb dL_law_487 rfl (lv_at hl 0 rfl) ?_
  refine lv_iload_n hx hb dL_law_488 rfl (lv_at hl 3 rfl) ?_
  refine lv_iconst (v := nI 1) hx hb dL_law_489 (by decide) ?_
  refine lv_iadd hx hb dL_law_490 ?_
  refine k_ei (y := nI (i + 1)) (nI_add _ _) ?_
  refine va_sld hx hb hX hbl hbA hS v1 dL_law_491 ?_
  refine lv_aload_n hx hb dL_law_492 rfl (lv_at hl 0 rfl) ?_
  refine lv_iload_n hx hb dL_law_493 rfl (lv_at hl 3 rfl) ?_
  refine lv_iconst (v := nI 2) hx hb dL_law_494 (by decide) ?_
  refine lv_iadd hx hb dL_law_495 ?_
  refine k_ei (y := nI (i + 2)) (nI_add _ _) ?_
  refine va_sld hx hb hX hbl hbA hS v2 dL_law_496 ?_
  refine lv_aload_n hx hb dL_law_497 rfl (lv_at hl 0 rfl) ?_
  refine lv_iload_n hx hb dL_law_498 rfl (lv_at hl 3 rfl) ?_
  refine lv_iconst (v := nI 3) hx hb dL_law_499 (by decide) ?_
  refine lv_iadd hx hb dL_law_500 ?_
  refine k_ei (y := nI (i + 3)) (nI_add _ _) ?_
  refine va_sld hx hb hX hbl hbA hS v3 dL_law_501 ?_
  refine go_l (wc := eCells g ad cf u) (wr := mCells g md x) hP hD hS hA [0, 1, 2, 3, 4, 5, 6, 7, 8, 9, 10, 11, 12, 13, 14, 15, 16, 17, 18, 19, 20, 21, 22, 23, 24, 25, 26] [27, 28, 29, 30, 31, 32, 33, 34, 35, 36] rfl rfl rfl rfl (by decide) (fun hPc hDc => rn_V (As := [.int (xs (nI (i + 1)).toNatClampNeg), .int (xs (nI (i + 2)).toNatClampNeg), .int (xs (nI (i + 3)).toNatClampNeg)]) (rest := []) ⟨hx, hb, hml, hown, hts⟩ (c_X3_above l g ad cf u (xs (nI (i + 1)).toNatClampNeg) (xs (nI (i + 2)).toNatClampNeg) (xs (nI (i + 3)).toNatClampNeg) hc0 hc1 hc2 hST.1 hST.2.1 _) (cwl_X3_above hts) hK hN hPc hDc 0 rfl rfl rfl rfl hl.1 (Nat.le_of_ble_eq_true rfl) dL_law_502 ⟨by show _ ≤ 600000; omega, by show _ ≤ 7302250; omega⟩) ?_
  intro r1 u1 H locs hr1 hP hD hS
  have hP : va_P g.1 vwCl (eCells g ad cf u1 ++ mCells g md x) H := hP.sub [10, 11, 12, 13, 14, 15, 16, 17, 18, 19, 20, 21, 22, 23, 24, 25, 26, 27, 28, 29, 30, 31, 32, 33, 34, 35, 36, 0, 1, 2, 3, 4, 5, 6, 7, 8, 9] rfl
  have hD : va_D (fun q : Nat => s.heap.size ≤ q) (eCells g ad cf u1 ++ mCells g md x) := hD.sub [10, 11, 12, 13, 14, 15, 16, 17, 18, 19, 20, 21, 22, 23, 24, 25, 26, 27, 28, 29, 30, 31, 32, 33, 34, 35, 36, 0, 1, 2, 3, 4, 5, 6, 7, 8, 9] rfl rfl
  refine lv_aload_n hx hb dL_law_505 rfl (lv_at hl 2 rfl) ?_
  refine lv_aload_n hx hb dL_law_506 rfl (lv_at hl 0 rfl) ?_
  refine lv_iload_n hx hb dL_law_507 rfl (lv_at hl 3 rfl) ?_
  refine lv_iconst (v := nI 1) hx hb dL_law_508 (by decide) ?_
  refine lv_iadd hx hb dL_law_509 ?_
  refine k_ei (y := nI (i + 1)) (nI_add _ _) ?_
  refine va_sld hx hb hX hbl hbA hS v1 dL_law_510 ?_
  refine lv_aload_n hx hb dL_law_511 rfl (lv_at hl 0 rfl) ?_
  refine lv_iload_n hx hb dL_law_512 rfl (lv_at hl 3 rfl) ?_
  refine lv_iconst (v := nI 2) hx hb dL_law_513 (by decide) ?_
  refine lv_iadd hx hb dL_law_514 ?_
  refine k_ei (y := nI (i + 2)) (nI_add _ _) ?_
  refine va_sld hx hb hX hbl hbA hS v2 dL_law_515 ?_
  refine lv_aload_n hx hb dL_law_516 rfl (lv_at hl 0 rfl) ?_
  refine lv_iload_n hx hb dL_law_517 rfl (lv_at hl 3 rfl) ?_
  refine lv_iconst (v := nI 3) hx hb dL_law_518 (by decide) ?_
  refine lv_iadd hx hb dL_law_519 ?_
  refine k_ei (y := nI (i + 3)) (nI_add _ _) ?_
  refine va_sld hx hb hX hbl hbA hS v3 dL_law_520 ?_
  refine go_l (wc := mCells g md x) (wr := eCells g ad cf u1) hP hD hS hA [27, 28, 29, 30, 31, 32, 33, 34, 35, 36] [0, 1, 2, 3, 4, 5, 6, 7, 8, 9, 10, 11, 12, 13, 14, 15, 16, 17, 18, 19, 20, 21, 22, 23, 24, 25, 26] rfl rfl rfl rfl (by decide) (fun hPc hDc => rn_V (As := [.int (xs (nI (i + 1)).toNatClampNeg), .int (xs (nI (i + 2)).toNatClampNeg), .int (xs (nI (i + 3)).toNatClampNeg)]) (rest := [.long r1]) ⟨hx, hb, hml, hown, hts⟩ (c_X4_above l g md x (xs (nI (i + 1)).toNatClampNeg) (xs (nI (i + 2)).toNatClampNeg) (xs (nI (i + 3)).toNatClampNeg) hST.2.2.1 _) (cwl_X4_above hts) hK hN hPc hDc 0 rfl rfl rfl rfl hl.1 (Nat.le_of_ble_eq_true rfl) dL_law_521 ⟨by show _ ≤ 600000; omega, by show _ ≤ 7302250; omega⟩) ?_
  intro r2 x1 H locs hr2 hP hD hS
  have hP : va_P g.1 vwCl (eCells g ad cf u1 ++ mCells g md x1) H := hP
  have hD : va_D (fun q : Nat => s.heap.size ≤ q) (eCells g ad cf u1 ++ mCells g md x1) := hD
  refine W.lcmp hx hb dL_law_524 ?_
  have hh : r1 = r2 ∧ ST u1 x1 := ⟨a_above hST hr1.2 hr2.2, ST_keep hST hr1.1 hr2.1⟩
  refine lv_if_eq (tgt := 796) hx hb dL_law_525 (by decide) (fun c_9 => ?_) (fun c_9 => ?_)
  · refine W.widen (k := cells + 3) (n := slots + 6) (by omega) (by omega) ?_
    exact kk u1 x1 H locs hh.2 hP hD hS
  · exact absurd ((lc_eq _ _).mpr hh.1) c_9
set_option maxHeartbeats 20000000 in
set_option maxRecDepth 100000 in
theorem case_cost {p : Program} {e : Env} {s : State} {m : MethodId} {below : List Frame} {meth : Method} {c : Code} (l : Launch) {g : Gt} {b L : Nat} {xs : Nat → Int32} {Q : State → Prop} (C : LC p s m c g b L xs) (ad : Nat → Nat) (cf : Nat → Option Nat) (md : Nat → Nat) (u : EBS) (x : MS) (hc0 : cf 0 = some (ad 11)) (hc1 : cf 1 = some (ad 15)) (hc2 : cf 2 = some (ad 19)) (hST : ST u x) {i : Nat} (hi : i + 6 ≤ L) (hL : L ≤ 3072) {H : Heap} {locs : List Loc} {cells slots : Nat} (hcl : cells + 3 ≤ 600000) (hsl : slots + 6 ≤ 7302250) (hP : va_P g.1 vwCl (eCells g ad cf u ++ mCells g md x) H) (hD : va_D (fun q : Nat => s.heap.size ≤ q) (eCells g ad cf u ++ mCells g md x)) (hS : va_S (fun q : Nat => s.heap.size ≤ q) s.heap H locs) {ls : Array Slot} (hl : lv_has ls 4 (lvL b ad md i))
    (kk : ∀ (u1 : EBS) (x1 : MS) (H1 : Heap) (locs1 : List Loc), ST u1 x1 → va_P g.1 vwCl (eCells g ad cf u1 ++ mCells g md x1) H1 → va_D (fun q : Nat => s.heap.size ≤ q) (eCells g ad cf u1 ++ mCells g md x1) → va_S (fun q : Nat => s.heap.size ≤ q) s.heap H1 locs1 → W p l e room_1 s m #[Value.ref b] below meth c H1 locs1 (cells + 3) (slots + 6) Q (F0 m 796 ls [])) :
    W p l e room_1 s m #[Value.ref b] below meth c H locs cells slots Q (F0 m 530 ls []) := by
  obtain ⟨hx, hb, hml, hown, hts, hX, hbl, hK, hN⟩ := C
  have hA : ∀ q : Nat, s.heap.size ≤ q → (fun q : Nat => s.heap.size ≤ q) q := fun _ h => h
  have hbA : ¬ (fun q : Nat => s.heap.size ≤ q) b := Nat.not_le.mpr hbl
  have v1 : vp_in (nI (i + 1)) L := vp_in_nI (by omega) (by omega)
  have v2 : vp_in (nI (i + 2)) L := vp_in_nI (by omega) (by omega)
  have v3 : vp_in (nI (i + 3)) L := vp_in_nI (by omega) (by omega)
  have v4 : vp_in (nI (i + 4)) L := vp_in_nI (by omega) (by omega)
  have v5 : vp_in (nI (i + 5)) L := vp_in_nI (by omega) (by omega)
  refine lv_aload_n hx hb dL_law_530 rfl (lv_at hl 1 rfl) ?_
  refine lv_aload_n hx hb dL_law_531 rfl (lv_at hl 0 rfl) ?_
  refine lv_iload_n hx hb dL_law_532 rfl (lv_at hl 3 rfl) ?_
  refine lv_iconst (v := nI 1) hx hb dL_law_533 (by decide) ?_
  refine lv_iadd hx hb dL_law_534 ?_
  refine k_ei (y := nI (i + 1)) (nI_add _ _) ?_
  refine va_sld hx hb hX hbl hbA hS v1 dL_law_535 ?_
  refine lv_aload_n hx hb dL_law_536 rfl (lv_at hl 0 rfl) ?_
  refine lv_iload_n hx hb dL_law_537 rfl (lv_at hl 3 rfl) ?_
  refine lv_iconst (v := nI 2) hx hb dL_law_538 (by decide) ?_
  refine lv_iadd hx hb dL_law_539 ?_
  refine k_ei (y := nI (i + 2)) (nI_add _ _) ?_
  refine va_sld hx hb hX hbl hbA hS v2 dL_law_540 ?_
  refine lv_aload_n hx hb dL_law_541 rfl (lv_at hl 0 rfl) ?_
  refine lv_iload_n hx hb dL_law_542 rfl (lv_at hl 3 rfl) ?_
  refine lv_iconst (v := nI 3) hx hb dL_law_543 (by decide) ?_
  refine lv_iadd hx hb dL_law_544 ?_
  refine k_ei (y := nI (i + 3)) (nI_add _ _) ?_
  refine va_sld hx hb hX hbl hbA hS v3 dL_law_545 ?_
  refine lv_aload_n hx hb dL_law_546 rfl (lv_at hl 0 rfl) ?_
  refine lv_iload_n hx hb dL_law_547 rfl (lv_at hl 3 rfl) ?_
  refine lv_iconst (v := nI 4) hx hb dL_law_548 (by decide) ?_
  refine lv_iadd hx hb dL_law_549 ?_
  refine k_ei (y := nI (i + 4)) (nI_add _ _) ?_
  refine va_sld hx hb hX hbl hbA hS v4 dL_law_550 ?_
  refine lv_aload_n hx hb dL_law_551 rfl (lv_at hl 0 rfl) ?_
  refine lv_iload_n hx hb dL_law_552 rfl (lv_at hl 3 rfl) ?_
  refine lv_iconst (v := nI 5) hx hb dL_law_553 (by decide) ?_
  refine lv_iadd hx hb dL_law_554 ?_
  refine k_ei (y := nI (i + 5)) (nI_add _ _) ?_
  refine va_sld hx hb hX hbl hbA hS v5 dL_law_555 ?_
  refine go_l (wc := eCells g ad cf u) (wr := mCells g md x) hP hD hS hA [0, 1, 2, 3, 4, 5, 6, 7, 8, 9, 10, 11, 12, 13, 14, 15, 16, 17, 18, 19, 20, 21, 22, 23, 24, 25, 26] [27, 28, 29, 30, 31, 32, 33, 34, 35, 36] rfl rfl rfl rfl (by decide) (fun hPc hDc => rn_V (As := [.int (xs (nI (i + 1)).toNatClampNeg), .int (xs (nI (i + 2)).toNatClampNeg), .int (xs (nI (i + 3)).toNatClampNeg), .int (xs (nI (i + 4)).toNatClampNeg), .int (xs (nI (i + 5)).toNatClampNeg)]) (rest := []) ⟨hx, hb, hml, hown, hts⟩ (c_X3_cost l g ad cf u (xs (nI (i + 1)).toNatClampNeg) (xs (nI (i + 2)).toNatClampNeg) (xs (nI (i + 3)).toNatClampNeg) (xs (nI (i + 4)).toNatClampNeg) (xs (nI (i + 5)).toNatClampNeg) hc0 hc1 hc2 hST.1 hST.2.1 _) (cwl_X3_cost hts) hK hN hPc hDc 0 rfl rfl rfl rfl hl.1 (Nat.le_of_ble_eq_true rfl) dL_law_556 ⟨by show _ ≤ 600000; omega, by show _ ≤ 7302250; omega⟩) ?_
  intro r1 u1 H locs hr1 hP hD hS
  have hP : va_P g.1 vwCl (eCells g ad cf u1 ++ mCells g md x) H := hP.sub [10, 11, 12, 13, 14, 15, 16, 17, 18, 19, 20, 21, 22, 23, 24, 25, 26, 27, 28, 29, 30, 31, 32, 33, 34, 35, 36, 0, 1, 2, 3, 4, 5, 6, 7, 8, 9] rfl
  have hD : va_D (fun q : Nat => s.heap.size ≤ q) (eCells g ad cf u1 ++ mCells g md x) := hD.sub [10, 11, 12, 13, 14, 15, 16, 17, 18, 19, 20, 21, 22, 23, 24, 25, 26, 27, 28, 29, 30, 31, 32, 33, 34, 35, 36, 0, 1, 2, 3, 4, 5, 6, 7, 8, 9] rfl rfl
  refine lv_aload_n hx hb dL_law_559 rfl (lv_at hl 2 rfl) ?_
  refine lv_aload_n hx hb dL_law_560 rfl (lv_at hl 0 rfl) ?_
  refine lv_iload_n hx hb dL_law_561 rfl (lv_at hl 3 rfl) ?_
  refine lv_iconst (v := nI 1) hx hb dL_law_562 (by decide) ?_
  refine lv_iadd hx hb dL_law_563 ?_
  refine k_ei (y := nI (i + 1)) (nI_add _ _) ?_
  refine va_sld hx hb hX hbl hbA hS v1 dL_law_564 ?_
  refine lv_aload_n hx hb dL_law_565 rfl (lv_at hl 0 rfl) ?_
  refine lv_iload_n hx hb dL_law_566 rfl (lv_at hl 3 rfl) ?_
  refine lv_iconst (v := nI 2) hx hb dL_law_567 (by decide) ?_
  refine lv_iadd hx hb dL_law_568 ?_
  refine k_ei (y := nI (i + 2)) (nI_add _ _) ?_
  refine va_sld hx hb hX hbl hbA hS v2 dL_law_569 ?_
  refine lv_aload_n hx hb dL_law_570 rfl (lv_at hl 0 rfl) ?_
  refine lv_iload_n hx hb dL_law_571 rfl (lv_at hl 3 rfl) ?_
  refine lv_iconst (v := nI 3) hx hb dL_law_572 (by decide) ?_
  refine lv_iadd hx hb dL_law_573 ?_
  refine k_ei (y := nI (i + 3)) (nI_add _ _) ?_
  refine va_sld hx hb hX hbl hbA hS v3 dL_law_574 ?_
  refine lv_aload_n hx hb dL_law_575 rfl (lv_at hl 0 rfl) ?_
  refine lv_iload_n hx hb dL_law_576 rfl (lv_at hl 3 rfl) ?_
  refine lv_iconst (v := nI 4) hx hb dL_law_577 (by decide) ?_
  refine lv_iadd hx hb dL_law_578 ?_
  refine k_ei (y := nI (i + 4)) (nI_add _ _) ?_
  refine va_sld hx hb hX hbl hbA hS v4 dL_law_579 ?_
  refine lv_aload_n hx hb dL_law_580 rfl (lv_at hl 0 rfl) ?_
  refine lv_iload_n hx hb dL_law_581 rfl (lv_at hl 3 rfl) ?_
  refine lv_iconst (v := nI 5) hx hb dL_law_582 (by decide) ?_
  refine lv_iadd hx hb dL_law_583 ?_
  refine k_ei (y := nI (i + 5)) (nI_add _ _) ?_
  refine va_sld hx hb hX hbl hbA hS v5 dL_law_584 ?_
  refine go_l (wc := mCells g md x) (wr := eCells g ad cf u1) hP hD hS hA [27, 28, 29, 30, 31, 32, 33, 34, 35, 36] [0, 1, 2, 3, 4, 5, 6, 7, 8, 9, 10, 11, 12, 13, 14, 15, 16, 17, 18, 19, 20, 21, 22, 23, 24, 25, 26] rfl rfl rfl rfl (by decide) (fun hPc hDc => rn_V (As := [.int (xs (nI (i + 1)).toNatClampNeg), .int (xs (nI (i + 2)).toNatClampNeg), .int (xs (nI (i + 3)).toNatClampNeg), .int (xs (nI (i + 4)).toNatClampNeg), .int (xs (nI (i + 5)).toNatClampNeg)]) (rest := [.long r1]) ⟨hx, hb, hml, hown, hts⟩ (c_X4_cost l g md x (xs (nI (i + 1)).toNatClampNeg) (xs (nI (i + 2)).toNatClampNeg) (xs (nI (i + 3)).toNatClampNeg) (xs (nI (i + 4)).toNatClampNeg) (xs (nI (i + 5)).toNatClampNeg) hST.2.2.1 _) (cwl_X4_cost hts) hK hN hPc hDc 0 rfl rfl rfl rfl hl.1 (Nat.le_of_ble_eq_true rfl) dL_law_585 ⟨by show _ ≤ 600000; omega, by show _ ≤ 7302250; omega⟩) ?_
  intro r2 x1 H locs hr2 hP hD hS
  have hP : va_P g.1 vwCl (eCells g ad cf u1 ++ mCells g md x1) H := hP
  have hD : va_D (fun q : Nat => s.heap.size ≤ q) (eCells g ad cf u1 ++ mCells g md x1) := hD
  refine W.lcmp hx hb dL_law_588 ?_
  have hh : r1 = r2 ∧ ST u1 x1 := ⟨a_cost hST hr1.2 hr2.2, ST_keep hST hr1.1 hr2.1⟩
  refine lv_if_eq (tgt := 796) hx hb dL_law_589 (by decide) (fun c_9 => ?_) (fun c_9 => ?_)
  · refine W.widen (k := cells + 3) (n := slots + 6) (by omega) (by omega) ?_
    exact kk u1 x1 H locs hh.2 hP hD hS
  · exact absurd ((lc_eq _ _).mpr hh.1) c_9
set_option maxHeartbeats 20000000 in
set_option maxRecDepth 100000 in
theorem case_span {p : Program} {e : Env} {s : State} {m : MethodId} {below : List Frame} {meth : Method} {c : Code} (l : Launch) {g : Gt} {b L : Nat} {xs : Nat → Int32} {Q : State → Prop} (C : LC p s m c g b L xs) (ad : Nat → Nat) (cf : Nat → Option Nat) (md : Nat → Nat) (u : EBS) (x : MS) (hc0 : cf 0 = some (ad 11)) (hc1 : cf 1 = some (ad 15)) (hc2 : cf 2 = some (ad 19)) (hST : ST u x) {i : Nat} (hi : i + 6 ≤ L) (hL : L ≤ 3072) {H : Heap} {locs : List Loc} {cells slots : Nat} (hcl : cells + 3 ≤ 600000) (hsl : slots + 6 ≤ 7302250) (hP : va_P g.1 vwCl (eCells g ad cf u ++ mCells g md x) H) (hD : va_D (fun q : Nat => s.heap.size ≤ q) (eCells g ad cf u ++ mCells g md x)) (hS : va_S (fun q : Nat => s.heap.size ≤ q) s.heap H locs) {ls : Array Slot} (hl : lv_has ls 4 (lvL b ad md i))
    (kk : ∀ (u1 : EBS) (x1 : MS) (H1 : Heap) (locs1 : List Loc), ST u1 x1 → va_P g.1 vwCl (eCells g ad cf u1 ++ mCells g md x1) H1 → va_D (fun q : Nat => s.heap.size ≤ q) (eCells g ad cf u1 ++ mCells g md x1) → va_S (fun q : Nat => s.heap.size ≤ q) s.heap H1 locs1 → W p l e room_1 s m #[Value.ref b] below meth c H1 locs1 (cells + 3) (slots + 6) Q (F0 m 796 ls [])) :
    W p l e room_1 s m #[Value.ref b] below meth c H locs cells slots Q (F0 m 594 ls []) := by
  obtain ⟨hx, hb, hml, hown, hts, hX, hbl, hK, hN⟩ := C
  have hA : ∀ q : Nat, s.heap.size ≤ q → (fun q : Nat => s.heap.size ≤ q) q := fun _ h => h
  have hbA : ¬ (fun q : Nat => s.heap.size ≤ q) b := Nat.not_le.mpr hbl
  have v1 : vp_in (nI (i + 1)) L := vp_in_nI (by omega) (by omega)
  have v2 : vp_in (nI (i + 2)) L := vp_in_nI (by omega) (by omega)
  have v3 : vp_in (nI (i + 3)) L := vp_in_nI (by omega) (by omega)
  have v4 : vp_in (nI (i + 4)) L := vp_in_nI (by omega) (by omega)
  refine lv_aload_n hx hb dL_law_594 rfl (lv_at hl 1 rfl) ?_
  refine lv_aload_n hx hb dL_law_595 rfl (lv_at hl 0 rfl) ?_
  refine lv_iload_n hx hb dL_law_596 rfl (lv_at hl 3 rfl) ?_
  refine lv_iconst (v := nI 1) hx hb dL_law_597 (by decide) ?_
  refine lv_iadd hx hb dL_law_598 ?_
  refine k_ei (y := nI (i + 1)) (nI_add _ _) ?_
  refine va_sld hx hb hX hbl hbA hS v1 dL_law_599 ?_
  refine lv_aload_n hx hb dL_law_600 rfl (lv_at hl 0 rfl) ?_
  refine lv_iload_n hx hb dL_law_601 rfl (lv_at hl 3 rfl) ?_
  refine lv_iconst (v := nI 2) hx hb dL_law_602 (by decide) ?_
  refine lv_iadd hx hb dL_law_603 ?_
  refine k_ei (y := nI (i + 2)) (nI_add _ _) ?_
  refine va_sld hx hb hX hbl hbA hS v2 dL_law_604 ?_
  refine lv_aload_n hx hb dL_law_605 rfl (lv_at hl 0 rfl) ?_
  refine lv_iload_n hx hb dL_law_606 rfl (lv_at hl 3 rfl) ?_
  refine lv_iconst (v := nI 3) hx hb dL_law_607 (by decide) ?_
  refine lv_iadd hx hb dL_law_608 ?_
  refine k_ei (y := nI (i + 3)) (nI_add _ _) ?_
  refine va_sld hx hb hX hbl hbA hS v3 dL_law_609 ?_
  refine lv_if_eq (tgt := 617) hx hb dL_law_610 (by decide) (fun c_1 => ?_) (fun c_1 => ?_)
  · have c_0 := c_1
    refine lv_iconst (v := nI 0) hx hb dL_law_617 (by decide) ?_
    refine lv_aload_n hx hb dL_law_618 rfl (lv_at hl 0 rfl) ?_
    refine lv_iload_n hx hb dL_law_619 rfl (lv_at hl 3 rfl) ?_
    refine lv_iconst (v := nI 4) hx hb dL_law_620 (by decide) ?_
    refine lv_iadd hx hb dL_law_621 ?_
    refine k_ei (y := nI (i + 4)) (nI_add _ _) ?_
    refine va_sld hx hb hX hbl hbA hS v4 dL_law_622 ?_
    refine go_l (wc := eCells g ad cf u) (wr := mCells g md x) hP hD hS hA [0, 1, 2, 3, 4, 5, 6, 7, 8, 9, 10, 11, 12, 13, 14, 15, 16, 17, 18, 19, 20, 21, 22, 23, 24, 25, 26] [27, 28, 29, 30, 31, 32, 33, 34, 35, 36] rfl rfl rfl rfl (by decide) (fun hPc hDc => rn_V (As := [.int (xs (nI (i + 1)).toNatClampNeg), .int (xs (nI (i + 2)).toNatClampNeg), .int (nI 0), .int (xs (nI (i + 4)).toNatClampNeg)]) (rest := []) ⟨hx, hb, hml, hown, hts⟩ (c_X3_span l g ad cf u (xs (nI (i + 1)).toNatClampNeg) (xs (nI (i + 2)).toNatClampNeg) (nI 0) (xs (nI (i + 4)).toNatClampNeg) hc0 hc1 hc2 hST.1 hST.2.1 _) (cwl_X3_span hts) hK hN hPc hDc 0 rfl rfl rfl rfl hl.1 (Nat.le_of_ble_eq_true rfl) dL_law_623 ⟨by show _ ≤ 600000; omega, by show _ ≤ 7302250; omega⟩) ?_
    intro r1 u1 H locs hr1 hP hD hS
    have hP : va_P g.1 vwCl (eCells g ad cf u1 ++ mCells g md x) H := hP.sub [10, 11, 12, 13, 14, 15, 16, 17, 18, 19, 20, 21, 22, 23, 24, 25, 26, 27, 28, 29, 30, 31, 32, 33, 34, 35, 36, 0, 1, 2, 3, 4, 5, 6, 7, 8, 9] rfl
    have hD : va_D (fun q : Nat => s.heap.size ≤ q) (eCells g ad cf u1 ++ mCells g md x) := hD.sub [10, 11, 12, 13, 14, 15, 16, 17, 18, 19, 20, 21, 22, 23, 24, 25, 26, 27, 28, 29, 30, 31, 32, 33, 34, 35, 36, 0, 1, 2, 3, 4, 5, 6, 7, 8, 9] rfl rfl
    refine lv_aload_n hx hb dL_law_626 rfl (lv_at hl 2 rfl) ?_
    refine lv_aload_n hx hb dL_law_627 rfl (lv_at hl 0 rfl) ?_
    refine lv_iload_n hx hb dL_law_628 rfl (lv_at hl 3 rfl) ?_
    refine lv_iconst (v := nI 1) hx hb dL_law_629 (by decide) ?_
    refine lv_iadd hx hb dL_law_630 ?_
    refine k_ei (y := nI (i + 1)) (nI_add _ _) ?_
    refine va_sld hx hb hX hbl hbA hS v1 dL_law_631 ?_
    refine lv_aload_n hx hb dL_law_632 rfl (lv_at hl 0 rfl) ?_
    refine lv_iload_n hx hb dL_law_633 rfl (lv_at hl 3 rfl) ?_
    refine lv_iconst (v := nI 2) hx hb dL_law_634 (by decide) ?_
    refine lv_iadd hx hb dL_law_635 ?_
    refine k_ei (y := nI (i + 2)) (nI_add _ _) ?_
    refine va_sld hx hb hX hbl hbA hS v2 dL_law_636 ?_
    refine lv_aload_n hx hb dL_law_637 rfl (lv_at hl 0 rfl) ?_
    refine lv_iload_n hx hb dL_law_638 rfl (lv_at hl 3 rfl) ?_
    refine lv_iconst (v := nI 3) hx hb dL_law_639 (by decide) ?_
    refine lv_iadd hx hb dL_law_640 ?_
    refine k_ei (y := nI (i + 3)) (nI_add _ _) ?_
    refine va_sld hx hb hX hbl hbA hS v3 dL_law_641 ?_
    refine lv_if_eq (tgt := 649) hx hb dL_law_642 (by decide) (fun c_1 => ?_) (fun c_1 => ?_)
    · skip
      refine lv_iconst (v := nI 0) hx hb dL_law_649 (by decide) ?_
      refine lv_aload_n hx hb dL_law_650 rfl (lv_at hl 0 rfl) ?_
      refine lv_iload_n hx hb dL_law_651 rfl (lv_at hl 3 rfl) ?_
      refine lv_iconst (v := nI 4) hx hb dL_law_652 (by decide) ?_
      refine lv_iadd hx hb dL_law_653 ?_
      refine k_ei (y := nI (i + 4)) (nI_add _ _) ?_
      refine va_sld hx hb hX hbl hbA hS v4 dL_law_654 ?_
      refine go_l (wc := mCells g md x) (wr := eCells g ad cf u1) hP hD hS hA [27, 28, 29, 30, 31, 32, 33, 34, 35, 36] [0, 1, 2, 3, 4, 5, 6, 7, 8, 9, 10, 11, 12, 13, 14, 15, 16, 17, 18, 19, 20, 21, 22, 23, 24, 25, 26] rfl rfl rfl rfl (by decide) (fun hPc hDc => rn_V (As := [.int (xs (nI (i + 1)).toNatClampNeg), .int (xs (nI (i + 2)).toNatClampNeg), .int (nI 0), .int (xs (nI (i + 4)).toNatClampNeg)]) (rest := [.long r1]) ⟨hx, hb, hml, hown, hts⟩ (c_X4_span l g md x (xs (nI (i + 1)).toNatClampNeg) (xs (nI (i + 2)).toNatClampNeg) (nI 0) (xs (nI (i + 4)).toNatClampNeg) hST.2.2.1 _) (cwl_X4_span hts) hK hN hPc hDc 0 rfl rfl rfl rfl hl.1 (Nat.le_of_ble_eq_true rfl) dL_law_655 ⟨by show _ ≤ 600000; omega, by show _ ≤ 7302250; omega⟩) ?_
      intro r2 x1 H locs hr2 hP hD hS
      have hP : va_P g.1 vwCl (eCells g ad cf u1 ++ mCells g md x1) H := hP
      have hD : va_D (fun q : Nat => s.heap.size ≤ q) (eCells g ad cf u1 ++ mCells g md x1) := hD
      refine W.lcmp hx hb dL_law_658 ?_
      have hh : r1 = r2 ∧ ST u1 x1 := ⟨a_span hST hr1.2 hr2.2, ST_keep hST hr1.1 hr2.1⟩
      refine lv_if_eq (tgt := 796) hx hb dL_law_659 (by decide) (fun c_9 => ?_) (fun c_9 => ?_)
      · refine W.widen (k := cells + 3) (n := slots + 6) (by omega) (by omega) ?_
        exact kk u1 x1 H locs hh.2 hP hD hS
      · exact absurd ((lc_eq _ _).mpr hh.1) c_9
    · exact absurd c_0 c_1
  · have c_0 := c_1
    refine lv_iconst (v := nI 1) hx hb dL_law_613 (by decide) ?_
    refine lv_goto (tgt := 618) hx hb dL_law_614 (by decide) ?_
    refine lv_aload_n hx hb dL_law_618 rfl (lv_at hl 0 rfl) ?_
    refine lv_iload_n hx hb dL_law_619 rfl (lv_at hl 3 rfl) ?_
    refine lv_iconst (v := nI 4) hx hb dL_law_620 (by decide) ?_
    refine lv_iadd hx hb dL_law_621 ?_
    refine k_ei (y := nI (i + 4)) (nI_add _ _) ?_
    refine va_sld hx hb hX hbl hbA hS v4 dL_law_622 ?_
    refine go_l (wc := eCells g ad cf u) (wr := mCells g md x) hP hD hS hA [0, 1, 2, 3, 4, 5, 6, 7, 8, 9, 10, 11, 12, 13, 14, 15, 16, 17, 18, 19, 20, 21, 22, 23, 24, 25, 26] [27, 28, 29, 30, 31, 32, 33, 34, 35, 36] rfl rfl rfl rfl (by decide) (fun hPc hDc => rn_V (As := [.int (xs (nI (i + 1)).toNatClampNeg), .int (xs (nI (i + 2)).toNatClampNeg), .int (nI 1), .int (xs (nI (i + 4)).toNatClampNeg)]) (rest := []) ⟨hx, hb, hml, hown, hts⟩ (c_X3_span l g ad cf u (xs (nI (i + 1)).toNatClampNeg) (xs (nI (i + 2)).toNatClampNeg) (nI 1) (xs (nI (i + 4)).toNatClampNeg) hc0 hc1 hc2 hST.1 hST.2.1 _) (cwl_X3_span hts) hK hN hPc hDc 0 rfl rfl rfl rfl hl.1 (Nat.le_of_ble_eq_true rfl) dL_law_623 ⟨by show _ ≤ 600000; omega, by show _ ≤ 7302250; omega⟩) ?_
    intro r1 u1 H locs hr1 hP hD hS
    have hP : va_P g.1 vwCl (eCells g ad cf u1 ++ mCells g md x) H := hP.sub [10, 11, 12, 13, 14, 15, 16, 17, 18, 19, 20, 21, 22, 23, 24, 25, 26, 27, 28, 29, 30, 31, 32, 33, 34, 35, 36, 0, 1, 2, 3, 4, 5, 6, 7, 8, 9] rfl
    have hD : va_D (fun q : Nat => s.heap.size ≤ q) (eCells g ad cf u1 ++ mCells g md x) := hD.sub [10, 11, 12, 13, 14, 15, 16, 17, 18, 19, 20, 21, 22, 23, 24, 25, 26, 27, 28, 29, 30, 31, 32, 33, 34, 35, 36, 0, 1, 2, 3, 4, 5, 6, 7, 8, 9] rfl rfl
    refine lv_aload_n hx hb dL_law_626 rfl (lv_at hl 2 rfl) ?_
    refine lv_aload_n hx hb dL_law_627 rfl (lv_at hl 0 rfl) ?_
    refine lv_iload_n hx hb dL_law_628 rfl (lv_at hl 3 rfl) ?_
    refine lv_iconst (v := nI 1) hx hb dL_law_629 (by decide) ?_
    refine lv_iadd hx hb dL_law_630 ?_
    refine k_ei (y := nI (i + 1)) (nI_add _ _) ?_
    refine va_sld hx hb hX hbl hbA hS v1 dL_law_631 ?_
    refine lv_aload_n hx hb dL_law_632 rfl (lv_at hl 0 rfl) ?_
    refine lv_iload_n hx hb dL_law_633 rfl (lv_at hl 3 rfl) ?_
    refine lv_iconst (v := nI 2) hx hb dL_law_634 (by decide) ?_
    refine lv_iadd hx hb dL_law_635 ?_
    refine k_ei (y := nI (i + 2)) (nI_add _ _) ?_
    refine va_sld hx hb hX hbl hbA hS v2 dL_law_636 ?_
    refine lv_aload_n hx hb dL_law_637 rfl (lv_at hl 0 rfl) ?_
    refine lv_iload_n hx hb dL_law_638 rfl (lv_at hl 3 rfl) ?_
    refine lv_iconst (v := nI 3) hx hb dL_law_639 (by decide) ?_
    refine lv_iadd hx hb dL_law_640 ?_
    refine k_ei (y := nI (i + 3)) (nI_add _ _) ?_
    refine va_sld hx hb hX hbl hbA hS v3 dL_law_641 ?_
    refine lv_if_eq (tgt := 649) hx hb dL_law_642 (by decide) (fun c_1 => ?_) (fun c_1 => ?_)
    · exact absurd c_1 c_0
    · skip
      refine lv_iconst (v := nI 1) hx hb dL_law_645 (by decide) ?_
      refine lv_goto (tgt := 650) hx hb dL_law_646 (by decide) ?_
      refine lv_aload_n hx hb dL_law_650 rfl (lv_at hl 0 rfl) ?_
      refine lv_iload_n hx hb dL_law_651 rfl (lv_at hl 3 rfl) ?_
      refine lv_iconst (v := nI 4) hx hb dL_law_652 (by decide) ?_
      refine lv_iadd hx hb dL_law_653 ?_
      refine k_ei (y := nI (i + 4)) (nI_add _ _) ?_
      refine va_sld hx hb hX hbl hbA hS v4 dL_law_654 ?_
      refine go_l (wc := mCells g md x) (wr := eCells g ad cf u1) hP hD hS hA [27, 28, 29, 30, 31, 32, 33, 34, 35, 36] [0, 1, 2, 3, 4, 5, 6, 7, 8, 9, 10, 11, 12, 13, 14, 15, 16, 17, 18, 19, 20, 21, 22, 23, 24, 25, 26] rfl rfl rfl rfl (by decide) (fun hPc hDc => rn_V (As := [.int (xs (nI (i + 1)).toNatClampNeg), .int (xs (nI (i + 2)).toNatClampNeg), .int (nI 1), .int (xs (nI (i + 4)).toNatClampNeg)]) (rest := [.long r1]) ⟨hx, hb, hml, hown, hts⟩ (c_X4_span l g md x (xs (nI (i + 1)).toNatClampNeg) (xs (nI (i + 2)).toNatClampNeg) (nI 1) (xs (nI (i + 4)).toNatClampNeg) hST.2.2.1 _) (cwl_X4_span hts) hK hN hPc hDc 0 rfl rfl rfl rfl hl.1 (Nat.le_of_ble_eq_true rfl) dL_law_655 ⟨by show _ ≤ 600000; omega, by show _ ≤ 7302250; omega⟩) ?_
      intro r2 x1 H locs hr2 hP hD hS
      have hP : va_P g.1 vwCl (eCells g ad cf u1 ++ mCells g md x1) H := hP
      have hD : va_D (fun q : Nat => s.heap.size ≤ q) (eCells g ad cf u1 ++ mCells g md x1) := hD
      refine W.lcmp hx hb dL_law_658 ?_
      have hh : r1 = r2 ∧ ST u1 x1 := ⟨a_span hST hr1.2 hr2.2, ST_keep hST hr1.1 hr2.1⟩
      refine lv_if_eq (tgt := 796) hx hb dL_law_659 (by decide) (fun c_9 => ?_) (fun c_9 => ?_)
      · refine W.widen (k := cells + 3) (n := slots + 6) (by omega) (by omega) ?_
        exact kk u1 x1 H locs hh.2 hP hD hS
      · exact absurd ((lc_eq _ _).mpr hh.1) c_9
