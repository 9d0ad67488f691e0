/-! THE LAW: its cases -/
set_option maxHeartbeats 20000000 in
set_option maxRecDepth 100000 in
theorem case_at {p : Program} {e : Env} {s : State} {m : MethodId} {below : List Frame} {meth : Method} {c : Code} (l : Launch) {g : Gt} {b L : Nat} {xs : Nat → Int32} {Q : State → Prop} (C : LC p s m c g b L xs) (ad : Nat → Nat) (cf : Nat → Option Nat) (md : Nat → Nat) (u : EBS) (x : MS) (hc0 : cf 0 = some (ad 11)) (hc1 : cf 1 = some (ad 15)) (hc2 : cf 2 = some (ad 19)) (hST : ST u x) {i : Nat} (hi : i + 6 ≤ L) (hL : L ≤ 3072) {H : Heap} {locs : List Loc} {cells slots : Nat} (hcl : cells + 3 ≤ 600000) (hsl : slots + 6 ≤ 7302250) (hP : va_P g.1 vwCl (eCells g ad cf u ++ mCells g md x) H) (hD : va_D (fun q : Nat => s.heap.size ≤ q) (eCells g ad cf u ++ mCells g md x)) (hS : va_S (fun q : Nat => s.heap.size ≤ q) s.heap H locs) {ls : Array Slot} (hl : lv_has ls 4 (lvL b ad md i))
    (kk : ∀ (u1 : EBS) (x1 : MS) (H1 : Heap) (locs1 : List Loc), ST u1 x1 → va_P g.1 vwCl (eCells g ad cf u1 ++ mCells g md x1) H1 → va_D (fun q : Nat => s.heap.size ≤ q) (eCells g ad cf u1 ++ mCells g md x1) → va_S (fun q : Nat => s.heap.size ≤ q) s.heap H1 locs1 → W p l e room_1 s m #[Value.ref b] below meth c H1 locs1 (cells + 3) (slots + 6) Q (F0 m 796 ls [])) :
    W p l e room_1 s m #[Value.ref b] below meth c H locs cells slots Q (F0 m 300 ls []) := by
  obtain ⟨hx, hb, hml, hown, hts, hX, hbl, hK, hN⟩ := C
  have hA : ∀ q : Nat, s.heap.size ≤ q → (fun q : Nat => s.heap.size ≤ q) q := fun _ h => h
  have hbA : ¬ (fun q : Nat => s.heap.size ≤ q) b := Nat.not_le.mpr hbl
  have v1 : vp_in (nI (i + 1)) L := vp_in_nI (by omega) (by omega)
  have v2 : vp_in (nI (i + 2)) L := vp_in_nI (by omega) (by omega)
  have v3 : vp_in (nI (i + 3)) L := vp_in_nI (by omega) (by omega)
  refine lv_aload_n hx hb dL_law_300 rfl (lv_at hl 1 rfl) ?_
  refine lv_aload_n hx hb dL_law_301 rfl (lv_at hl 0 rfl) ?_
  refine lv_iload_n hx hb dL_law_302 rfl (lv_at hl 3 rfl) ?_
  refine lv_iconst (v := nI 1) hx hb dL_law_303 (by decide) ?_
  refine lv_iadd hx hb dL_law_304 ?_
  refine k_ei (y := nI (i + 1)) (nI_add _ _) ?_
  refine va_sld hx hb hX hbl hbA hS v1 dL_law_305 ?_
  refine lv_aload_n hx hb dL_law_306 rfl (lv_at hl 0 rfl) ?_
  refine lv_iload_n hx hb dL_law_307 rfl (lv_at hl 3 rfl) ?_
  refine lv_iconst (v := nI 2) hx hb dL_law_308 (by decide) ?_
  refine lv_iadd hx hb dL_law_309 ?_
  refine k_ei (y := nI (i + 2)) (nI_add _ _) ?_
  refine va_sld hx hb hX hbl hbA hS v2 dL_law_310 ?_
  refine lv_aload_n hx hb dL_law_311 rfl (lv_at hl 0 rfl) ?_
  refine lv_iload_n hx hb dL_law_312 rfl (lv_at hl 3 rfl) ?_
  refine lv_iconst (v := nI 3) hx hb dL_law_313 (by decide) ?_
  refine lv_iadd hx hb dL_law_314 ?_
  refine k_ei (y := nI (i + 3)) (nI_add _ _) ?_
  refine va_sld hx hb hX hbl hbA hS v3 dL_law_315 ?_
  refine go_i (wc := eCells g ad cf u) (wr := mCells g md x) hP hD hS hA [0, 1, 2, 3, 4, 5, 6, 7, 8, 9, 10, 11, 12, 13, 14, 15, 16, 17, 18, 19, 20, 21, 22, 23, 24, 25, 26] [27, 28, 29, 30, 31, 32, 33, 34, 35, 36] rfl rfl rfl rfl (by decide) (fun hPc hDc => rn_V (As := [.int (xs (nI (i + 1)).toNatClampNeg), .int (xs (nI (i + 2)).toNatClampNeg), .int (xs (nI (i + 3)).toNatClampNeg)]) (rest := []) ⟨hx, hb, hml, hown, hts⟩ (c_X3_at l g ad cf u (xs (nI (i + 1)).toNatClampNeg) (xs (nI (i + 2)).toNatClampNeg) (xs (nI (i + 3)).toNatClampNeg) hc0 hc1 hc2 hST.1 hST.2.1 _) (cwl_X3_at hts) hK hN hPc hDc 0 rfl rfl rfl rfl hl.1 (Nat.le_of_ble_eq_true rfl) dL_law_316 ⟨by show _ ≤ 600000; omega, by show _ ≤ 7302250; omega⟩) ?_
  intro r1 u1 H locs hr1 hP hD hS
  have hP : va_P g.1 vwCl (eCells g ad cf u1 ++ mCells g md x) H := hP.sub [10, 11, 12, 13, 14, 15, 16, 17, 18, 19, 20, 21, 22, 23, 24, 25, 26, 27, 28, 29, 30, 31, 32, 33, 34, 35, 36, 0, 1, 2, 3, 4, 5, 6, 7, 8, 9] rfl
  have hD : va_D (fun q : Nat => s.heap.size ≤ q) (eCells g ad cf u1 ++ mCells g md x) := hD.sub [10, 11, 12, 13, 14, 15, 16, 17, 18, 19, 20, 21, 22, 23, 24, 25, 26, 27, 28, 29, 30, 31, 32, 33, 34, 35, 36, 0, 1, 2, 3, 4, 5, 6, 7, 8, 9] rfl rfl
  refine lv_aload_n hx hb dL_law_319 rfl (lv_at hl 2 rfl) ?_
  refine lv_aload_n hx hb dL_law_320 rfl (lv_at hl 0 rfl) ?_
  refine lv_iload_n hx hb dL_law_321 rfl (lv_at hl 3 rfl) ?_
  refine lv_iconst (v := nI 1) hx hb dL_law_322 (by decide) ?_
  refine lv_iadd hx hb dL_law_323 ?_
  refine k_ei (y := nI (i + 1)) (nI_add _ _) ?_
  refine va_sld hx hb hX hbl hbA hS v1 dL_law_324 ?_
  refine lv_aload_n hx hb dL_law_325 rfl (lv_at hl 0 rfl) ?_
  refine lv_iload_n hx hb dL_law_326 rfl (lv_at hl 3 rfl) ?_
  refine lv_iconst (v := nI 2) hx hb dL_law_327 (by decide) ?_
  refine lv_iadd hx hb dL_law_328 ?_
  refine k_ei (y := nI (i + 2)) (nI_add _ _) ?_
  refine va_sld hx hb hX hbl hbA hS v2 dL_law_329 ?_
  refine lv_aload_n hx hb dL_law_330 rfl (lv_at hl 0 rfl) ?_
  refine lv_iload_n hx hb dL_law_331 rfl (lv_at hl 3 rfl) ?_
  refine lv_iconst (v := nI 3) hx hb dL_law_332 (by decide) ?_
  refine lv_iadd hx hb dL_law_333 ?_
  refine k_ei (y := nI (i + 3)) (nI_add _ _) ?_
  refine va_sld hx hb hX hbl hbA hS v3 dL_law_334 ?_
  refine go_i (wc := mCells g md x) (wr := eCells g ad cf u1) hP hD hS hA [27, 28, 29, 30, 31, 32, 33, 34, 35, 36] [0, 1, 2, 3, 4, 5, 6, 7, 8, 9, 10, 11, 12, 13, 14, 15, 16, 17, 18, 19, 20, 21, 22, 23, 24, 25, 26] rfl rfl rfl rfl (by decide) (fun hPc hDc => rn_V (As := [.int (xs (nI (i + 1)).toNatClampNeg), .int (xs (nI (i + 2)).toNatClampNeg), .int (xs (nI (i + 3)).toNatClampNeg)]) (rest := [.int r1]) ⟨hx, hb, hml, hown, hts⟩ (c_X4_at l g md x (xs (nI (i + 1)).toNatClampNeg) (xs (nI (i + 2)).toNatClampNeg) (xs (nI (i + 3)).toNatClampNeg) hST.2.2.1 _) (cwl_X4_at hts) hK hN hPc hDc 0 rfl rfl rfl rfl hl.1 (Nat.le_of_ble_eq_true rfl) dL_law_335 ⟨by show _ ≤ 600000; omega, by show _ ≤ 7302250; omega⟩) ?_
  intro r2 x1 H locs hr2 hP hD hS
  have hP : va_P g.1 vwCl (eCells g ad cf u1 ++ mCells g md x1) H := hP
  have hD : va_D (fun q : Nat => s.heap.size ≤ q) (eCells g ad cf u1 ++ mCells g md x1) := hD
  have hh : r1 = r2 ∧ ST u1 x1 := ⟨by rw [hr1.2]; exact a_at hST hr2.2, ST_keep hST hr1.1 hr2.1⟩
  refine lv_icmp_eq (tgt := 796) hx hb dL_law_338 (by decide) (fun c_9 => ?_) (fun c_9 => ?_)
  · refine W.widen (k := cells + 3) (n := slots + 6) (by omega) (by omega) ?_
    exact kk u1 x1 H locs hh.2 hP hD hS
  · exact absurd hh.1 c_9
set_option maxHeartbeats 20000000 in
set_option maxRecDepth 100000 in
theorem case_share {p : Program} {e : Env} {s : State} {m : MethodId} {below : List Frame} {meth : Method} {c : Code} (l : Launch) {g : Gt} {b L : Nat} {xs : Nat → Int32} {Q : State → Prop} (C : LC p s m c g b L xs) (ad : Nat → Nat) (cf : Nat → Option Nat) (md : Nat → Nat) (u : EBS) (x : MS) (hc0 : cf 0 = some (ad 11)) (hc1 : cf 1 = some (ad 15)) (hc2 : cf 2 = some (ad 19)) (hST : ST u x) {i : Nat} (hi : i + 6 ≤ L) (hL : L ≤ 3072) {H : Heap} {locs : List Loc} {cells slots : Nat} (hcl : cells + 3 ≤ 600000) (hsl : slots + 6 ≤ 7302250) (hP : va_P g.1 vwCl (eCells g ad cf u ++ mCells g md x) H) (hD : va_D (fun q : Nat => s.heap.size ≤ q) (eCells g ad cf u ++ mCells g md x)) (hS : va_S (fun q : Nat => s.heap.size ≤ q) s.heap H locs) {ls : Array Slot} (hl : lv_has ls 4 (lvL b ad md i))
    (kk : ∀ (u1 : EBS) (x1 : MS) (H1 : Heap) (locs1 : List Loc), ST u1 x1 → va_P g.1 vwCl (eCells g ad cf u1 ++ mCells g md x1) H1 → va_D (fun q : Nat => s.heap.size ≤ q) (eCells g ad cf u1 ++ mCells g md x1) → va_S (fun q : Nat => s.heap.size ≤ q) s.heap H1 locs1 → W p l e room_1 s m #[Value.ref b] below meth c H1 locs1 (cells + 3) (slots + 6) Q (F0 m 796 ls [])) :
    W p l e room_1 s m #[Value.ref b] below meth c H locs cells slots Q (F0 m 343 ls []) := by
  obtain ⟨hx, hb, hml, hown, hts, hX, hbl, hK, hN⟩ := C
  have hA : ∀ q : Nat, s.heap.size ≤ q → (fun q : Nat => s.heap.size ≤ q) q := fun _ h => h
  have hbA : ¬ (fun q : Nat => s.heap.size ≤ q) b := Nat.not_le.mpr hbl
  have v1 : vp_in (nI (i + 1)) L := vp_in_nI (by omega) (by omega)
  have v2 : vp_in (nI (i + 2)) L := vp_in_nI (by omega) (by omega)
  have v3 : vp_in (nI (i + 3)) L := vp_in_nI (by omega) (by omega)
  refine lv_aload_n hx hb dL_law_343 rfl (lv_at hl 1 rfl) ?_
  refine lv_aload_n hx hb dL_law_344 rfl (lv_at hl 0 rfl) ?_
  refine lv_iload_n hx hb dL_law_345 rfl (lv_at hl 3 rfl) ?_
  refine lv_iconst (v := nI 1) hx hb dL_law_346 (by decide) ?_
  refine lv_iadd hx hb dL_law_347 ?_
  refine k_ei (y := nI (i + 1)) (nI_add _ _) ?_
  refine va_sld hx hb hX hbl hbA hS v1 dL_law_348 ?_
  refine lv_aload_n hx hb dL_law_349 rfl (lv_at hl 0 rfl) ?_
  refine lv_iload_n hx hb dL_law_350 rfl (lv_at hl 3 rfl) ?_
  refine lv_iconst (v := nI 2) hx hb dL_law_351 (by decide) ?_
  refine lv_iadd hx hb dL_law_352 ?_
  refine k_ei (y := nI (i + 2)) (nI_add _ _) ?_
  refine va_sld hx hb hX hbl hbA hS v2 dL_law_353 ?_
  refine lv_aload_n hx hb dL_law_354 rfl (lv_at hl 0 rfl) ?_
  refine lv_iload_n hx hb dL_law_355 rfl (lv_at hl 3 rfl) ?_
  refine lv_iconst (v := nI 3) hx hb dL_law_356 (by decide) ?_
  refine lv_iadd hx hb dL_law_357 ?_
  refine k_ei (y := nI (i + 3)) (nI_add _ _) ?_
  refine va_sld hx hb hX hbl hbA hS v3 dL_law_358 ?_
  refine go_l (wc := eCells g ad cf u) (wr := mCells g md x) hP hD hS hA [0, 1, 2, 3, 4, 5, 6, 7, 8, 9, 10, 11, 12, 13, 14, 15, 16, 17, 18, 19, 20, 21, 22, 23, 24, 25, 26] [27, 28, 29, 30, 31, 32, 33, 34, 35, 36] rfl rfl rfl rfl (by decide) (fun hPc hDc => rn_V (As := [.int (xs (nI (i + 1)).toNatClampNeg), .int (xs (nI (i + 2)).toNatClampNeg), .int (xs (nI (i + 3)).toNatClampNeg)]) (rest := []) ⟨hx, hb, hml, hown, hts⟩ (c_X3_share l g ad cf u (xs (nI (i + 1)).toNatClampNeg) (xs (nI (i + 2)).toNatClampNeg) (xs (nI (i + 3)).toNatClampNeg) hc0 hc1 hc2 hST.1 hST.2.1 _) (cwl_X3_share hts) hK hN hPc hDc 0 rfl rfl rfl rfl hl.1 (Nat.le_of_ble_eq_true rfl) dL_law_359 ⟨by show _ ≤ 600000; omega, by show _ ≤ 7302250; omega⟩) ?_
  intro r1 u1 H locs hr1 hP hD hS
  have hP : va_P g.1 vwCl (eCells g ad cf u1 ++ mCells g md x) H := hP.sub [10, 11, 12, 13, 14, 15, 16, 17, 18, 19, 20, 21, 22, 23, 24, 25, 26, 27, 28, 29, 30, 31, 32, 33, 34, 35, 36, 0, 1, 2, 3, 4, 5, 6, 7, 8, 9] rfl
  have hD : va_D (fun q : Nat => s.heap.size ≤ q) (eCells g ad cf u1 ++ mCells g md x) := hD.sub [10, 11, 12, 13, 14, 15, 16, 17, 18, 19, 20, 21, 22, 23, 24, 25, 26, 27, 28, 29, 30, 31, 32, 33, 34, 35, 36, 0, 1, 2, 3, 4, 5, 6, 7, 8, 9] rfl rfl
  refine lv_aload_n hx hb dL_law_362 rfl (lv_at hl 2 rfl) ?_
  refine lv_aload_n hx hb dL_law_363 rfl (lv_at hl 0 rfl) ?_
  refine lv_iload_n hx hb dL_law_364 rfl (lv_at hl 3 rfl) ?_
  refine lv_iconst (v := nI 1) hx hb dL_law_365 (by decide) ?_
  refine lv_iadd hx hb dL_law_366 ?_
  refine k_ei (y := nI (i + 1)) (nI_add _ _) ?_
  refine va_sld hx hb hX hbl hbA hS v1 dL_law_367 ?_
  refine lv_aload_n hx hb dL_law_368 rfl (lv_at hl 0 rfl) ?_
  refine lv_iload_n hx hb dL_law_369 rfl (lv_at hl 3 rfl) ?_
  refine lv_iconst (v := nI 2) hx hb dL_law_370 (by decide) ?_
  refine lv_iadd hx hb dL_law_371 ?_
  refine k_ei (y := nI (i + 2)) (nI_add _ _) ?_
  refine va_sld hx hb hX hbl hbA hS v2 dL_law_372 ?_
  refine lv_aload_n hx hb dL_law_373 rfl (lv_at hl 0 rfl) ?_
  refine lv_iload_n hx hb dL_law_374 rfl (lv_at hl 3 rfl) ?_
  refine lv_iconst (v := nI 3) hx hb dL_law_375 (by decide) ?_
  refine lv_iadd hx hb dL_law_376 ?_
  refine k_ei (y := nI (i + 3)) (nI_add _ _) ?_
  refine va_sld hx hb hX hbl hbA hS v3 dL_law_377 ?_
  refine go_l (wc := mCells g md x) (wr := eCells g ad cf u1) hP hD hS hA [27, 28, 29, 30, 31, 32, 33, 34, 35, 36] [0, 1, 2, 3, 4, 5, 6, 7, 8, 9, 10, 11, 12, 13, 14, 15, 16, 17, 18, 19, 20, 21, 22, 23, 24, 25, 26] rfl rfl rfl rfl (by decide) (fun hPc hDc => rn_V (As := [.int (xs (nI (i + 1)).toNatClampNeg), .int (xs (nI (i + 2)).toNatClampNeg), .int (xs (nI (i + 3)).toNatClampNeg)]) (rest := [.long r1]) ⟨hx, hb, hml, hown, hts⟩ (c_X4_share l g md x (xs (nI (i + 1)).toNatClampNeg) (xs (nI (i + 2)).toNatClampNeg) (xs (nI (i + 3)).toNatClampNeg) hST.2.2.1 _) (cwl_X4_share hts) hK hN hPc hDc 0 rfl rfl rfl rfl hl.1 (Nat.le_of_ble_eq_true rfl) dL_law_378 ⟨by show _ ≤ 600000; omega, by show _ ≤ 7302250; omega⟩) ?_
  intro r2 x1 H locs hr2 hP hD hS
  have hP : va_P g.1 vwCl (eCells g ad cf u1 ++ mCells g md x1) H := hP
  have hD : va_D (fun q : Nat => s.heap.size ≤ q) (eCells g ad cf u1 ++ mCells g md x1) := hD
  refine W.lcmp hx hb dL_law_381 ?_
  have hh : r1 = r2 ∧ ST u1 x1 := ⟨a_share hST hr1.2 hr2.2, ST_keep hST hr1.1 hr2.1⟩
  refine lv_if_eq (tgt := 796) hx hb dL_law_382 (by decide) (fun c_9 => ?_) (fun c_9 => ?_)
  · refine W.widen (k := cells + 3) (n := slots + 6) (by omega) (by omega) ?_
    exact kk u1 x1 H locs hh.2 hP hD hS
  · exact absurd ((lc_eq _ _).mpr hh.1) c_9
set_option maxHeartbeats 20000000 in
set_option maxRecDepth 100000 in
theorem case_strong {p : Program} {e : Env} {s : State} {m : MethodId} {below : List Frame} {meth : Method} {c : Code} (l : Launch) {g : Gt} {b L : Nat} {xs : Nat → Int32} {Q : State → Prop} (C : LC p s m c g b L xs) (ad : Nat → Nat) (cf : Nat → Option Nat) (md : Nat → Nat) (u : EBS) (x : MS) (hc0 : cf 0 = some (ad 11)) (hc1 : cf 1 = some (ad 15)) (hc2 : cf 2 = some (ad 19)) (hST : ST u x) {i : Nat} (hi : i + 6 ≤ L) (hL : L ≤ 3072) {H : Heap} {locs : List Loc} {cells slots : Nat} (hcl : cells + 3 ≤ 600000) (hsl : slots + 6 ≤ 7302250) (hP : va_P g.1 vwCl (eCells g ad cf u ++ mCells g md x) H) (hD : va_D (fun q : Nat => s.heap.size ≤ q) (eCells g ad cf u ++ mCells g md x)) (hS : va_S (fun q : Nat => s.heap.size ≤ q) s.heap H locs) {ls : Array Slot} (hl : lv_has ls 4 (lvL b ad md i))
    (kk : ∀ (u1 : EBS) (x1 : MS) (H1 : Heap) (locs1 : List Loc), ST u1 x1 → va_P g.1 vwCl (eCells g ad cf u1 ++ mCells g md x1) H1 → va_D (fun q : Nat => s.heap.size ≤ q) (eCells g ad cf u1 ++ mCells g md x1) → va_S (fun q : Nat => s.heap.size ≤ q) s.heap H1 locs1 → W p l e room_1 s m #[Value.ref b] below meth c H1 locs1 (cells + 3) (slots + 6) Q (F0 m 796 ls [])) :
    W p l e room_1 s m #[Value.ref b] below meth c H locs cells slots Q (F0 m 387 ls []) := by
  obtain ⟨hx, hb, hml, hown, hts, hX, hbl, hK, hN⟩ := C
  have hA : ∀ q : Nat, s.heap.size ≤ q → (fun q : Nat => s.heap.size ≤ q) q := fun _ h => h
  have hbA : ¬ (fun q : Nat => s.heap.size ≤ q) b := Nat.not_le.mpr hbl
  have v1 : vp_in (nI (i + 1)) L := vp_in_nI (by omega) (by omega)
  have v2 : vp_in (nI (i + 2)) L := vp_in_nI (by omega) (by omega)
  refine lv_aload_n hx hb dL_law_387 rfl (lv_at hl 1 rfl) ?_
  refine lv_aload_n hx hb dL_law_388 rfl (lv_at hl 0 rfl) ?_
  refine lv_iload_n hx hb dL_law_389 rfl (lv_at hl 3 rfl) ?_
  refine lv_iconst (v := nI 1) hx hb dL_law_390 (by decide) ?_
  refine lv_iadd hx hb dL_law_391 ?_
  refine k_ei (y := nI (i + 1)) (nI_add _ _) ?_
  refine va_sld hx hb hX hbl hbA hS v1 dL_law_392 ?_
  refine lv_aload_n hx hb dL_law_393 rfl (lv_at hl 0 rfl) ?_
  refine lv_iload_n hx hb dL_law_394 rfl (lv_at hl 3 rfl) ?_
  refine lv_iconst (v := nI 2) hx hb dL_law_395 (by decide) ?_
  refine lv_iadd hx hb dL_law_396 ?_
  refine k_ei (y := nI (i + 2)) (nI_add _ _) ?_
  refine va_sld hx hb hX hbl hbA hS v2 dL_law_397 ?_
  refine go_i (wc := eCells g ad cf u) (wr := mCells g md x) hP hD hS hA [0, 1, 2, 3, 4, 5, 6, 7, 8, 9, 10, 11, 12, 13, 14, 15, 16, 17, 18, 19, 20, 21, 22, 23, 24, 25, 26] [27, 28, 29, 30, 31, 32, 33, 34, 35, 36] rfl rfl rfl rfl (by decide) (fun hPc hDc => rn_V (As := [.int (xs (nI (i + 1)).toNatClampNeg), .int (xs (nI (i + 2)).toNatClampNeg)]) (rest := []) ⟨hx, hb, hml, hown, hts⟩ (c_X3_strong l g ad cf u (xs (nI (i + 1)).toNatClampNeg) (xs (nI (i + 2)).toNatClampNeg) hc0 hc1 hc2 hST.1 hST.2.1 _) (cwl_X3_strong hts) hK hN hPc hDc 0 rfl rfl rfl rfl hl.1 (Nat.le_of_ble_eq_true rfl) dL_law_398 ⟨by show _ ≤ 600000; omega, by show _ ≤ 7302250; omega⟩) ?_
  intro r1 u1 H locs hr1 hP hD hS
  have hP : va_P g.1 vwCl (eCells g ad cf u1 ++ mCells g md x) H := hP.sub [10, 11, 12, 13, 14, 15, 16, 17, 18, 19, 20, 21, 22, 23, 24, 25, 26, 27, 28, 29, 30, 31, 32, 33, 34, 35, 36, 0, 1, 2, 3, 4, 5, 6, 7, 8, 9] rfl
  have hD : va_D (fun q : Nat => s.heap.size ≤ q) (eCells g ad cf u1 ++ mCells g md x) := hD.sub [10, 11, 12, 13, 14, 15, 16, 17, 18, 19, 20, 21, 22, 23, 24, 25, 26, 27, 28, 29, 30, 31, 32, 33, 34, 35, 36, 0, 1, 2, 3, 4, 5, 6, 7, 8, 9] rfl rfl
  refine lv_aload_n hx hb dL_law_401 rfl (lv_at hl 2 rfl) ?_
  refine lv_aload_n hx hb dL_law_402 rfl (lv_at hl 0 rfl) ?_
  refine lv_iload_n hx hb dL_law_403 rfl (lv_at hl 3 rfl) ?_
  refine lv_iconst (v := nI 1) hx hb dL_law_404 (by decide) ?_
  refine lv_iadd hx hb dL_law_405 ?_
  refine k_ei (y := nI (i + 1)) (nI_add _ _) ?_
  refine va_sld hx hb hX hbl hbA hS v1 dL_law_406 ?_
  refine lv_aload_n hx hb dL_law_407 rfl (lv_at hl 0 rfl) ?_
  refine lv_iload_n hx hb dL_law_408 rfl (lv_at hl 3 rfl) ?_
  refine lv_iconst (v := nI 2) hx hb dL_law_409 (by decide) ?_
  refine lv_iadd hx hb dL_law_410 ?_
  refine k_ei (y := nI (i + 2)) (nI_add _ _) ?_
  refine va_sld hx hb hX hbl hbA hS v2 dL_law_411 ?_
  refine go_i (wc := mCells g md x) (wr := eCells g ad cf u1) hP hD hS hA [27, 28, 29, 30, 31, 32, 33, 34, 35, 36] [0, 1, 2, 3, 4, 5, 6, 7, 8, 9, 10, 11, 12, 13, 14, 15, 16, 17, 18, 19, 20, 21, 22, 23, 24, 25, 26] rfl rfl rfl rfl (by decide) (fun hPc hDc => rn_V (As := [.int (xs (nI (i + 1)).toNatClampNeg), .int (xs (nI (i + 2)).toNatClampNeg)]) (rest := [.int r1]) ⟨hx, hb, hml, hown, hts⟩ (c_X4_strong l g md x (xs (nI (i + 1)).toNatClampNeg) (xs (nI (i + 2)).toNatClampNeg) hST.2.2.1 _) (cwl_X4_strong hts) hK hN hPc hDc 0 rfl rfl rfl rfl hl.1 (Nat.le_of_ble_eq_true rfl) dL_law_412 ⟨by show _ ≤ 600000; omega, by show _ ≤ 7302250; omega⟩) ?_
  intro r2 x1 H locs hr2 hP hD hS
  have hP : va_P g.1 vwCl (eCells g ad cf u1 ++ mCells g md x1) H := hP
  have hD : va_D (fun q : Nat => s.heap.size ≤ q) (eCells g ad cf u1 ++ mCells g md x1) := hD
  have hh : r1 = r2 ∧ ST u1 x1 := ⟨a_strong hST hr1.2 hr2.2, ST_keep hST hr1.1 hr2.1⟩
  refine lv_icmp_eq (tgt := 796) hx hb dL_law_415 (by decide) (fun c_9 => ?_) (fun c_9 => ?_)
  · refine W.widen (k := cells + 3) (n := slots + 6) (by omega) (by omega) ?_
    exact kk u1 x1 H locs hh.2 hP hD hS
  · exact absurd hh.1 c_9
set_option maxHeartbeats 20000000 in
set_option maxRecDepth 100000 in
theorem case_peer {p : Program} {e : Env} {s : State} {m : MethodId} {below : List Frame} {meth : Method} {c : Code} (l : Launch) {g : Gt} {b L : Nat} {xs : Nat → Int32} {Q : State → Prop} (C : LC p s m c g b L xs) (ad : Nat → Nat) (cf : Nat → Option Nat) (md : Nat → Nat) (u : EBS) (x : MS) (hc0 : cf 0 = some (ad 11)) (hc1 : cf 1 = some (ad 15)) (hc2 : cf 2 = some (ad 19)) (hST : ST u x) {i : Nat} (hi : i + 6 ≤ L) (hL : L ≤ 3072) {H : Heap} {locs : List Loc} {cells slots : Nat} (hcl : cells + 3 ≤ 600000) (hsl : slots + 6 ≤ 7302250) (hP : va_P g.1 vwCl (eCells g ad cf u ++ mCells g md x) H) (hD : va_D (fun q : Nat => s.heap.size ≤ q) (eCells g ad cf u ++ mCells g md x)) (hS : va_S (fun q : Nat => s.heap.size ≤ q) s.heap H locs) {ls : Array Slot} (hl : lv_has ls 4 (lvL b ad md i))
    (kk : ∀ (u1 : EBS) (x1 : MS) (H1 : Heap) (locs1 : List Loc), ST u1 x1 → va_P g.1 vwCl (eCells g ad cf u1 ++ mCells g md x1) H1 → va_D (fun q : Nat => s.heap.size ≤ q) (eCells g ad cf u1 ++ mCells g md x1) → va_S (fun q : Nat => s.heap.size ≤ q) s.heap H1 locs1 → W p l e room_1 s m #[Value.ref b] below meth c H1 locs1 (cells + 3) (slots + 6) Q (F0 m 796 ls [])) :
    W p l e room_1 s m #[Value.ref b] below meth c H locs cells slots Q (F0 m 420 ls []) := by
  obtain ⟨hx, hb, hml, hown, hts, hX, hbl, hK, hN⟩ := C
  have hA : ∀ q : Nat, s.heap.size ≤ q → (fun q : Nat => s.heap.size ≤ q) q := fun _ h => h
  have hbA : ¬ (fun q : Nat => s.heap.size ≤ q) b := Nat.not_le.mpr hbl
  have v1 : vp_in (nI (i + 1)) L := vp_in_nI (by omega) (by omega)
  have v2 : vp_in (nI (i + 2)) L := vp_in_nI (by omega) (by omega)
  have v3 : vp_in (nI (i + 3)) L := vp_in_nI (by omega) (by omega)
  refine lv_aload_n hx hb dL_law_420 rfl (lv_at hl 1 rfl) ?_
  refine lv_aload_n hx hb dL_law_421 rfl (lv_at hl 0 rfl) ?_
  refine lv_iload_n hx hb dL_law_422 rfl (lv_at hl 3 rfl) ?_
  refine lv_iconst (v := nI 1) hx hb dL_law_423 (by decide) ?_
  refine lv_iadd hx hb dL_law_424 ?_
  refine k_ei (y := nI (i + 1)) (nI_add _ _) ?_
  refine va_sld hx hb hX hbl hbA hS v1 dL_law_425 ?_
  refine lv_aload_n hx hb dL_law_426 rfl (lv_at hl 0 rfl) ?_
  refine lv_iload_n hx hb dL_law_427 rfl (lv_at hl 3 rfl) ?_
  refine lv_iconst (v := nI 2) hx hb dL_law_428 (by decide) ?_
  refine lv_iadd hx hb dL_law_429 ?_
  refine k_ei (y := nI (i + 2)) (nI_add _ _) ?_
  refine va_sld hx hb hX hbl hbA hS v2 dL_law_430 ?_
  refine lv_aload_n hx hb dL_law_431 rfl (lv_at hl 0 rfl) ?_
  refine lv_iload_n hx hb dL_law_432 rfl (lv_at hl 3 rfl) ?_
  refine lv_iconst (v := nI 3) hx hb dL_law_433 (by decide) ?_
  refine lv_iadd hx hb dL_law_434 ?_
  refine k_ei (y := nI (i + 3)) (nI_add _ _) ?_
  refine va_sld hx hb hX hbl hbA hS v3 dL_law_435 ?_
  refine go_i (wc := eCells g ad cf u) (wr := mCells g md x) hP hD hS hA [0, 1, 2, 3, 4, 5, 6, 7, 8, 9, 10, 11, 12, 13, 14, 15, 16, 17, 18, 19, 20, 21, 22, 23, 24, 25, 26] [27, 28, 29, 30, 31, 32, 33, 34, 35, 36] rfl rfl rfl rfl (by decide) (fun hPc hDc => rn_V (As := [.int (xs (nI (i + 1)).toNatClampNeg), .int (xs (nI (i + 2)).toNatClampNeg), .int (xs (nI (i + 3)).toNatClampNeg)]) (rest := []) ⟨hx, hb, hml, hown, hts⟩ (c_X3_peer l g ad cf u (xs (nI (i + 1)).toNatClampNeg) (xs (nI (i + 2)).toNatClampNeg) (xs (nI (i + 3)).toNatClampNeg) hc0 hc1 hc2 hST.1 hST.2.1 _) (cwl_X3_peer hts) hK hN hPc hDc 0 rfl rfl rfl rfl hl.1 (Nat.le_of_ble_eq_true rfl) dL_law_436 ⟨by show _ ≤ 600000; omega, by show _ ≤ 7302250; omega⟩) ?_
  intro r1 u1 H locs hr1 hP hD hS
  have hP : va_P g.1 vwCl (eCells g ad cf u1 ++ mCells g md x) H := hP.sub [10, 11, 12, 13, 14, 15, 16, 17, 18, 19, 20, 21, 22, 23, 24, 25, 26, 27, 28, 29, 30, 31, 32, 33, 34, 35, 36, 0, 1, 2, 3, 4, 5, 6, 7, 8, 9] rfl
  have hD : va_D (fun q : Nat => s.heap.size ≤ q) (eCells g ad cf u1 ++ mCells g md x) := hD.sub [10, 11, 12, 13, 14, 15, 16, 17, 18, 19, 20, 21, 22, 23, 24, 25, 26, 27, 28, 29, 30, 31, 32, 33, 34, 35, 36, 0, 1, 2, 3, 4, 5, 6, 7, 8, 9] rfl rfl
  refine lv_aload_n hx hb dL_law_439 rfl (lv_at hl 2 rfl) ?_
  refine lv_aload_n hx hb dL_law_440 rfl (lv_at hl 0 rfl) ?_
  refine lv_iload_n hx hb dL_law_441 rfl (lv_at hl 3 rfl) ?_
  refine lv_iconst (v := nI 1) hx hb dL_law_442 (by decide) ?_
  refine lv_iadd hx hb dL_law_443 ?_
  refine k_ei (y := nI (i + 1)) (nI_add _ _) ?_
  refine va_sld hx hb hX hbl hbA hS v1 dL_law_444 ?_
  refine lv_aload_n hx hb dL_law_445 rfl (lv_at hl 0 rfl) ?_
  refine lv_iload_n hx hb dL_law_446 rfl (lv_at hl 3 rfl) ?_
  refine lv_iconst (v := nI 2) hx hb dL_law_447 (by decide) ?_
  refine lv_iadd hx hb dL_law_448 ?_
  refine k_ei (y := nI (i + 2)) (nI_add _ _) ?_
  refine va_sld hx hb hX hbl hbA hS v2 dL_law_449 ?_
  refine lv_aload_n hx hb dL_law_450 rfl (lv_at hl 0 rfl) ?_
  refine lv_iload_n hx hb dL_law_451 rfl (lv_at hl 3 rfl) ?_
  refine lv_iconst (v := nI 3) hx hb dL_law_452 (by decide) ?_
  refine lv_iadd hx hb dL_law_453 ?_
  refine k_ei (y := nI (i + 3)) (nI_add _ _) ?_
  refine va_sld hx hb hX hbl hbA hS v3 dL_law_454 ?_
  refine go_i (wc := mCells g md x) (wr := eCells g ad cf u1) hP hD hS hA [27, 28, 29, 30, 31, 32, 33, 34, 35, 36] [0, 1, 2, 3, 4, 5, 6, 7, 8, 9, 10, 11, 12, 13, 14, 15, 16, 17, 18, 19, 20, 21, 22, 23, 24, 25, 26] rfl rfl rfl rfl (by decide) (fun hPc hDc => rn_V (As := [.int (xs (nI (i + 1)).toNatClampNeg), .int (xs (nI (i + 2)).toNatClampNeg), .int (xs (nI (i + 3)).toNatClampNeg)]) (rest := [.int r1]) ⟨hx, hb, hml, hown, hts⟩ (c_X4_peer l g md x (xs (nI (i + 1)).toNatClampNeg) (xs (nI (i + 2)).toNatClampNeg) (xs (nI (i + 3)).toNatClampNeg) hST.2.2.1 _) (cwl_X4_peer hts) hK hN hPc hDc 0 rfl rfl rfl rfl hl.1 (Nat.le_of_ble_eq_true rfl) dL_law_455 ⟨by show _ ≤ 600000; omega, by show _ ≤ 7302250; omega⟩) ?_
  intro r2 x1 H locs hr2 hP hD hS
  have hP : va_P g.1 vwCl (eCells g ad cf u1 ++ mCells g md x1) H := hP
  have hD : va_D (fun q : Nat => s.heap.size ≤ q) (eCells g ad cf u1 ++ mCells g md x1) := hD
  have hh : r1 = r2 ∧ ST u1 x1 := ⟨a_peer hST hr1.2 hr2.2, ST_keep hST hr1.1 hr2.1⟩
  refine lv_icmp_eq (tgt := 796) hx hb dL_law_458 (by decide) (fun c_9 => ?_) (fun c_9 => ?_)
  · refine W.widen (k := cells + 3) (n := slots + 6) (by omega) (by omega) ?_
    exact kk u1 x1 H locs hh.2 hP hD hS
  · exact absurd hh.1 c_9
