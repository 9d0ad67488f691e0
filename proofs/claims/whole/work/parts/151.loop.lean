/-! THE LAW: its loop -/
theorem and15w (x : Int32) : ∃ j, j < 16 ∧ x &&& nI 15 = nI j := by
  have hj : x.toBitVec.toNat &&& 15 ≤ 15 := Nat.and_le_right
  refine ⟨x.toBitVec.toNat &&& 15, by omega, b_ext (fun i hi => ?_)⟩
  rw [b_and, bt_nI (by omega) hi, bt_nI (by omega) hi, Nat.testBit_and]
  rfl
set_option maxHeartbeats 20000000 in
set_option maxRecDepth 100000 in
theorem law_loop {p : Program} {e : Env} {s : State} {m : MethodId} {below : List Frame} {meth : Method} {c : Code} (l : Launch) {g : Gt} {b L : Nat} {xs : Nat → Int32} (C : LC p s m c g b L xs) (hr : meth.sig.returnType = ret) (hlocks : meth.locks = false) (ad : Nat → Nat) (cf : Nat → Option Nat) (md : Nat → Nat) (hc0 : cf 0 = some (ad 11)) (hc1 : cf 1 = some (ad 15)) (hc2 : cf 2 = some (ad 19)) (hL : L ≤ 3072) :
    ∀ (n i j : Nat) (u : EBS) (x : MS) (H : Heap) (locs : List Loc), i = 6 * j → i ≤ L → L + 1 ≤ i + n → ST u x → va_P g.1 vwCl (eCells g ad cf u ++ mCells g md x) H → va_D (fun q : Nat => s.heap.size ≤ q) (eCells g ad cf u ++ mCells g md x) → va_S (fun q : Nat => s.heap.size ≤ q) s.heap H locs → ∀ ls : Array Slot, lv_has ls 4 (lvL b ad md i) → W p l e room_1 s m #[Value.ref b] below meth c H locs (37 + 3 * j) (17598 + 6 * j) (lw_Z below #[Value.ref b] s) (F0 m 18 ls []) := by
  have C' := C
  obtain ⟨hx, hb, hml, hown, hts, hX, hbl, hK, hN⟩ := C
  have hbA : ¬ (fun q : Nat => s.heap.size ≤ q) b := Nat.not_le.mpr hbl
  intro n
  induction n with
  | zero => intro i j u x H locs h1 h2 h3; omega
  | succ n ih =>
    intro i j u x H locs hij hiL hn hST hP hD hS ls hl
    refine lv_iload_n hx hb dL_law_18 rfl (lv_at hl 3 rfl) ?_
    refine lv_aload_n hx hb dL_law_19 rfl (lv_at hl 0 rfl) ?_
    refine va_slen hx hb hX hbl hbA hS dL_law_20 ?_
    refine lv_bipush (v := nI 6) hx hb dL_law_21 (by decide) ?_
    refine lv_isub hx hb dL_law_23 ?_
    have hsub : (nI L - nI 6).toInt = (L : Int) - 6 := pk_sub_toInt (by omega) (by decide)
    have hsi : (nI i).toInt = (i : Int) := nI_toInt (by omega)
    refine lv_icmp_gt (tgt := 802) hx hb dL_law_24 (by decide) (fun c_1 => ?_) (fun c_1 => ?_)
    · refine lv_iconst (v := 1) hx hb dL_law_802 (by decide) ?_
      refine va_forget (fun q hq => hS.2.2 q hq) ?_
      refine W.widen (k := 600000) (n := 7302250) (by omega) (by omega) ?_
      exact lw_ret hx hb hr hlocks dL_law_803
    · have hi : i + 6 ≤ L := by
        refine Classical.byContradiction (fun q => c_1 ((i32_lt _ _).mpr ?_))
        show (nI L - nI 6).toInt < (nI i).toInt
        rw [hsub, hsi]
        omega
      refine lv_aload_n hx hb dL_law_27 rfl (lv_at hl 0 rfl) ?_
      refine lv_iload_n hx hb dL_law_28 rfl (lv_at hl 3 rfl) ?_
      have v0 : vp_in (nI i) L := vp_in_nI (by omega) (by omega)
      refine va_sld hx hb hX hbl hbA hS v0 dL_law_29 ?_
      refine lv_bipush (v := nI 15) hx hb dL_law_30 (by decide) ?_
      refine lv_iand hx hb dL_law_32 ?_
      have next : ∀ (u1 : EBS) (x1 : MS) (H1 : Heap) (locs1 : List Loc), ST u1 x1 → va_P g.1 vwCl (eCells g ad cf u1 ++ mCells g md x1) H1 → va_D (fun q : Nat => s.heap.size ≤ q) (eCells g ad cf u1 ++ mCells g md x1) → va_S (fun q : Nat => s.heap.size ≤ q) s.heap H1 locs1 → W p l e room_1 s m #[Value.ref b] below meth c H1 locs1 (37 + 3 * j + 3) (17598 + 6 * j + 6) (lw_Z below #[Value.ref b] s) (F0 m 796 ls []) := by
        intro u1 x1 H1 locs1 hST1 hP1 hD1 hS1
        refine lv_iinc (v := nI (i + 6)) (lv' := [(3, .int (nI (i + 6))), (0, .ref b), (1, .ref (ad 0)), (2, .ref (md 0))]) hx hb dL_law_796 hl (k := 3) rfl (nI_inc6 i) (by decide) rfl (fun ls hl => ?_)
        refine lv_goto (tgt := 18) hx hb dL_law_799 (by decide) ?_
        refine W.widen (k := 37 + 3 * (j + 1)) (n := 17598 + 6 * (j + 1)) (by omega) (by omega) ?_
        exact ih (i + 6) (j + 1) u1 x1 H1 locs1 (by omega) hi (by omega) hST1 hP1 hD1 hS1 ls (lv_sub hl [1, 2, 3, 0] rfl)
      obtain ⟨z, hz⟩ : ∃ z, z = xs (nI i).toNatClampNeg &&& nI 15 := ⟨_, rfl⟩
      rw [← hz]
      obtain ⟨d, hd, hsw⟩ := and15w (xs (nI i).toNatClampNeg)
      rw [← hz] at hsw
      have hcl : 37 + 3 * j + 3 ≤ 600000 := by omega
      have hsl : 17598 + 6 * j + 6 ≤ 7302250 := by omega
      rcases (show d = 0 ∨ d = 1 ∨ d = 2 ∨ d = 3 ∨ d = 4 ∨ d = 5 ∨ d = 6 ∨ d = 7 ∨ d = 8 ∨ d = 9 ∨ d = 10 ∨ d = 11 ∨ d = 12 ∨ d = 13 ∨ d = 14 ∨ d = 15 by omega) with rfl | rfl | rfl | rfl | rfl | rfl | rfl | rfl | rfl | rfl | rfl | rfl | rfl | rfl | rfl | rfl
      · refine lv_tableIn (tgt := 112) hx hb dL_law_33 (by rw [hsw]; decide) (by rw [hsw]; decide) (by rw [hsw]; rfl) (by decide) ?_
        exact case_start l C' ad cf md u x hc0 hc1 hc2 hST hi hL hcl hsl hP hD hS hl next
      · refine lv_tableIn (tgt := 145) hx hb dL_law_33 (by rw [hsw]; decide) (by rw [hsw]; decide) (by rw [hsw]; rfl) (by decide) ?_
        exact case_work l C' ad cf md u x hc0 hc1 hc2 hST hi hL hcl hsl hP hD hS hl next
      · refine lv_tableIn (tgt := 198) hx hb dL_law_33 (by rw [hsw]; decide) (by rw [hsw]; decide) (by rw [hsw]; rfl) (by decide) ?_
        exact case_set l C' ad cf md u x hc0 hc1 hc2 hST hi hL hcl hsl hP hD hS hl next
      · refine lv_tableIn (tgt := 247) hx hb dL_law_33 (by rw [hsw]; decide) (by rw [hsw]; decide) (by rw [hsw]; rfl) (by decide) ?_
        exact case_missing l C' ad cf md u x hc0 hc1 hc2 hST hi hL hcl hsl hP hD hS hl next
      · refine lv_tableIn (tgt := 300) hx hb dL_law_33 (by rw [hsw]; decide) (by rw [hsw]; decide) (by rw [hsw]; rfl) (by decide) ?_
        exact case_at l C' ad cf md u x hc0 hc1 hc2 hST hi hL hcl hsl hP hD hS hl next
      · refine lv_tableIn (tgt := 343) hx hb dL_law_33 (by rw [hsw]; decide) (by rw [hsw]; decide) (by rw [hsw]; rfl) (by decide) ?_
        exact case_share l C' ad cf md u x hc0 hc1 hc2 hST hi hL hcl hsl hP hD hS hl next
      · refine lv_tableIn (tgt := 387) hx hb dL_law_33 (by rw [hsw]; decide) (by rw [hsw]; decide) (by rw [hsw]; rfl) (by decide) ?_
        exact case_strong l C' ad cf md u x hc0 hc1 hc2 hST hi hL hcl hsl hP hD hS hl next
      · refine lv_tableIn (tgt := 420) hx hb dL_law_33 (by rw [hsw]; decide) (by rw [hsw]; decide) (by rw [hsw]; rfl) (by decide) ?_
        exact case_peer l C' ad cf md u x hc0 hc1 hc2 hST hi hL hcl hsl hP hD hS hl next
      · refine lv_tableIn (tgt := 463) hx hb dL_law_33 (by rw [hsw]; decide) (by rw [hsw]; decide) (by rw [hsw]; rfl) (by decide) ?_
        exact case_size l C' ad cf md u x hc0 hc1 hc2 hST hi hL hcl hsl hP hD hS hl next
      · refine lv_tableIn (tgt := 486) hx hb dL_law_33 (by rw [hsw]; decide) (by rw [hsw]; decide) (by rw [hsw]; rfl) (by decide) ?_
        exact case_above l C' ad cf md u x hc0 hc1 hc2 hST hi hL hcl hsl hP hD hS hl next
      · refine lv_tableIn (tgt := 530) hx hb dL_law_33 (by rw [hsw]; decide) (by rw [hsw]; decide) (by rw [hsw]; rfl) (by decide) ?_
        exact case_cost l C' ad cf md u x hc0 hc1 hc2 hST hi hL hcl hsl hP hD hS hl next
      · refine lv_tableIn (tgt := 594) hx hb dL_law_33 (by rw [hsw]; decide) (by rw [hsw]; decide) (by rw [hsw]; rfl) (by decide) ?_
        exact case_span l C' ad cf md u x hc0 hc1 hc2 hST hi hL hcl hsl hP hD hS hl next
      · refine lv_tableIn (tgt := 664) hx hb dL_law_33 (by rw [hsw]; decide) (by rw [hsw]; decide) (by rw [hsw]; rfl) (by decide) ?_
        exact case_sides l C' ad cf md u x hc0 hc1 hc2 hST hi hL hcl hsl hP hD hS hl next
      · refine lv_tableIn (tgt := 687) hx hb dL_law_33 (by rw [hsw]; decide) (by rw [hsw]; decide) (by rw [hsw]; rfl) (by decide) ?_
        exact case_side l C' ad cf md u x hc0 hc1 hc2 hST hi hL hcl hsl hP hD hS hl next
      · refine lv_tableIn (tgt := 730) hx hb dL_law_33 (by rw [hsw]; decide) (by rw [hsw]; decide) (by rw [hsw]; rfl) (by decide) ?_
        exact case_suits l C' ad cf md u x hc0 hc1 hc2 hST hi hL hcl hsl hP hD hS hl next
      · refine lv_tableIn (tgt := 773) hx hb dL_law_33 (by rw [hsw]; decide) (by rw [hsw]; decide) (by rw [hsw]; rfl) (by decide) ?_
        exact case_count l C' ad cf md u x hc0 hc1 hc2 hST hi hL hcl hsl hP hD hS hl next
