/-! THE LAW: its cases -/
set_option maxHeartbeats 20000000 in
set_option maxRecDepth 100000 in
theorem case_start {p : Program} {e : Env} {s : State} {m : MethodId} {below : List Frame} {meth : Method} {c : Code} (l : Launch) {g : Gt} {b L : Nat} {xs : Nat → Int32} {Q : State → Prop} (C : LC p s m c g b L xs) (ad : Nat → Nat) (cf : Nat → Option Nat) (md : Nat → Nat) (u : EBS) (x : MS) (hc0 : cf 0 = some (ad 11)) (hc1 : cf 1 = some (ad 15)) (hc2 : cf 2 = some (ad 19)) (hST : ST u x) {i : Nat} (hi : i + 6 ≤ L) (hL : L ≤ 3072) {H : Heap} {locs : List Loc} {cells slots : Nat} (hcl : cells + 3 ≤ 600000) (hsl : slots + 6 ≤ 7302250) (hP : va_P g.1 vwCl (eCells g ad cf u ++ mCells g md x) H) (hD : va_D (fun q : Nat => s.heap.size ≤ q) (eCells g ad cf u ++ mCells g md x)) (hS : va_S (fun q : Nat => s.heap.size ≤ q) s.heap H locs) {ls : Array Slot} (hl : lv_has ls 4 (lvL b ad md i))
    (kk : ∀ (u1 : EBS) (x1 : MS) (H1 : Heap) (locs1 : List Loc), ST u1 x1 → va_P g.1 vwCl (eCells g ad cf u1 ++ mCells g md x1) H1 → va_D (fun q : Nat => s.heap.size ≤ q) (eCells g ad cf u1 ++ mCells g md x1) → va_S (fun q : Nat => s.heap.size ≤ q) s.heap H1 locs1 → W p l e room_1 s m #[Value.ref b] below meth c H1 locs1 (cells + 3) (slots + 6) Q (F0 m 796 ls [])) :
    W p l e room_1 s m #[Value.ref b] below meth c H locs cells slots Q (F0 m 112 ls []) := by
  obtain ⟨hx, hb, hml, hown, hts, hX, hbl, hK, hN⟩ := C
  have hA : ∀ q : Nat, s.heap.size ≤ q → (fun q : Nat => s.heap.size ≤ q) q := fun _ h => h
  have hbA : ¬ (fun q : Nat => s.heap.size ≤ q) b := Nat.not_le.mpr hbl
  have v1 : vp_in (nI (i + 1)) L := vp_in_nI (by omega) (by omega)
  have v2 : vp_in (nI (i + 2)) L := vp_in_nI (by omega) (by omega)
  refine lv_aload_n hx hb dL_law_112 rfl (lv_at hl 1 rfl) ?_
  refine lv_aload_n hx hb dL_law_113 rfl (lv_at hl 0 rfl) ?_
  refine lv_iload_n hx hb dL_law_114 rfl (lv_at hl 3 rfl) ?_
  refine lv_iconst (v := nI 1) hx hb dL_law_115 (by decide) ?_
  refine lv_iadd hx hb dL_law_116 ?_
  refine k_ei (y := nI (i + 1)) (nI_add _ _) ?_
  refine va_sld hx hb hX hbl hbA hS v1 dL_law_117 ?_
  refine lv_aload_n hx hb dL_law_118 rfl (lv_at hl 0 rfl) ?_
  refine lv_iload_n hx hb dL_law_119 rfl (lv_at hl 3 rfl) ?_
  refine lv_iconst (v := nI 2) hx hb dL_law_120 (by decide) ?_
  refine lv_iadd hx hb dL_law_121 ?_
  refine k_ei (y := nI (i + 2)) (nI_add _ _) ?_
  refine va_sld hx hb hX hbl hbA hS v2 dL_law_122 ?_
  refine go_i (wc := eCells g ad cf u) (wr := mCells g md x) hP hD hS hA [0, 1, 2, 3, 4, 5, 6, 7, 8, 9, 10, 11, 12, 13, 14, 15, 16, 17, 18, 19, 20, 21, 22, 23, 24, 25, 26] [27, 28, 29, 30, 31, 32, 33, 34, 35, 36] rfl rfl rfl rfl (by decide) (fun hPc hDc => rn_V (As := [.int (xs (nI (i + 1)).toNatClampNeg), .int (xs (nI (i + 2)).toNatClampNeg)]) (rest := []) ⟨hx, hb, hml, hown, hts⟩ (c_X3_start l g ad cf u (xs (nI (i + 1)).toNatClampNeg) (xs (nI (i + 2)).toNatClampNeg) hc0 hc1 hc2 hST.1 hST.2.1 _) (cwl_X3_start hts) hK hN hPc hDc 0 rfl rfl rfl rfl hl.1 (Nat.le_of_ble_eq_true rfl) dL_law_123 ⟨by show _ ≤ 600000; omega, by show _ ≤ 7302250; omega⟩) ?_
  intro r1 u1 H locs hr1 hP hD hS
  have hP : va_P g.1 vwCl (eCells g ad cf u1 ++ mCells g md x) H := hP.sub [10, 11, 12, 13, 14, 15, 16, 17, 18, 19, 20, 21, 22, 23, 24, 25, 26, 27, 28, 29, 30, 31, 32, 33, 34, 35, 36, 0, 1, 2, 3, 4, 5, 6, 7, 8, 9] rfl
  have hD : va_D (fun q : Nat => s.heap.size ≤ q) (eCells g ad cf u1 ++ mCells g md x) := hD.sub [10, 11, 12, 13, 14, 15, 16, 17, 18, 19, 20, 21, 22, 23, 24, 25, 26, 27, 28, 29, 30, 31, 32, 33, 34, 35, 36, 0, 1, 2, 3, 4, 5, 6, 7, 8, 9] rfl rfl
  refine lv_aload_n hx hb dL_law_126 rfl (lv_at hl 2 rfl) ?_
  refine lv_aload_n hx hb dL_law_127 rfl (lv_at hl 0 rfl) ?_
  refine lv_iload_n hx hb dL_law_128 rfl (lv_at hl 3 rfl) ?_
  refine lv_iconst (v := nI 1) hx hb dL_law_129 (by decide) ?_
  refine lv_iadd hx hb dL_law_130 ?_
  refine k_ei (y := nI (i + 1)) (nI_add _ _) ?_
  refine va_sld hx hb hX hbl hbA hS v1 dL_law_131 ?_
  refine lv_aload_n hx hb dL_law_132 rfl (lv_at hl 0 rfl) ?_
  refine lv_iload_n hx hb dL_law_133 rfl (lv_at hl 3 rfl) ?_
  refine lv_iconst (v := nI 2) hx hb dL_law_134 (by decide) ?_
  refine lv_iadd hx hb dL_law_135 ?_
  refine k_ei (y := nI (i + 2)) (nI_add _ _) ?_
  refine va_sld hx hb hX hbl hbA hS v2 dL_law_136 ?_
  refine go_i (wc := mCells g md x) (wr := eCells g ad cf u1) hP hD hS hA [27, 28, 29, 30, 31, 32, 33, 34, 35, 36] [0, 1, 2, 3, 4, 5, 6, 7, 8, 9, 10, 11, 12, 13, 14, 15, 16, 17, 18, 19, 20, 21, 22, 23, 24, 25, 26] rfl rfl rfl rfl (by decide) (fun hPc hDc => rn_V (As := [.int (xs (nI (i + 1)).toNatClampNeg), .int (xs (nI (i + 2)).toNatClampNeg)]) (rest := [.int r1]) ⟨hx, hb, hml, hown, hts⟩ (c_X4_start l g md x (xs (nI (i + 1)).toNatClampNeg) (xs (nI (i + 2)).toNatClampNeg) hST.2.2.1 _) (cwl_X4_start hts) hK hN hPc hDc 0 rfl rfl rfl rfl hl.1 (Nat.le_of_ble_eq_true rfl) dL_law_137 ⟨by show _ ≤ 600000; omega, by show _ ≤ 7302250; omega⟩) ?_
  intro r2 x1 H locs hr2 hP hD hS
  have hP : va_P g.1 vwCl (eCells g ad cf u1 ++ mCells g md x1) H := hP
  have hD : va_D (fun q : Nat => s.heap.size ≤ q) (eCells g ad cf u1 ++ mCells g md x1) := hD
  have hh : r1 = r2 ∧ ST u1 x1 := a_start hST hr1 hr2
  refine lv_icmp_eq (tgt := 796) hx hb dL_law_140 (by decide) (fun c_9 => ?_) (fun c_9 => ?_)
  · refine W.widen (k := cells + 3) (n := slots + 6) (by omega) (by omega) ?_
    exact kk u1 x1 H locs hh.2 hP hD hS
  · exact absurd hh.1 c_9
set_option maxHeartbeats 20000000 in
set_option maxRecDepth 100000 in
theorem case_work {p : Program} {e : Env} {s : State} {m : MethodId} {below : List Frame} {meth : Method} {c : Code} (l : Launch) {g : Gt} {b L : Nat} {xs : Nat → Int32} {Q : State → Prop} (C : LC p s m c g b L xs) (ad : Nat → Nat) (cf : Nat → Option Nat) (md : Nat → Nat) (u : EBS) (x : MS) (hc0 : cf 0 = some (ad 11)) (hc1 : cf 1 = some (ad 15)) (hc2 : cf 2 = some (ad 19)) (hST : ST u x) {i : Nat} (hi : i + 6 ≤ L) (hL : L ≤ 3072) {H : Heap} {locs : List Loc} {cells slots : Nat} (hcl : cells + 3 ≤ 600000) (hsl : slots + 6 ≤ 7302250) (hP : va_P g.1 vwCl (eCells g ad cf u ++ mCells g md x) H) (hD : va_D (fun q : Nat => s.heap.size ≤ q) (eCells g ad cf u ++ mCells g md x)) (hS : va_S (fun q : Nat => s.heap.size ≤ q) s.heap H locs) {ls : Array Slot} (hl : lv_has ls 4 (lvL b ad md i))
    (kk : ∀ (u1 : EBS) (x1 : MS) (H1 : Heap) (locs1 : List Loc), ST u1 x1 → va_P g.1 vwCl (eCells g ad cf u1 ++ mCells g md x1) H1 → va_D (fun q : Nat => s.heap.size ≤ q) (eCells g ad cf u1 ++ mCells g md x1) → va_S (fun q : Nat => s.heap.size ≤ q) s.heap H1 locs1 → W p l e room_1 s m #[Value.ref b] below meth c H1 locs1 (cells + 3) (slots + 6) Q (F0 m 796 ls [])) :
    W p l e room_1 s m #[Value.ref b] below meth c H locs cells slots Q (F0 m 145 ls []) := by
  obtain ⟨hx, hb, hml, hown, hts, hX, hbl, hK, hN⟩ := C
  have hA : ∀ q : Nat, s.heap.size ≤ q → (fun q : Nat => s.heap.size ≤ q) q := fun _ h => h
  have hbA : ¬ (fun q : Nat => s.heap.size ≤ q) b := Nat.not_le.mpr hbl
  have v1 : vp_in (nI (i + 1)) L := vp_in_nI (by omega) (by omega)
  have v2 : vp_in (nI (i + 2)) L := vp_in_nI (by omega) (by omega)
  have v3 : vp_in (nI (i + 3)) L := vp_in_nI (by omega) (by omega)
  have v4 : vp_in (nI (i + 4)) L := vp_in_nI (by omega) (by omega)
  refine lv_aload_n hx hb dL_law_145 rfl (lv_at hl 1 rfl) ?_
  refine lv_aload_n hx hb dL_law_146 rfl (lv_at hl 0 rfl) ?_
  refine lv_iload_n hx hb dL_law_147 rfl (lv_at hl 3 rfl) ?_
  refine lv_iconst (v := nI 1) hx hb dL_law_148 (by decide) ?_
  refine lv_iadd hx hb dL_law_149 ?_
  refine k_ei (y := nI (i + 1)) (nI_add _ _) ?_
  refine va_sld hx hb hX hbl hbA hS v1 dL_law_150 ?_
  refine lv_aload_n hx hb dL_law_151 rfl (lv_at hl 0 rfl) ?_
  refine lv_iload_n hx hb dL_law_152 rfl (lv_at hl 3 rfl) ?_
  refine lv_iconst (v := nI 2) hx hb dL_law_153 (by decide) ?_
  refine lv_iadd hx hb dL_law_154 ?_
  refine k_ei (y := nI (i + 2)) (nI_add _ _) ?_
  refine va_sld hx hb hX hbl hbA hS v2 dL_law_155 ?_
  refine lv_aload_n hx hb dL_law_156 rfl (lv_at hl 0 rfl) ?_
  refine lv_iload_n hx hb dL_law_157 rfl (lv_at hl 3 rfl) ?_
  refine lv_iconst (v := nI 3) hx hb dL_law_158 (by decide) ?_
  refine lv_iadd hx hb dL_law_159 ?_
  refine k_ei (y := nI (i + 3)) (nI_add _ _) ?_
  refine va_sld hx hb hX hbl hbA hS v3 dL_law_160 ?_
  refine lv_aload_n hx hb dL_law_161 rfl (lv_at hl 0 rfl) ?_
  refine lv_iload_n hx hb dL_law_162 rfl (lv_at hl 3 rfl) ?_
  refine lv_iconst (v := nI 4) hx hb dL_law_163 (by decide) ?_
  refine lv_iadd hx hb dL_law_164 ?_
  refine k_ei (y := nI (i + 4)) (nI_add _ _) ?_
  refine va_sld hx hb hX hbl hbA hS v4 dL_law_165 ?_
  refine go_i (wc := eCells g ad cf u) (wr := mCells g md x) hP hD hS hA [0, 1, 2, 3, 4, 5, 6, 7, 8, 9, 10, 11, 12, 13, 14, 15, 16, 17, 18, 19, 20, 21, 22, 23, 24, 25, 26] [27, 28, 29, 30, 31, 32, 33, 34, 35, 36] rfl rfl rfl rfl (by decide) (fun hPc hDc => rn_V (As := [.int (xs (nI (i + 1)).toNatClampNeg), .int (xs (nI (i + 2)).toNatClampNeg), .int (xs (nI (i + 3)).toNatClampNeg), .int (xs (nI (i + 4)).toNatClampNeg)]) (rest := []) ⟨hx, hb, hml, hown, hts⟩ (c_X3_work l g ad cf u (xs (nI (i + 1)).toNatClampNeg) (xs (nI (i + 2)).toNatClampNeg) (xs (nI (i + 3)).toNatClampNeg) (xs (nI (i + 4)).toNatClampNeg) hc0 hc1 hc2 hST.1 hST.2.1 _) (cwl_X3_work hts) hK hN hPc hDc 0 rfl rfl rfl rfl hl.1 (Nat.le_of_ble_eq_true rfl) dL_law_166 ⟨by show _ ≤ 600000; omega, by show _ ≤ 7302250; omega⟩) ?_
  intro r1 u1 H locs hr1 hP hD hS
  have hP : va_P g.1 vwCl (eCells g ad cf u1 ++ mCells g md x) H := hP.sub [10, 11, 12, 13, 14, 15, 16, 17, 18, 19, 20, 21, 22, 23, 24, 25, 26, 27, 28, 29, 30, 31, 32, 33, 34, 35, 36, 0, 1, 2, 3, 4, 5, 6, 7, 8, 9] rfl
  have hD : va_D (fun q : Nat => s.heap.size ≤ q) (eCells g ad cf u1 ++ mCells g md x) := hD.sub [10, 11, 12, 13, 14, 15, 16, 17, 18, 19, 20, 21, 22, 23, 24, 25, 26, 27, 28, 29, 30, 31, 32, 33, 34, 35, 36, 0, 1, 2, 3, 4, 5, 6, 7, 8, 9] rfl rfl
  refine lv_aload_n hx hb dL_law_169 rfl (lv_at hl 2 rfl) ?_
  refine lv_aload_n hx hb dL_law_170 rfl (lv_at hl 0 rfl) ?_
  refine lv_iload_n hx hb dL_law_171 rfl (lv_at hl 3 rfl) ?_
  refine lv_iconst (v := nI 1) hx hb dL_law_172 (by decide) ?_
  refine lv_iadd hx hb dL_law_173 ?_
  refine k_ei (y := nI (i + 1)) (nI_add _ _) ?_
  refine va_sld hx hb hX hbl hbA hS v1 dL_law_174 ?_
  refine lv_aload_n hx hb dL_law_175 rfl (lv_at hl 0 rfl) ?_
  refine lv_iload_n hx hb dL_law_176 rfl (lv_at hl 3 rfl) ?_
  refine lv_iconst (v := nI 2) hx hb dL_law_177 (by decide) ?_
  refine lv_iadd hx hb dL_law_178 ?_
  refine k_ei (y := nI (i + 2)) (nI_add _ _) ?_
  refine va_sld hx hb hX hbl hbA hS v2 dL_law_179 ?_
  refine lv_aload_n hx hb dL_law_180 rfl (lv_at hl 0 rfl) ?_
  refine lv_iload_n hx hb dL_law_181 rfl (lv_at hl 3 rfl) ?_
  refine lv_iconst (v := nI 3) hx hb dL_law_182 (by decide) ?_
  refine lv_iadd hx hb dL_law_183 ?_
  refine k_ei (y := nI (i + 3)) (nI_add _ _) ?_
  refine va_sld hx hb hX hbl hbA hS v3 dL_law_184 ?_
  refine lv_aload_n hx hb dL_law_185 rfl (lv_at hl 0 rfl) ?_
  refine lv_iload_n hx hb dL_law_186 rfl (lv_at hl 3 rfl) ?_
  refine lv_iconst (v := nI 4) hx hb dL_law_187 (by decide) ?_
  refine lv_iadd hx hb dL_law_188 ?_
  refine k_ei (y := nI (i + 4)) (nI_add _ _) ?_
  refine va_sld hx hb hX hbl hbA hS v4 dL_law_189 ?_
  refine go_i (wc := mCells g md x) (wr := eCells g ad cf u1) hP hD hS hA [27, 28, 29, 30, 31, 32, 33, 34, 35, 36] [0, 1, 2, 3, 4, 5, 6, 7, 8, 9, 10, 11, 12, 13, 14, 15, 16, 17, 18, 19, 20, 21, 22, 23, 24, 25, 26] rfl rfl rfl rfl (by decide) (fun hPc hDc => rn_V (As := [.int (xs (nI (i + 1)).toNatClampNeg), .int (xs (nI (i + 2)).toNatClampNeg), .int (xs (nI (i + 3)).toNatClampNeg), .int (xs (nI (i + 4)).toNatClampNeg)]) (rest := [.int r1]) ⟨hx, hb, hml, hown, hts⟩ (c_X4_work l g md x (xs (nI (i + 1)).toNatClampNeg) (xs (nI (i + 2)).toNatClampNeg) (xs (nI (i + 3)).toNatClampNeg) (xs (nI (i + 4)).toNatClampNeg) hST.2.2.1 _) (cwl_X4_work hts) hK hN hPc hDc 0 rfl rfl rfl rfl hl.1 (Nat.le_of_ble_eq_true rfl) dL_law_190 ⟨by show _ ≤ 600000; omega, by show _ ≤ 7302250; omega⟩) ?_
  intro r2 x1 H locs hr2 hP hD hS
  have hP : va_P g.1 vwCl (eCells g ad cf u1 ++ mCells g md x1) H := hP
  have hD : va_D (fun q : Nat => s.heap.size ≤ q) (eCells g ad cf u1 ++ mCells g md x1) := hD
  have hh : r1 = r2 ∧ ST u1 x1 := a_work hST hr1 hr2
  refine lv_icmp_eq (tgt := 796) hx hb dL_law_193 (by decide) (fun c_9 => ?_) (fun c_9 => ?_)
  · refine W.widen (k := cells + 3) (n := slots + 6) (by omega) (by omega) ?_
    exact kk u1 x1 H locs hh.2 hP hD hS
  · exact absurd hh.1 c_9
set_option maxHeartbeats 20000000 in
set_option maxRecDepth 100000 in
theorem case_set {p : Program} {e : Env} {s : State} {m : MethodId} {below : List Frame} {meth : Method} {c : Code} (l : Launch) {g : Gt} {b L : Nat} {xs : Nat → Int32} {Q : State → Prop} (C : LC p s m c g b L xs) (ad : Nat → Nat) (cf : Nat → Option Nat) (md : Nat → Nat) (u : EBS) (x : MS) (hc0 : cf 0 = some (ad 11)) (hc1 : cf 1 = some (ad 15)) (hc2 : cf 2 = some (ad 19)) (hST : ST u x) {i : Nat} (hi : i + 6 ≤ L) (hL : L ≤ 3072) {H : Heap} {locs : List Loc} {cells slots : Nat} (hcl : cells + 3 ≤ 600000) (hsl : slots + 6 ≤ 7302250) (hP : va_P g.1 vwCl (eCells g ad cf u ++ mCells g md x) H) (hD : va_D (fun q : Nat => s.heap.size ≤ q) (eCells g ad cf u ++ mCells g md x)) (hS : va_S (fun q : Nat => s.heap.size ≤ q) s.heap H locs) {ls : Array Slot} (hl : lv_has ls 4 (lvL b ad md i))
    (kk : ∀ (u1 : EBS) (x1 : MS) (H1 : Heap) (locs1 : List Loc), ST u1 x1 → va_P g.1 vwCl (eCells g ad cf u1 ++ mCells g md x1) H1 → va_D (fun q : Nat => s.heap.size ≤ q) (eCells g ad cf u1 ++ mCells g md x1) → va_S (fun q : Nat => s.heap.size ≤ q) s.heap H1 locs1 → W p l e room_1 s m #[Value.ref b] below meth c H1 locs1 (cells + 3) (slots + 6) Q (F0 m 796 ls [])) :
    W p l e room_1 s m #[Value.ref b] below meth c H locs cells slots Q (F0 m 198 ls []) := by
  obtain ⟨hx, hb, hml, hown, hts, hX, hbl, hK, hN⟩ := C
  have hA : ∀ q : Nat, s.heap.size ≤ q → (fun q : Nat => s.heap.size ≤ q) q := fun _ h => h
  have hbA : ¬ (fun q : Nat => s.heap.size ≤ q) b := Nat.not_le.mpr hbl
  have v1 : vp_in (nI (i + 1)) L := vp_in_nI (by omega) (by omega)
  have v2 : vp_in (nI (i + 2)) L := vp_in_nI (by omega) (by omega)
  refine lv_aload_n hx hb dL_law_198 rfl (lv_at hl 1 rfl) ?_
  refine lv_aload_n hx hb dL_law_199 rfl (lv_at hl 0 rfl) ?_
  refine lv_iload_n hx hb dL_law_200 rfl (lv_at hl 3 rfl) ?_
  refine lv_iconst (v := nI 1) hx hb dL_law_201 (by decide) ?_
  refine lv_iadd hx hb dL_law_202 ?_
  refine k_ei (y := nI (i + 1)) (nI_add _ _) ?_
  refine va_sld hx hb hX hbl hbA hS v1 dL_law_203 ?_
  refine lv_aload_n hx hb dL_law_204 rfl (lv_at hl 0 rfl) ?_
  refine lv_iload_n hx hb dL_law_205 rfl (lv_at hl 3 rfl) ?_
  refine lv_iconst (v := nI 2) hx hb dL_law_206 (by decide) ?_
  refine lv_iadd hx hb dL_law_207 ?_
  refine k_ei (y := nI (i + 2)) (nI_add _ _) ?_
  refine va_sld hx hb hX hbl hbA hS v2 dL_law_208 ?_
  refine lv_if_eq (tgt := 216) hx hb dL_law_209 (by decide) (fun c_1 => ?_) (fun c_1 => ?_)
  · have c_0 := c_1
    refine lv_iconst (v := nI 0) hx hb dL_law_216 (by decide) ?_
    refine go_i (wc := eCells g ad cf u) (wr := mCells g md x) hP hD hS hA [0, 1, 2, 3, 4, 5, 6, 7, 8, 9, 10, 11, 12, 13, 14, 15, 16, 17, 18, 19, 20, 21, 22, 23, 24, 25, 26] [27, 28, 29, 30, 31, 32, 33, 34, 35, 36] rfl rfl rfl rfl (by decide) (fun hPc hDc => rn_V (As := [.int (xs (nI (i + 1)).toNatClampNeg), .int (nI 0)]) (rest := []) ⟨hx, hb, hml, hown, hts⟩ (c_X3_set l g ad cf u (xs (nI (i + 1)).toNatClampNeg) (nI 0) hc0 hc1 hc2 hST.1 hST.2.1 (by decide) _) (cwl_X3_set hts) hK hN hPc hDc 0 rfl rfl rfl rfl hl.1 (Nat.le_of_ble_eq_true rfl) dL_law_217 ⟨by show _ ≤ 600000; omega, by show _ ≤ 7302250; omega⟩) ?_
    intro r1 u1 H locs hr1 hP hD hS
    have hP : va_P g.1 vwCl (eCells g ad cf u1 ++ mCells g md x) H := hP.sub [10, 11, 12, 13, 14, 15, 16, 17, 18, 19, 20, 21, 22, 23, 24, 25, 26, 27, 28, 29, 30, 31, 32, 33, 34, 35, 36, 0, 1, 2, 3, 4, 5, 6, 7, 8, 9] rfl
    have hD : va_D (fun q : Nat => s.heap.size ≤ q) (eCells g ad cf u1 ++ mCells g md x) := hD.sub [10, 11, 12, 13, 14, 15, 16, 17, 18, 19, 20, 21, 22, 23, 24, 25, 26, 27, 28, 29, 30, 31, 32, 33, 34, 35, 36, 0, 1, 2, 3, 4, 5, 6, 7, 8, 9] rfl rfl
    refine lv_aload_n hx hb dL_law_220 rfl (lv_at hl 2 rfl) ?_
    refine lv_aload_n hx hb dL_law_221 rfl (lv_at hl 0 rfl) ?_
    refine lv_iload_n hx hb dL_law_222 rfl (lv_at hl 3 rfl) ?_
    refine lv_iconst (v := nI 1) hx hb dL_law_223 (by decide) ?_
    refine lv_iadd hx hb dL_law_224 ?_
    refine k_ei (y := nI (i + 1)) (nI_add _ _) ?_
    refine va_sld hx hb hX hbl hbA hS v1 dL_law_225 ?_
    refine lv_aload_n hx hb dL_law_226 rfl (lv_at hl 0 rfl) ?_
    refine lv_iload_n hx hb dL_law_227 rfl (lv_at hl 3 rfl) ?_
    refine lv_iconst (v := nI 2) hx hb dL_law_228 (by decide) ?_
    refine lv_iadd hx hb dL_law_229 ?_
    refine k_ei (y := nI (i + 2)) (nI_add _ _) ?_
    refine va_sld hx hb hX hbl hbA hS v2 dL_law_230 ?_
    refine lv_if_eq (tgt := 238) hx hb dL_law_231 (by decide) (fun c_1 => ?_) (fun c_1 => ?_)
    · skip
      refine lv_iconst (v := nI 0) hx hb dL_law_238 (by decide) ?_
      refine go_i (wc := mCells g md x) (wr := eCells g ad cf u1) hP hD hS hA [27, 28, 29, 30, 31, 32, 33, 34, 35, 36] [0, 1, 2, 3, 4, 5, 6, 7, 8, 9, 10, 11, 12, 13, 14, 15, 16, 17, 18, 19, 20, 21, 22, 23, 24, 25, 26] rfl rfl rfl rfl (by decide) (fun hPc hDc => rn_V (As := [.int (xs (nI (i + 1)).toNatClampNeg), .int (nI 0)]) (rest := [.int r1]) ⟨hx, hb, hml, hown, hts⟩ (c_X4_set l g md x (xs (nI (i + 1)).toNatClampNeg) (nI 0) hST.2.2.1 (by decide) _) (cwl_X4_set hts) hK hN hPc hDc 0 rfl rfl rfl rfl hl.1 (Nat.le_of_ble_eq_true rfl) dL_law_239 ⟨by show _ ≤ 600000; omega, by show _ ≤ 7302250; omega⟩) ?_
      intro r2 x1 H locs hr2 hP hD hS
      have hP : va_P g.1 vwCl (eCells g ad cf u1 ++ mCells g md x1) H := hP
      have hD : va_D (fun q : Nat => s.heap.size ≤ q) (eCells g ad cf u1 ++ mCells g md x1) := hD
      have hh : r1 = r2 ∧ ST u1 x1 := a_set (by decide) hST hr1 hr2
      refine lv_icmp_eq (tgt := 796) hx hb dL_law_242 (by decide) (fun c_9 => ?_) (fun c_9 => ?_)
      · refine W.widen (k := cells + 3) (n := slots + 6) (by omega) (by omega) ?_
        exact kk u1 x1 H locs hh.2 hP hD hS
      · exact absurd hh.1 c_9
    · exact absurd c_0 c_1
  · have c_0 := c_1
    refine lv_iconst (v := nI 1) hx hb dL_law_212 (by decide) ?_
    refine lv_goto (tgt := 217) hx hb dL_law_213 (by decide) ?_
    refine go_i (wc := eCells g ad cf u) (wr := mCells g md x) hP hD hS hA [0, 1, 2, 3, 4, 5, 6, 7, 8, 9, 10, 11, 12, 13, 14, 15, 16, 17, 18, 19, 20, 21, 22, 23, 24, 25, 26] [27, 28, 29, 30, 31, 32, 33, 34, 35, 36] rfl rfl rfl rfl (by decide) (fun hPc hDc => rn_V (As := [.int (xs (nI (i + 1)).toNatClampNeg), .int (nI 1)]) (rest := []) ⟨hx, hb, hml, hown, hts⟩ (c_X3_set l g ad cf u (xs (nI (i + 1)).toNatClampNeg) (nI 1) hc0 hc1 hc2 hST.1 hST.2.1 (by decide) _) (cwl_X3_set hts) hK hN hPc hDc 0 rfl rfl rfl rfl hl.1 (Nat.le_of_ble_eq_true rfl) dL_law_217 ⟨by show _ ≤ 600000; omega, by show _ ≤ 7302250; omega⟩) ?_
    intro r1 u1 H locs hr1 hP hD hS
    have hP : va_P g.1 vwCl (eCells g ad cf u1 ++ mCells g md x) H := hP.sub [10, 11, 12, 13, 14, 15, 16, 17, 18, 19, 20, 21, 22, 23, 24, 25, 26, 27, 28, 29, 30, 31, 32, 33, 34, 35, 36, 0, 1, 2, 3, 4, 5, 6, 7, 8, 9] rfl
    have hD : va_D (fun q : Nat => s.heap.size ≤ q) (eCells g ad cf u1 ++ mCells g md x) := hD.sub [10, 11, 12, 13, 14, 15, 16, 17, 18, 19, 20, 21, 22, 23, 24, 25, 26, 27, 28, 29, 30, 31, 32, 33, 34, 35, 36, 0, 1, 2, 3, 4, 5, 6, 7, 8, 9] rfl rfl
    refine lv_aload_n hx hb dL_law_220 rfl (lv_at hl 2 rfl) ?_
    refine lv_aload_n hx hb dL_law_221 rfl (lv_at hl 0 rfl) ?_
    refine lv_iload_n hx hb dL_law_222 rfl (lv_at hl 3 rfl) ?_
    refine lv_iconst (v := nI 1) hx hb dL_law_223 (by decide) ?_
    refine lv_iadd hx hb dL_law_224 ?_
    refine k_ei (y := nI (i + 1)) (nI_add _ _) ?_
    refine va_sld hx hb hX hbl hbA hS v1 dL_law_225 ?_
    refine lv_aload_n hx hb dL_law_226 rfl (lv_at hl 0 rfl) ?_
    refine lv_iload_n hx hb dL_law_227 rfl (lv_at hl 3 rfl) ?_
    refine lv_iconst (v := nI 2) hx hb dL_law_228 (by decide) ?_
    refine lv_iadd hx hb dL_law_229 ?_
    refine k_ei (y := nI (i + 2)) (nI_add _ _) ?_
    refine va_sld hx hb hX hbl hbA hS v2 dL_law_230 ?_
    refine lv_if_eq (tgt := 238) hx hb dL_law_231 (by decide) (fun c_1 => ?_) (fun c_1 => ?_)
    · exact absurd c_1 c_0
    · skip
      refine lv_iconst (v := nI 1) hx hb dL_law_234 (by decide) ?_
      refine lv_goto (tgt := 239) hx hb dL_law_235 (by decide) ?_
      refine go_i (wc := mCells g md x) (wr := eCells g ad cf u1) hP hD hS hA [27, 28, 29, 30, 31, 32, 33, 34, 35, 36] [0, 1, 2, 3, 4, 5, 6, 7, 8, 9, 10, 11, 12, 13, 14, 15, 16, 17, 18, 19, 20, 21, 22, 23, 24, 25, 26] rfl rfl rfl rfl (by decide) (fun hPc hDc => rn_V (As := [.int (xs (nI (i + 1)).toNatClampNeg), .int (nI 1)]) (rest := [.int r1]) ⟨hx, hb, hml, hown, hts⟩ (c_X4_set l g md x (xs (nI (i + 1)).toNatClampNeg) (nI 1) hST.2.2.1 (by decide) _) (cwl_X4_set hts) hK hN hPc hDc 0 rfl rfl rfl rfl hl.1 (Nat.le_of_ble_eq_true rfl) dL_law_239 ⟨by show _ ≤ 600000; omega, by show _ ≤ 7302250; omega⟩) ?_
      intro r2 x1 H locs hr2 hP hD hS
      have hP : va_P g.1 vwCl (eCells g ad cf u1 ++ mCells g md x1) H := hP
      have hD : va_D (fun q : Nat => s.heap.size ≤ q) (eCells g ad cf u1 ++ mCells g md x1) := hD
      have hh : r1 = r2 ∧ ST u1 x1 := a_set (by decide) hST hr1 hr2
      refine lv_icmp_eq (tgt := 796) hx hb dL_law_242 (by decide) (fun c_9 => ?_) (fun c_9 => ?_)
      · refine W.widen (k := cells + 3) (n := slots + 6) (by omega) (by omega) ?_
        exact kk u1 x1 H locs hh.2 hP hD hS
      · exact absurd hh.1 c_9
set_option maxHeartbeats 20000000 in
set_option maxRecDepth 100000 in
theorem case_missing {p : Program} {e : Env} {s : State} {m : MethodId} {below : List Frame} {meth : Method} {c : Code} (l : Launch) {g : Gt} {b L : Nat} {xs : Nat → Int32} {Q : State → Prop} (C : LC p s m c g b L xs) (ad : Nat → Nat) (cf : Nat → Option Nat) (md : Nat → Nat) (u : EBS) (x : MS) (hc0 : cf 0 = some (ad 11)) (hc1 : cf 1 = some (ad 15)) (hc2 : cf 2 = some (ad 19)) (hST : ST u x) {i : Nat} (hi : i + 6 ≤ L) (hL : L ≤ 3072) {H : Heap} {locs : List Loc} {cells slots : Nat} (hcl : cells + 3 ≤ 600000) (hsl : slots + 6 ≤ 7302250) (hP : va_P g.1 vwCl (eCells g ad cf u ++ mCells g md x) H) (hD : va_D (fun q : Nat => s.heap.size ≤ q) (eCells g ad cf u ++ mCells g md x)) (hS : va_S (fun q : Nat => s.heap.size ≤ q) s.heap H locs) {ls : Array Slot} (hl : lv_has ls 4 (lvL b ad md i))
    (kk : ∀ (u1 : EBS) (x1 : MS) (H1 : Heap) (locs1 : List Loc), ST u1 x1 → va_P g.1 vwCl (eCells g ad cf u1 ++ mCells g md x1) H1 → va_D (fun q : Nat => s.heap.size ≤ q) (eCells g ad cf u1 ++ mCells g md x1) → va_S (fun q : Nat => s.heap.size ≤ q) s.heap H1 locs1 → W p l e room_1 s m #[Value.ref b] below meth c H1 locs1 (cells + 3) (slots + 6) Q (F0 m 796 ls [])) :
    W p l e room_1 s m #[Value.ref b] below meth c H locs cells slots Q (F0 m 247 ls []) := by
  obtain ⟨hx, hb, hml, hown, hts, hX, hbl, hK, hN⟩ := C
  have hA : ∀ q : Nat, s.heap.size ≤ q → (fun q : Nat => s.heap.size ≤ q) q := fun _ h => h
  have hbA : ¬ (fun q : Nat => s.heap.size ≤ q) b := Nat.not_le.mpr hbl
  have v1 : vp_in (nI (i + 1)) L := vp_in_nI (by omega) (by omega)
  have v2 : vp_in (nI (i + 2)) L := vp_in_nI (by omega) (by omega)
  have v3 : vp_in (nI (i + 3)) L := vp_in_nI (by omega) (by omega)
  have v4 : vp_in (nI (i + 4)) L := vp_in_nI (by omega) (by omega)
  refine lv_aload_n hx hb dL_law_247 rfl (lv_at hl 1 rfl) ?_
  refine lv_aload_n hx hb dL_law_248 rfl (lv_at hl 0 rfl) ?_
  refine lv_iload_n hx hb dL_law_249 rfl (lv_at hl 3 rfl) ?_
  refine lv_iconst (v := nI 1) hx hb dL_law_250 (by decide) ?_
  refine lv_iadd hx hb dL_law_251 ?_
  refine k_ei (y := nI (i + 1)) (nI_add _ _) ?_
  refine va_sld hx hb hX hbl hbA hS v1 dL_law_252 ?_
  refine lv_aload_n hx hb dL_law_253 rfl (lv_at hl 0 rfl) ?_
  refine lv_iload_n hx hb dL_law_254 rfl (lv_at hl 3 rfl) ?_
  refine lv_iconst (v := nI 2) hx hb dL_law_255 (by decide) ?_
  refine lv_iadd hx hb dL_law_256 ?_
  refine k_ei (y := nI (i + 2)) (nI_add _ _) ?_
  refine va_sld hx hb hX hbl hbA hS v2 dL_law_257 ?_
  refine lv_aload_n hx hb dL_law_258 rfl (lv_at hl 0 rfl) ?_
  refine lv_iload_n hx hb dL_law_259 rfl (lv_at hl 3 rfl) ?_
  refine lv_iconst (v := nI 3) hx hb dL_law_260 (by decide) ?_
  refine lv_iadd hx hb dL_law_261 ?_
  refine k_ei (y := nI (i + 3)) (nI_add _ _) ?_
  refine va_sld hx hb hX hbl hbA hS v3 dL_law_262 ?_
  refine lv_aload_n hx hb dL_law_263 rfl (lv_at hl 0 rfl) ?_
  refine lv_iload_n hx hb dL_law_264 rfl (lv_at hl 3 rfl) ?_
  refine lv_iconst (v := nI 4) hx hb dL_law_265 (by decide) ?_
  refine lv_iadd hx hb dL_law_266 ?_
  refine k_ei (y := nI (i + 4)) (nI_add _ _) ?_
  refine va_sld hx hb hX hbl hbA hS v4 dL_law_267 ?_
  refine go_i (wc := eCells g ad cf u) (wr := mCells g md x) hP hD hS hA [0, 1, 2, 3, 4, 5, 6, 7, 8, 9, 10, 11, 12, 13, 14, 15, 16, 17, 18, 19, 20, 21, 22, 23, 24, 25, 26] [27, 28, 29, 30, 31, 32, 33, 34, 35, 36] rfl rfl rfl rfl (by decide) (fun hPc hDc => rn_V (As := [.int (xs (nI (i + 1)).toNatClampNeg), .int (xs (nI (i + 2)).toNatClampNeg), .int (xs (nI (i + 3)).toNatClampNeg), .int (xs (nI (i + 4)).toNatClampNeg)]) (rest := []) ⟨hx, hb, hml, hown, hts⟩ (c_X3_missing l g ad cf u (xs (nI (i + 1)).toNatClampNeg) (xs (nI (i + 2)).toNatClampNeg) (xs (nI (i + 3)).toNatClampNeg) (xs (nI (i + 4)).toNatClampNeg) hc0 hc1 hc2 hST.1 hST.2.1 _) (cwl_X3_missing hts) hK hN hPc hDc 0 rfl rfl rfl rfl hl.1 (Nat.le_of_ble_eq_true rfl) dL_law_268 ⟨by show _ ≤ 600000; omega, by show _ ≤ 7302250; omega⟩) ?_
  intro r1 u1 H locs hr1 hP hD hS
  have hP : va_P g.1 vwCl (eCells g ad cf u1 ++ mCells g md x) H := hP.sub [10, 11, 12, 13, 14, 15, 16, 17, 18, 19, 20, 21, 22, 23, 24, 25, 26, 27, 28, 29, 30, 31, 32, 33, 34, 35, 36, 0, 1, 2, 3, 4, 5, 6, 7, 8, 9] rfl
  have hD : va_D (fun q : Nat => s.heap.size ≤ q) (eCells g ad cf u1 ++ mCells g md x) := hD.sub [10, 11, 12, 13, 14, 15, 16, 17, 18, 19, 20, 21, 22, 23, 24, 25, 26, 27, 28, 29, 30, 31, 32, 33, 34, 35, 36, 0, 1, 2, 3, 4, 5, 6, 7, 8, 9] rfl rfl
  refine lv_aload_n hx hb dL_law_271 rfl (lv_at hl 2 rfl) ?_
  refine lv_aload_n hx hb dL_law_272 rfl (lv_at hl 0 rfl) ?_
  refine lv_iload_n hx hb dL_law_273 rfl (lv_at hl 3 rfl) ?_
  refine lv_iconst (v := nI 1) hx hb dL_law_274 (by decide) ?_
  refine lv_iadd hx hb dL_law_275 ?_
  refine k_ei (y := nI (i + 1)) (nI_add _ _) ?_
  refine va_sld hx hb hX hbl hbA hS v1 dL_law_276 ?_
  refine lv_aload_n hx hb dL_law_277 rfl (lv_at hl 0 rfl) ?_
  refine lv_iload_n hx hb dL_law_278 rfl (lv_at hl 3 rfl) ?_
  refine lv_iconst (v := nI 2) hx hb dL_law_279 (by decide) ?_
  refine lv_iadd hx hb dL_law_280 ?_
  refine k_ei (y := nI (i + 2)) (nI_add _ _) ?_
  refine va_sld hx hb hX hbl hbA hS v2 dL_law_281 ?_
  refine lv_aload_n hx hb dL_law_282 rfl (lv_at hl 0 rfl) ?_
  refine lv_iload_n hx hb dL_law_283 rfl (lv_at hl 3 rfl) ?_
  refine lv_iconst (v := nI 3) hx hb dL_law_284 (by decide) ?_
  refine lv_iadd hx hb dL_law_285 ?_
  refine k_ei (y := nI (i + 3)) (nI_add _ _) ?_
  refine va_sld hx hb hX hbl hbA hS v3 dL_law_286 ?_
  refine lv_aload_n hx hb dL_law_287 rfl (lv_at hl 0 rfl) ?_
  refine lv_iload_n hx hb dL_law_288 rfl (lv_at hl 3 rfl) ?_
  refine lv_iconst (v := nI 4) hx hb dL_law_289 (by decide) ?_
  refine lv_iadd hx hb dL_law_290 ?_
  refine k_ei (y := nI (i + 4)) (nI_add _ _) ?_
  refine va_sld hx hb hX hbl hbA hS v4 dL_law_291 ?_
  refine go_i (wc := mCells g md x) (wr := eCells g ad cf u1) hP hD hS hA [27, 28, 29, 30, 31, 32, 33, 34, 35, 36] [0, 1, 2, 3, 4, 5, 6, 7, 8, 9, 10, 11, 12, 13, 14, 15, 16, 17, 18, 19, 20, 21, 22, 23, 24, 25, 26] rfl rfl rfl rfl (by decide) (fun hPc hDc => rn_V (As := [.int (xs (nI (i + 1)).toNatClampNeg), .int (xs (nI (i + 2)).toNatClampNeg), .int (xs (nI (i + 3)).toNatClampNeg), .int (xs (nI (i + 4)).toNatClampNeg)]) (rest := [.int r1]) ⟨hx, hb, hml, hown, hts⟩ (c_X4_missing l g md x (xs (nI (i + 1)).toNatClampNeg) (xs (nI (i + 2)).toNatClampNeg) (xs (nI (i + 3)).toNatClampNeg) (xs (nI (i + 4)).toNatClampNeg) hST.2.2.1 _) (cwl_X4_missing hts) hK hN hPc hDc 0 rfl rfl rfl rfl hl.1 (Nat.le_of_ble_eq_true rfl) dL_law_292 ⟨by show _ ≤ 600000; omega, by show _ ≤ 7302250; omega⟩) ?_
  intro r2 x1 H locs hr2 hP hD hS
  have hP : va_P g.1 vwCl (eCells g ad cf u1 ++ mCells g md x1) H := hP
  have hD : va_D (fun q : Nat => s.heap.size ≤ q) (eCells g ad cf u1 ++ mCells g md x1) := hD
  have hh : r1 = r2 ∧ ST u1 x1 := a_missing hST hr1 hr2
  refine lv_icmp_eq (tgt := 796) hx hb dL_law_295 (by decide) (fun c_9 => ?_) (fun c_9 => ?_)
  · refine W.widen (k := cells + 3) (n := slots + 6) (by omega) (by omega) ?_
    exact kk u1 x1 H locs hh.2 hP hD hS
  · exact absurd hh.1 c_9
