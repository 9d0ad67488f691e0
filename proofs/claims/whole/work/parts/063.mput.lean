def alS (bd wy : Nat → Int64) (b : Nat) : Nat → Int64
  | 0 => 0
  | k + 1 => alS bd wy b k + bd (b * 5 + k) * wy k
def alB (bd wy : Nat → Int64) (wd : Nat) (sg : Int32) (b : Nat) : Nat → Bool
  | 0 => true
  | n + 1 => if 0 ≤ sg.toInt64 * alS bd wy b wd then alB bd wy wd sg (b + 1) n else false
/-- the first place where a side and a row differ, 5 if nowhere -/
def dfK (sd T : Nat → Int64) (a k : Nat) : Nat → Nat
  | 0 => k
  | n + 1 => if sd (a * 5 + k) = T k then dfK sd T a (k + 1) n else k
theorem dfK_le (sd T : Nat → Int64) (a : Nat) : ∀ n k : Nat, k ≤ dfK sd T a k n ∧ dfK sd T a k n ≤ k + n
  | 0, k => ⟨Nat.le_refl _, Nat.le_refl _⟩
  | n + 1, k => by
    rw [dfK]
    have h := dfK_le sd T a n (k + 1)
    split <;> omega
/-- where a row is put: none if it is there -/
def ptP (sd T : Nat → Int64) (a : Nat) : Nat → Option Nat
  | 0 => some a
  | n + 1 => if dfK sd T a 0 5 = 5 then none else if sd (a * 5 + dfK sd T a 0 5) < T (dfK sd T a 0 5) then some a else ptP sd T (a + 1) n
theorem ptP_le (sd T : Nat → Int64) : ∀ (n a p : Nat), ptP sd T a n = some p → a ≤ p ∧ p ≤ a + n
  | 0, a, p, h => by
    have h : some a = some p := h
    cases h
    exact ⟨Nat.le_refl _, Nat.le_refl _⟩
  | n + 1, a, p, h => by
    rw [ptP] at h
    split at h
    · cases h
    · split at h
      · cases h
        omega
      · have := ptP_le sd T n (a + 1) p h
        omega
def shU (a : Nat) : Nat → (Nat → Int64) → Nat → Int64
  | 0, f => f
  | n + 1, f => shU a n (vp_updL f (a + n + 5) (f (a + n)))
def flS (a : Nat) (T : Nat → Int64) (k : Nat) : Nat → (Nat → Int64) → Nat → Int64
  | 0, f => f
  | n + 1, f => flS a T (k + 1) n (vp_updL f (a * 5 + k) (T k))
def putF (T : Nat → Int64) (q : (Nat → Int64) × Nat) : (Nat → Int64) × Nat := match ptP q.1 T 0 q.2 with
  | none => q
  | some a => (flS a T 0 5 (shU (a * 5) (q.2 * 5 - a * 5) q.1), q.2 + 1)
theorem putF_none {T sd : Nat → Int64} {ns : Nat} (h : ptP sd T 0 ns = none) : putF T (sd, ns) = (sd, ns) := by
  unfold putF
  rw [h]
theorem putF_some {T sd : Nat → Int64} {ns a : Nat} (h : ptP sd T 0 ns = some a) : putF T (sd, ns) = (flS a T 0 5 (shU (a * 5) (ns * 5 - a * 5) sd), ns + 1) := by
  unfold putF
  rw [h]
theorem putF_le (T : Nat → Int64) (q : (Nat → Int64) × Nat) : (putF T q).2 ≤ q.2 + 1 := by
  unfold putF
  split
  · exact Nat.le_succ _
  · exact Nat.le_refl _
def sgC (c : Nat) : Int64 := if c % 2 = 0 then (nI 1).toInt64 else (-1 : Int32).toInt64
def trV (bd : Nat → Int64) (ch : Nat → Nat) (wd c : Nat) : Int64 := dtF bd ch wd (wd - 1) 0 (nI 1 <<< (nI c &&& 31)) * sgC c
def trW (bd : Nat → Int64) (ch : Nat → Nat) (wd c : Nat) : Nat → (Nat → Int64) × Int64 → (Nat → Int64) × Int64
  | 0, q => q
  | n + 1, q => trW bd ch wd (c + 1) n (vp_updL q.1 c (trV bd ch wd c), cmD q.2 (trV bd ch wd c))
def trD (d : Int64) (c : Nat) : Nat → (Nat → Int64) → Nat → Int64
  | 0, f => f
  | n + 1, f => trD d (c + 1) n (vp_updL f c (f c / d))
abbrev TS : Type := (Nat → Int64) × (Nat → Int64) × Nat
/-- the way, divided by the greatest common divisor, by its first sign that is allowed, put among the sides -/
def trE (bd : Nat → Int64) (nb wd t : Nat) (w2 : Nat → Int64) (q : (Nat → Int64) × Nat) : TS := if alB bd w2 wd (nI 1) 0 nb = true then (w2, putF (fun k => tdV w2 wd k t (nI 1)) q) else if alB bd w2 wd (-1) 0 nb = true then (w2, putF (fun k => tdV w2 wd k t (-1)) q) else (w2, q)
def trF (bd : Nat → Int64) (ch : Nat → Nat) (nb wd t : Nat) (q : TS) : TS := if (trW bd ch wd 0 wd (q.1, 0)).2 = 0 then ((trW bd ch wd 0 wd (q.1, 0)).1, q.2) else trE bd nb wd t (trD (trW bd ch wd 0 wd (q.1, 0)).2 0 wd (trW bd ch wd 0 wd (q.1, 0)).1) q.2
theorem trF_le (bd : Nat → Int64) (ch : Nat → Nat) (nb wd t : Nat) (q : TS) : (trF bd ch nb wd t q).2.2 ≤ q.2.2 + 1 := by
  unfold trF trE
  split
  · exact Nat.le_succ _
  · split
    · exact putF_le _ _
    · split
      · exact putF_le _ _
      · exact Nat.le_succ _
theorem iw_X4_isAllowed_X4 : ∀ w ∈ wsX40, w ∈ wsX4_isAllowed := fun w h => List.mem_cons_of_mem _ (List.mem_append_right _ h)
theorem fm_X4_isAllowed_73 : Cond.fieldLink RX4 73 "EdgeBenchModel" "bounds" "I" ∈ wsX4_isAllowed := List.mem_of_getElem? (i := 1) rfl
theorem fm_X4_isAllowed_70 : Cond.fieldLink RX4 70 "EdgeBenchModel" "wide" "I" ∈ wsX4_isAllowed := List.mem_of_getElem? (i := 2) rfl
theorem fm_X4_isAllowed_37 : Cond.fieldLink RX4 37 "EdgeBenchModel" "bound" "[J" ∈ wsX4_isAllowed := List.mem_of_getElem? (i := 3) rfl
theorem fm_X4_isAllowed_40 : Cond.fieldLink RX4 40 "EdgeBenchModel" "way" "[J" ∈ wsX4_isAllowed := by decide +kernel
set_option maxHeartbeats 20000000 in
set_option maxRecDepth 100000 in
theorem c_X4_isAllowed (l : Launch) (g : Gt) (md : Nat → Nat) (xt : Int32) (mi : Nat) (mo : Nat) (mw : Nat) (ni : Nat) (no : Nat) (ns : Nat) (nb : Nat) (wd : Nat) (tp : Int64) (bl : Int64) (wt : Int64) (wb : Int64) (bd : Nat → Int64) (wy : Nat → Int64) (sg : Int32) (hnb : nb ≤ 17) (hwd : wd ≤ 5) : CI l yX4_isAllowed wsX4_isAllowed { frames := 0, cells := 0, slots := 0, locals := 0 } g [.ref (md 0), .int (sg)] [(md 0, .inr (4, [.int (xt), .int (nI mi), .int (nI mo), .int (nI mw), .ref (md 1), .ref (md 2), .ref (md 3), .int (nI ni), .int (nI no), .ref (md 4), .ref (md 5), .ref (md 6), .int (nI ns), .ref (md 7), .ref (md 8), .int (nI nb), .int (nI wd), .ref (md 9), .long (tp), .long (bl), .long (wt), .long (wb)])), (md 7, aJ g 85 bd), (md 8, aJ g 5 wy)] (fun zr (zu : Unit) => zr = bI (alB bd wy wd sg 0 nb)) (fun (zu : Unit) => [(md 0, .inr (4, [.int (xt), .int (nI mi), .int (nI mo), .int (nI mw), .ref (md 1), .ref (md 2), .ref (md 3), .int (nI ni), .int (nI no), .ref (md 4), .ref (md 5), .ref (md 6), .int (nI ns), .ref (md 7), .ref (md 8), .int (nI nb), .int (nI wd), .ref (md 9), .long (tp), .long (bl), .long (wt), .long (wb)])), (md 7, aJ g 85 bd), (md 8, aJ g 5 wy)]) 0 0 := by
  refine ent_z (cc := cX4_isAllowed) (maxL := 6) (by decide) rfl (Nat.le_of_ble_eq_true rfl) ?_
  intro p e s m below meth c A args Q hE ret ls hl
  obtain ⟨hx, hb, hml, hown, hts, hnm, hA, hP, hD, hK, hN⟩ := hE
  have hS : va_S A s.heap s.heap [] := va_S.rf
  have hl : lv_has ls 6 [(0, .ref (md 0)), (1, .int (sg))] := hl
  have hP : va_P g.1 vwCl [(md 0, .inr (4, [.int (xt), .int (nI mi), .int (nI mo), .int (nI mw), .ref (md 1), .ref (md 2), .ref (md 3), .int (nI ni), .int (nI no), .ref (md 4), .ref (md 5), .ref (md 6), .int (nI ns), .ref (md 7), .ref (md 8), .int (nI nb), .int (nI wd), .ref (md 9), .long (tp), .long (bl), .long (wt), .long (wb)])), (md 7, aJ g 85 bd), (md 8, aJ g 5 wy)] s.heap := hP
  refine lv_iconst (v := nI 0) hx hb dX4_isAllowed_0 (by decide) ?_
  refine lv_istore_n (lv' := [(2, .int (nI 0)), (0, .ref (md 0)), (1, .int (sg))]) hx hb dX4_isAllowed_1 rfl hl (by decide) rfl (fun ls hl => ?_)
  have lp_2 : ∀ (n : Nat) (b : Nat), nb - b < n → b ≤ nb → alB bd wy wd sg 0 nb = alB bd wy wd sg b (nb - b) → ∀ (H : Heap) (locs : List Loc), va_P g.1 vwCl [(md 0, .inr (4, [.int (xt), .int (nI mi), .int (nI mo), .int (nI mw), .ref (md 1), .ref (md 2), .ref (md 3), .int (nI ni), .int (nI no), .ref (md 4), .ref (md 5), .ref (md 6), .int (nI ns), .ref (md 7), .ref (md 8), .int (nI nb), .int (nI wd), .ref (md 9), .long (tp), .long (bl), .long (wt), .long (wb)])), (md 7, aJ g 85 bd), (md 8, aJ g 5 wy)] H → va_D A [(md 0, .inr (4, [.int (xt), .int (nI mi), .int (nI mo), .int (nI mw), .ref (md 1), .ref (md 2), .ref (md 3), .int (nI ni), .int (nI no), .ref (md 4), .ref (md 5), .ref (md 6), .int (nI ns), .ref (md 7), .ref (md 8), .int (nI nb), .int (nI wd), .ref (md 9), .long (tp), .long (bl), .long (wt), .long (wb)])), (md 7, aJ g 85 bd), (md 8, aJ g 5 wy)] → va_S A s.heap H locs → ∀ ls : Array Slot, lv_has ls 6 [(0, .ref (md 0)), (1, .int (sg)), (2, .int (nI b))] → W p l e { frames := 0, cells := 0, slots := 0, locals := 0 } s m args below meth c H locs 0 0 Q (F0 m 2 ls []) := by
    intro n
    induction n with
    | zero =>
      intro b hms
      omega
    | succ n ih_2 =>
      intro b hms_2 hb3 hv H locs hP hD hS ls hl
      refine lv_iload_n hx hb dX4_isAllowed_2 rfl (lv_at hl 2 rfl) ?_
      refine lv_aload_n hx hb dX4_isAllowed_3 rfl (lv_at hl 0 rfl) ?_
      refine k_get hx hb hts hown hK hP iw_X4_isAllowed_X4 rfl 0 15 fm_X4_isAllowed_73 (by decide) rfl rfl dX4_isAllowed_4 ?_
      refine lv_icmp_ge (tgt := 69) hx hb dX4_isAllowed_7 (by decide) (fun c_1 => ?_) (fun c_1 => ?_)
      · skip
        have c_1 := (nI_leI (by omega) (by omega)).mp c_1
        refine lv_iconst (v := nI 1) hx hb dX4_isAllowed_69 (by decide) ?_
        exact ret dX4_isAllowed_70 () (by rw [hv, show nb - b = 0 by omega]; rfl) (by decide) hP hD hS
      · skip
        have c_1 := mt (nI_leI (by omega) (by omega)).mpr c_1
        refine lv_lconst (v := 0) hx hb dX4_isAllowed_10 (by decide) ?_
        refine lv_lstore_n (lv' := [(3, .long (0)), (0, .ref (md 0)), (1, .int (sg)), (2, .int (nI b))]) hx hb dX4_isAllowed_11 rfl hl (by decide) rfl (fun ls hl => ?_)
        refine lv_iconst (v := nI 0) hx hb dX4_isAllowed_12 (by decide) ?_
        refine lv_istore (lv' := [(5, .int (nI 0)), (3, .long (0)), (0, .ref (md 0)), (1, .int (sg)), (2, .int (nI b))]) hx hb dX4_isAllowed_13 hl (by decide) rfl (fun ls hl => ?_)
        have lp_15 : ∀ (n : Nat) (k : Nat), wd - k < n → k ≤ wd → ∀ (H : Heap) (locs : List Loc), va_P g.1 vwCl [(md 0, .inr (4, [.int (xt), .int (nI mi), .int (nI mo), .int (nI mw), .ref (md 1), .ref (md 2), .ref (md 3), .int (nI ni), .int (nI no), .ref (md 4), .ref (md 5), .ref (md 6), .int (nI ns), .ref (md 7), .ref (md 8), .int (nI nb), .int (nI wd), .ref (md 9), .long (tp), .long (bl), .long (wt), .long (wb)])), (md 7, aJ g 85 bd), (md 8, aJ g 5 wy)] H → va_D A [(md 0, .inr (4, [.int (xt), .int (nI mi), .int (nI mo), .int (nI mw), .ref (md 1), .ref (md 2), .ref (md 3), .int (nI ni), .int (nI no), .ref (md 4), .ref (md 5), .ref (md 6), .int (nI ns), .ref (md 7), .ref (md 8), .int (nI nb), .int (nI wd), .ref (md 9), .long (tp), .long (bl), .long (wt), .long (wb)])), (md 7, aJ g 85 bd), (md 8, aJ g 5 wy)] → va_S A s.heap H locs → ∀ ls : Array Slot, lv_has ls 6 [(0, .ref (md 0)), (1, .int (sg)), (2, .int (nI b)), (3, .long (alS bd wy b k)), (5, .int (nI k))] → W p l e { frames := 0, cells := 0, slots := 0, locals := 0 } s m args below meth c H locs 0 0 Q (F0 m 15 ls []) := by
          intro n
          induction n with
          | zero =>
            intro k hms
            omega
          | succ n ih_15 =>
            intro k hms_15 hk H locs hP hD hS ls hl
            refine lv_iload hx hb dX4_isAllowed_15 (lv_at hl 4 rfl) ?_
            refine lv_aload_n hx hb dX4_isAllowed_17 rfl (lv_at hl 0 rfl) ?_
            refine k_get hx hb hts hown hK hP iw_X4_isAllowed_X4 rfl 0 16 fm_X4_isAllowed_70 (by decide) rfl rfl dX4_isAllowed_18 ?_
            refine lv_icmp_ge (tgt := 52) hx hb dX4_isAllowed_21 (by decide) (fun c_2 => ?_) (fun c_2 => ?_)
            · skip
              have c_2 := (nI_leI (by omega) (by omega)).mp c_2
              have hkw : k = wd := by omega
              rw [hkw] at hl
              refine lv_iload_n hx hb dX4_isAllowed_52 rfl (lv_at hl 1 rfl) ?_
              refine lv_i2l hx hb dX4_isAllowed_53 rfl ?_
              refine lv_lload_n hx hb dX4_isAllowed_54 rfl (lv_at hl 3 rfl) ?_
              refine lv_lmul hx hb dX4_isAllowed_55 ?_
              refine lv_lconst (v := 0) hx hb dX4_isAllowed_56 (by decide) ?_
              refine W.lcmp hx hb dX4_isAllowed_57 ?_
              refine lv_if_ge (tgt := 63) hx hb dX4_isAllowed_58 (by decide) (fun c_3 => ?_) (fun c_3 => ?_)
              · skip
                have c_3 := (lc_ge _ _).mp c_3
                have hv2 : alB bd wy wd sg 0 nb = alB bd wy wd sg (b + 1) (nb - (b + 1)) := by rw [hv, show nb - b = (nb - (b + 1)) + 1 by omega, alB, if_pos c_3]
                refine lv_iinc (v := nI (b + 1)) (lv' := [(2, .int (nI (b + 1))), (0, .ref (md 0)), (1, .int (sg)), (3, .long (alS bd wy b wd)), (5, .int (nI wd))]) hx hb dX4_isAllowed_63 hl (k := 2) rfl (nI_inc1 b) (by decide) rfl (fun ls hl => ?_)
                refine lv_goto (tgt := 2) hx hb dX4_isAllowed_66 (by decide) ?_
                exact ih_2 (b + 1) (by omega) (by omega) hv2 _ _ hP hD hS ls (lv_sub hl [1, 2, 0] rfl)
              · skip
                have c_3 := mt (lc_ge _ _).mpr c_3
                have hres : alB bd wy wd sg 0 nb = false := by rw [hv, show nb - b = (nb - (b + 1)) + 1 by omega, alB, if_neg c_3]
                refine lv_iconst (v := nI 0) hx hb dX4_isAllowed_61 (by decide) ?_
                exact ret dX4_isAllowed_62 () (by rw [hres]; rfl) (by decide) hP hD hS
            · skip
              have c_2 := mt (nI_leI (by omega) (by omega)).mpr c_2
              refine lv_lload_n hx hb dX4_isAllowed_24 rfl (lv_at hl 3 rfl) ?_
              refine lv_aload_n hx hb dX4_isAllowed_25 rfl (lv_at hl 0 rfl) ?_
              refine k_get hx hb hts hown hK hP iw_X4_isAllowed_X4 rfl 0 13 fm_X4_isAllowed_37 (by decide) rfl rfl dX4_isAllowed_26 ?_
              refine lv_iconst (v := nI 5) hx hb dX4_isAllowed_29 (by decide) ?_
              refine lv_iload_n hx hb dX4_isAllowed_30 rfl (lv_at hl 2 rfl) ?_
              refine lv_imul hx hb dX4_isAllowed_31 ?_
              refine k_ei (y := nI (b * 5)) ((pk_mul _ _).trans (congrArg nI (Nat.mul_comm _ _))) ?_
              refine lv_iload hx hb dX4_isAllowed_32 (lv_at hl 4 rfl) ?_
              refine lv_iadd hx hb dX4_isAllowed_34 ?_
              refine k_ei (y := nI (b * 5 + k)) (nI_add _ _) ?_
              refine k_lald hx hb hK hP 1 rfl (by omega) (by omega) dX4_isAllowed_35 ?_
              refine lv_aload_n hx hb dX4_isAllowed_36 rfl (lv_at hl 0 rfl) ?_
              refine k_get hx hb hts hown hK hP iw_X4_isAllowed_X4 rfl 0 14 fm_X4_isAllowed_40 (by decide) rfl rfl dX4_isAllowed_37 ?_
              refine lv_iload hx hb dX4_isAllowed_40 (lv_at hl 4 rfl) ?_
              refine k_lald hx hb hK hP 2 rfl (by omega) (by omega) dX4_isAllowed_42 ?_
              refine lv_lmul hx hb dX4_isAllowed_43 ?_
              refine lv_ladd hx hb dX4_isAllowed_44 ?_
              refine lv_lstore_n (lv' := [(3, .long ((alS bd wy b k) + ((bd (b * 5 + k)) * (wy k)))), (0, .ref (md 0)), (1, .int (sg)), (2, .int (nI b)), (5, .int (nI k))]) hx hb dX4_isAllowed_45 rfl hl (by decide) rfl (fun ls hl => ?_)
              refine lv_iinc (v := nI (k + 1)) (lv' := [(5, .int (nI (k + 1))), (3, .long ((alS bd wy b k) + ((bd (b * 5 + k)) * (wy k)))), (0, .ref (md 0)), (1, .int (sg)), (2, .int (nI b))]) hx hb dX4_isAllowed_46 hl (k := 4) rfl (nI_inc1 k) (by decide) rfl (fun ls hl => ?_)
              refine lv_goto (tgt := 15) hx hb dX4_isAllowed_49 (by decide) ?_
              exact ih_15 (k + 1) (by omega) (by omega) _ _ hP hD hS ls (lv_sub hl [2, 3, 4, 1, 0] rfl)
        exact lp_15 (wd - 0 + 1) 0 (by omega) (by omega) _ _ hP hD hS ls (lv_sub hl [2, 3, 4, 1, 0] rfl)
  exact lp_2 (nb - 0 + 1) 0 (by omega) (by omega) rfl _ _ hP hD hS ls (lv_sub hl [1, 2, 0] rfl)
theorem iw_X4_put_X4 : ∀ w ∈ wsX40, w ∈ wsX4_put := fun w h => List.mem_cons_of_mem _ (List.mem_append_right _ h)
theorem fm_X4_put_64 : Cond.fieldLink RX4 64 "EdgeBenchModel" "nIn" "I" ∈ wsX4_put := List.mem_of_getElem? (i := 1) rfl
theorem fm_X4_put_67 : Cond.fieldLink RX4 67 "EdgeBenchModel" "nOut" "I" ∈ wsX4_put := List.mem_of_getElem? (i := 2) rfl
theorem fm_X4_put_81 : Cond.fieldLink RX4 81 "EdgeBenchModel" "sides" "I" ∈ wsX4_put := List.mem_of_getElem? (i := 3) rfl
theorem fm_X4_put_33 : Cond.fieldLink RX4 33 "EdgeBenchModel" "side" "[J" ∈ wsX4_put := List.mem_of_getElem? (i := 4) rfl
theorem hdn_X4_told : yX4_told.cls ≠ "java/lang/invoke/MethodHandle" ∧ yX4_told.cls ≠ "java/lang/invoke/VarHandle" ∧ (parseMethodDescriptor yX4_told.desc).map (fun d => d.parameters.length) = some 3 := by decide +kernel
theorem cw_X4_put_111_0_0 {R : Room} {s : State} {args : Array Value} (hts : ∀ w ∈ wsX4_put, w.before args s = true) (hN : nsW s) (hR : 0 + 1 ≤ R.frames ∧ 8 + (4 + 11) + 0 ≤ R.locals) : CallW R s args RX4 RX4 111 yX4_told cX4_told 4 (some .long) wsX4_told { frames := 0, cells := 0, slots := 0, locals := 0 } 0 0 3 := cwV 3 hts gX4_put_X4_told rfl rfl rfl ⟨rfl, hdn_X4_told⟩ hR
set_option maxHeartbeats 20000000 in
set_option maxRecDepth 100000 in
theorem c_X4_put (l : Launch) (g : Gt) (md : Nat → Nat) (xt : Int32) (mi : Nat) (mo : Nat) (mw : Nat) (ni : Nat) (no : Nat) (ns : Nat) (nb : Nat) (wd : Nat) (tp : Int64) (bl : Int64) (wt : Int64) (wb : Int64) (sd : Nat → Int64) (wy : Nat → Int64) (sg : Int32) (hns : ns < 2600) (hni : ni ≤ 2) (hno : no ≤ 2) (hwd : wd ≤ 5) : CV l yX4_put wsX4_put { frames := 1, cells := 0, slots := 0, locals := 23 } g [.ref (md 0), .int (sg)] [(md 0, .inr (4, [.int (xt), .int (nI mi), .int (nI mo), .int (nI mw), .ref (md 1), .ref (md 2), .ref (md 3), .int (nI ni), .int (nI no), .ref (md 4), .ref (md 5), .ref (md 6), .int (nI ns), .ref (md 7), .ref (md 8), .int (nI nb), .int (nI wd), .ref (md 9), .long (tp), .long (bl), .long (wt), .long (wb)])), (md 6, aJ g 13000 sd), (md 8, aJ g 5 wy)] (fun (zu : Unit) => True) (fun (zu : Unit) => [(md 0, .inr (4, [.int (xt), .int (nI mi), .int (nI mo), .int (nI mw), .ref (md 1), .ref (md 2), .ref (md 3), .int (nI ni), .int (nI no), .ref (md 4), .ref (md 5), .ref (md 6), .int (nI ((putF (fun k => tdV wy wd k (ni + no) sg) (sd, ns)).2)), .ref (md 7), .ref (md 8), .int (nI nb), .int (nI wd), .ref (md 9), .long (tp), .long (bl), .long (wt), .long (wb)])), (md 6, aJ g 13000 ((putF (fun k => tdV wy wd k (ni + no) sg) (sd, ns)).1)), (md 8, aJ g 5 wy)]) 0 0 := by
  refine ent_v (cc := cX4_put) (maxL := 5) (by decide) rfl (Nat.le_of_ble_eq_true rfl) ?_
  intro p e s m below meth c A args Q hE ret ls hl
  obtain ⟨hx, hb, hml, hown, hts, hnm, hA, hP, hD, hK, hN⟩ := hE
  have hS : va_S A s.heap s.heap [] := va_S.rf
  have hl : lv_has ls 5 [(0, .ref (md 0)), (1, .int (sg))] := hl
  have hP : va_P g.1 vwCl [(md 0, .inr (4, [.int (xt), .int (nI mi), .int (nI mo), .int (nI mw), .ref (md 1), .ref (md 2), .ref (md 3), .int (nI ni), .int (nI no), .ref (md 4), .ref (md 5), .ref (md 6), .int (nI ns), .ref (md 7), .ref (md 8), .int (nI nb), .int (nI wd), .ref (md 9), .long (tp), .long (bl), .long (wt), .long (wb)])), (md 6, aJ g 13000 sd), (md 8, aJ g 5 wy)] s.heap := hP
  obtain ⟨T, hT⟩ : ∃ T : Nat → Int64, T = (fun k => tdV wy wd k (ni + no) sg) := ⟨_, rfl⟩
  refine lv_aload_n hx hb dX4_put_0 rfl (lv_at hl 0 rfl) ?_
  refine k_get hx hb hts hown hK hP iw_X4_put_X4 rfl 0 7 fm_X4_put_64 (by decide) rfl rfl dX4_put_1 ?_
  refine lv_aload_n hx hb dX4_put_4 rfl (lv_at hl 0 rfl) ?_
  refine k_get hx hb hts hown hK hP iw_X4_put_X4 rfl 0 8 fm_X4_put_67 (by decide) rfl rfl dX4_put_5 ?_
  refine lv_iadd hx hb dX4_put_8 ?_
  refine k_ei (y := nI (ni + no)) (nI_add _ _) ?_
  refine lv_istore_n (lv' := [(2, .int (nI (ni + no))), (0, .ref (md 0)), (1, .int (sg))]) hx hb dX4_put_9 rfl hl (by decide) rfl (fun ls hl => ?_)
  have lp_97 : ∀ (a : Nat), a ≤ ns → ptP sd T 0 ns = some a → ∀ (H : Heap) (locs : List Loc), va_P g.1 vwCl [(md 0, .inr (4, [.int (xt), .int (nI mi), .int (nI mo), .int (nI mw), .ref (md 1), .ref (md 2), .ref (md 3), .int (nI ni), .int (nI no), .ref (md 4), .ref (md 5), .ref (md 6), .int (nI ns), .ref (md 7), .ref (md 8), .int (nI nb), .int (nI wd), .ref (md 9), .long (tp), .long (bl), .long (wt), .long (wb)])), (md 6, aJ g 13000 sd), (md 8, aJ g 5 wy)] H → va_D A [(md 0, .inr (4, [.int (xt), .int (nI mi), .int (nI mo), .int (nI mw), .ref (md 1), .ref (md 2), .ref (md 3), .int (nI ni), .int (nI no), .ref (md 4), .ref (md 5), .ref (md 6), .int (nI ns), .ref (md 7), .ref (md 8), .int (nI nb), .int (nI wd), .ref (md 9), .long (tp), .long (bl), .long (wt), .long (wb)])), (md 6, aJ g 13000 sd), (md 8, aJ g 5 wy)] → va_S A s.heap H locs → ∀ ls : Array Slot, lv_has ls 5 [(0, .ref (md 0)), (1, .int (sg)), (2, .int (nI (ni + no))), (3, .int (nI a))] → W p l e { frames := 1, cells := 0, slots := 0, locals := 23 } s m args below meth c H locs 0 0 Q (F0 m 97 ls []) := by
    intro a ha hps H locs hP hD hS ls hl
    refine lv_iconst (v := nI 5) hx hb dX4_put_97 (by decide) ?_
    refine lv_aload_n hx hb dX4_put_98 rfl (lv_at hl 0 rfl) ?_
    refine k_get hx hb hts hown hK hP iw_X4_put_X4 rfl 0 12 fm_X4_put_81 (by decide) rfl rfl dX4_put_99 ?_
    refine lv_imul hx hb dX4_put_102 ?_
    refine k_ei (y := nI (ns * 5)) ((pk_mul _ _).trans (congrArg nI (Nat.mul_comm _ _))) ?_
    refine lv_iconst (v := nI 1) hx hb dX4_put_103 (by decide) ?_
    refine lv_isub hx hb dX4_put_104 ?_
    refine lv_istore (lv' := [(4, .int ((nI (ns * 5)) - (nI 1))), (0, .ref (md 0)), (1, .int (sg)), (2, .int (nI (ni + no))), (3, .int (nI a))]) hx hb dX4_put_105 hl (by decide) rfl (fun ls hl => ?_)
    have lp_107 : ∀ (n : Nat) (j : Nat) (f : Nat → Int64), j < n → a * 5 + j ≤ ns * 5 → shU (a * 5) (ns * 5 - a * 5) sd = shU (a * 5) j f → ∀ (H : Heap) (locs : List Loc), va_P g.1 vwCl [(md 0, .inr (4, [.int (xt), .int (nI mi), .int (nI mo), .int (nI mw), .ref (md 1), .ref (md 2), .ref (md 3), .int (nI ni), .int (nI no), .ref (md 4), .ref (md 5), .ref (md 6), .int (nI ns), .ref (md 7), .ref (md 8), .int (nI nb), .int (nI wd), .ref (md 9), .long (tp), .long (bl), .long (wt), .long (wb)])), (md 6, aJ g 13000 f), (md 8, aJ g 5 wy)] H → va_D A [(md 0, .inr (4, [.int (xt), .int (nI mi), .int (nI mo), .int (nI mw), .ref (md 1), .ref (md 2), .ref (md 3), .int (nI ni), .int (nI no), .ref (md 4), .ref (md 5), .ref (md 6), .int (nI ns), .ref (md 7), .ref (md 8), .int (nI nb), .int (nI wd), .ref (md 9), .long (tp), .long (bl), .long (wt), .long (wb)])), (md 6, aJ g 13000 f), (md 8, aJ g 5 wy)] → va_S A s.heap H locs → ∀ ls : Array Slot, lv_has ls 5 [(0, .ref (md 0)), (1, .int (sg)), (2, .int (nI (ni + no))), (3, .int (nI a)), (4, .int ((nI (a * 5 + j)) - (nI 1)))] → W p l e { frames := 1, cells := 0, slots := 0, locals := 23 } s m args below meth c H locs 0 0 Q (F0 m 107 ls []) := by
      intro n
      induction n with
      | zero =>
        intro j f hms
        omega
      | succ n ih_107 =>
        intro j f hms_107 hj hs H locs hP hD hS ls hl
        rcases j with _ | j
        · skip
          refine lv_iload hx hb dX4_put_107 (lv_at hl 4 rfl) ?_
          refine lv_iconst (v := nI 5) hx hb dX4_put_109 (by decide) ?_
          refine lv_iload_n hx hb dX4_put_110 rfl (lv_at hl 3 rfl) ?_
          refine lv_imul hx hb dX4_put_111 ?_
          refine k_ei (y := nI (a * 5)) ((pk_mul _ _).trans (congrArg nI (Nat.mul_comm _ _))) ?_
          refine lv_icmp_lt (tgt := 137) hx hb dX4_put_112 (by decide) (fun c_1 => ?_) (fun c_1 => ?_)
          · skip
            have hsf : shU (a * 5) (ns * 5 - a * 5) sd = f := hs
            refine lv_iconst (v := nI 0) hx hb dX4_put_137 (by decide) ?_
            refine lv_istore (lv' := [(4, .int (nI 0)), (0, .ref (md 0)), (1, .int (sg)), (2, .int (nI (ni + no))), (3, .int (nI a))]) hx hb dX4_put_138 hl (by decide) rfl (fun ls hl => ?_)
            have lp_140 : ∀ (n : Nat) (k : Nat) (h : Nat → Int64), 5 - k < n → k ≤ 5 → flS a T 0 5 f = flS a T k (5 - k) h → ∀ (H : Heap) (locs : List Loc), va_P g.1 vwCl [(md 0, .inr (4, [.int (xt), .int (nI mi), .int (nI mo), .int (nI mw), .ref (md 1), .ref (md 2), .ref (md 3), .int (nI ni), .int (nI no), .ref (md 4), .ref (md 5), .ref (md 6), .int (nI ns), .ref (md 7), .ref (md 8), .int (nI nb), .int (nI wd), .ref (md 9), .long (tp), .long (bl), .long (wt), .long (wb)])), (md 6, aJ g 13000 h), (md 8, aJ g 5 wy)] H → va_D A [(md 0, .inr (4, [.int (xt), .int (nI mi), .int (nI mo), .int (nI mw), .ref (md 1), .ref (md 2), .ref (md 3), .int (nI ni), .int (nI no), .ref (md 4), .ref (md 5), .ref (md 6), .int (nI ns), .ref (md 7), .ref (md 8), .int (nI nb), .int (nI wd), .ref (md 9), .long (tp), .long (bl), .long (wt), .long (wb)])), (md 6, aJ g 13000 h), (md 8, aJ g 5 wy)] → va_S A s.heap H locs → ∀ ls : Array Slot, lv_has ls 5 [(0, .ref (md 0)), (1, .int (sg)), (2, .int (nI (ni + no))), (3, .int (nI a)), (4, .int (nI k))] → W p l e { frames := 1, cells := 0, slots := 0, locals := 23 } s m args below meth c H locs 0 0 Q (F0 m 140 ls []) := by
              intro n
              induction n with
              | zero =>
                intro k h hms
                omega
              | succ n ih_140 =>
                intro k h hms_140 hk hfl H locs hP hD hS ls hl
                refine lv_iload hx hb dX4_put_140 (lv_at hl 4 rfl) ?_
                refine lv_iconst (v := nI 5) hx hb dX4_put_142 (by decide) ?_
                refine lv_icmp_ge (tgt := 171) hx hb dX4_put_143 (by decide) (fun c_2 => ?_) (fun c_2 => ?_)
                · skip
                  have c_2 := (nI_leI (by omega) (by omega)).mp c_2
                  have hfin : h = flS a T 0 5 (shU (a * 5) (ns * 5 - a * 5) sd) := by rw [hsf, hfl, show 5 - k = 0 by omega]; rfl
                  refine lv_aload_n hx hb dX4_put_171 rfl (lv_at hl 0 rfl) ?_
                  refine lv_dup hx hb dX4_put_172 rfl ?_
                  refine k_get hx hb hts hown hK hP iw_X4_put_X4 rfl 0 12 fm_X4_put_81 (by decide) rfl rfl dX4_put_173 ?_
                  refine lv_iconst (v := nI 1) hx hb dX4_put_176 (by decide) ?_
                  refine lv_iadd hx hb dX4_put_177 ?_
                  refine k_ei (y := nI (ns + 1)) (nI_add _ _) ?_
                  refine k_put hx hb hts hown hK hP hD hS iw_X4_put_X4 rfl tyX4 tyX4_ok nmX4 0 12 fm_X4_put_81 (by decide) rfl rfl rfl rfl rfl (Nat.le_of_ble_eq_true rfl) dX4_put_178 (fun H locs hP hD hS => ?_)
                  have hP : va_P g.1 vwCl [(md 0, .inr (4, [.int (xt), .int (nI mi), .int (nI mo), .int (nI mw), .ref (md 1), .ref (md 2), .ref (md 3), .int (nI ni), .int (nI no), .ref (md 4), .ref (md 5), .ref (md 6), .int (nI (ns + 1)), .ref (md 7), .ref (md 8), .int (nI nb), .int (nI wd), .ref (md 9), .long (tp), .long (bl), .long (wt), .long (wb)])), (md 6, aJ g 13000 h), (md 8, aJ g 5 wy)] H := hP
                  have hD : va_D A [(md 0, .inr (4, [.int (xt), .int (nI mi), .int (nI mo), .int (nI mw), .ref (md 1), .ref (md 2), .ref (md 3), .int (nI ni), .int (nI no), .ref (md 4), .ref (md 5), .ref (md 6), .int (nI (ns + 1)), .ref (md 7), .ref (md 8), .int (nI nb), .int (nI wd), .ref (md 9), .long (tp), .long (bl), .long (wt), .long (wb)])), (md 6, aJ g 13000 h), (md 8, aJ g 5 wy)] := hD
                  rw [hT] at hps hfin
                  have hP : va_P g.1 vwCl [(md 0, .inr (4, [.int (xt), .int (nI mi), .int (nI mo), .int (nI mw), .ref (md 1), .ref (md 2), .ref (md 3), .int (nI ni), .int (nI no), .ref (md 4), .ref (md 5), .ref (md 6), .int (nI ((putF (fun k => tdV wy wd k (ni + no) sg) (sd, ns)).2)), .ref (md 7), .ref (md 8), .int (nI nb), .int (nI wd), .ref (md 9), .long (tp), .long (bl), .long (wt), .long (wb)])), (md 6, aJ g 13000 ((putF (fun k => tdV wy wd k (ni + no) sg) (sd, ns)).1)), (md 8, aJ g 5 wy)] H := by rw [putF_some hps, ← hfin]; exact hP
                  have hD : va_D A [(md 0, .inr (4, [.int (xt), .int (nI mi), .int (nI mo), .int (nI mw), .ref (md 1), .ref (md 2), .ref (md 3), .int (nI ni), .int (nI no), .ref (md 4), .ref (md 5), .ref (md 6), .int (nI ((putF (fun k => tdV wy wd k (ni + no) sg) (sd, ns)).2)), .ref (md 7), .ref (md 8), .int (nI nb), .int (nI wd), .ref (md 9), .long (tp), .long (bl), .long (wt), .long (wb)])), (md 6, aJ g 13000 ((putF (fun k => tdV wy wd k (ni + no) sg) (sd, ns)).1)), (md 8, aJ g 5 wy)] := by rw [putF_some hps, ← hfin]; exact hD
                  exact ret dX4_put_181 () (trivial) hP hD hS
                · skip
                  have c_2 := mt (nI_leI (by omega) (by omega)).mpr c_2
                  refine lv_aload_n hx hb dX4_put_146 rfl (lv_at hl 0 rfl) ?_
                  refine k_get hx hb hts hown hK hP iw_X4_put_X4 rfl 0 11 fm_X4_put_33 (by decide) rfl rfl dX4_put_147 ?_
                  refine lv_iconst (v := nI 5) hx hb dX4_put_150 (by decide) ?_
                  refine lv_iload_n hx hb dX4_put_151 rfl (lv_at hl 3 rfl) ?_
                  refine lv_imul hx hb dX4_put_152 ?_
                  refine k_ei (y := nI (a * 5)) ((pk_mul _ _).trans (congrArg nI (Nat.mul_comm _ _))) ?_
                  refine lv_iload hx hb dX4_put_153 (lv_at hl 4 rfl) ?_
                  refine lv_iadd hx hb dX4_put_155 ?_
                  refine k_ei (y := nI (a * 5 + k)) (nI_add _ _) ?_
                  refine lv_aload_n hx hb dX4_put_156 rfl (lv_at hl 0 rfl) ?_
                  refine lv_iload hx hb dX4_put_157 (lv_at hl 4 rfl) ?_
                  refine lv_iload_n hx hb dX4_put_159 rfl (lv_at hl 2 rfl) ?_
                  refine lv_iload_n hx hb dX4_put_160 rfl (lv_at hl 1 rfl) ?_
                  refine go_l (wc := [(md 0, .inr (4, [.int (xt), .int (nI mi), .int (nI mo), .int (nI mw), .ref (md 1), .ref (md 2), .ref (md 3), .int (nI ni), .int (nI no), .ref (md 4), .ref (md 5), .ref (md 6), .int (nI ns), .ref (md 7), .ref (md 8), .int (nI nb), .int (nI wd), .ref (md 9), .long (tp), .long (bl), .long (wt), .long (wb)])), (md 8, aJ g 5 wy)]) (wr := [(md 6, aJ g 13000 h)]) hP hD hS hA [0, 2] [1] rfl rfl rfl rfl (by decide) (fun hPc hDc => rn_V (As := [.int (nI k), .int (nI (ni + no)), .int (sg)]) (rest := [.int (nI (a * 5 + k)), .ref (md 6)]) ⟨hx, hb, hml, hown, hts⟩ ((c_X4_told l g md xt mi mo mw ni no ns nb wd tp bl wt wb wy k (ni + no) sg (by omega) (by omega) (by omega)) _) (cw_X4_put_111_0_0 hts hN ⟨Nat.le_of_ble_eq_true rfl, Nat.le_of_ble_eq_true rfl⟩) hK hN hPc hDc 0 rfl rfl rfl rfl hl.1 (Nat.le_of_ble_eq_true rfl) dX4_put_161 ⟨Nat.le_of_ble_eq_true rfl, Nat.le_of_ble_eq_true rfl⟩) ?_
                  intro r_3 u_4 H locs h_5 hP hD hS
                  have hP : va_P g.1 vwCl [(md 0, .inr (4, [.int (xt), .int (nI mi), .int (nI mo), .int (nI mw), .ref (md 1), .ref (md 2), .ref (md 3), .int (nI ni), .int (nI no), .ref (md 4), .ref (md 5), .ref (md 6), .int (nI ns), .ref (md 7), .ref (md 8), .int (nI nb), .int (nI wd), .ref (md 9), .long (tp), .long (bl), .long (wt), .long (wb)])), (md 6, aJ g 13000 h), (md 8, aJ g 5 wy)] H := hP.sub [1, 0, 2] rfl
                  have hD : va_D A [(md 0, .inr (4, [.int (xt), .int (nI mi), .int (nI mo), .int (nI mw), .ref (md 1), .ref (md 2), .ref (md 3), .int (nI ni), .int (nI no), .ref (md 4), .ref (md 5), .ref (md 6), .int (nI ns), .ref (md 7), .ref (md 8), .int (nI nb), .int (nI wd), .ref (md 9), .long (tp), .long (bl), .long (wt), .long (wb)])), (md 6, aJ g 13000 h), (md 8, aJ g 5 wy)] := hD.sub [1, 0, 2] rfl rfl
                  have h_5 : r_3 = tdV wy wd k (ni + no) sg := h_5
                  subst h_5
                  refine k_el (y := T k) (by rw [hT]) ?_
                  refine k_last hx hb hK hP hD hS 1 rfl (by omega) (by omega) dX4_put_164 (fun H locs hP hD hS => ?_)
                  have hP : va_P g.1 vwCl [(md 0, .inr (4, [.int (xt), .int (nI mi), .int (nI mo), .int (nI mw), .ref (md 1), .ref (md 2), .ref (md 3), .int (nI ni), .int (nI no), .ref (md 4), .ref (md 5), .ref (md 6), .int (nI ns), .ref (md 7), .ref (md 8), .int (nI nb), .int (nI wd), .ref (md 9), .long (tp), .long (bl), .long (wt), .long (wb)])), (md 6, aJ g 13000 (vp_updL h (a * 5 + k) (T k))), (md 8, aJ g 5 wy)] H := hP
                  have hD : va_D A [(md 0, .inr (4, [.int (xt), .int (nI mi), .int (nI mo), .int (nI mw), .ref (md 1), .ref (md 2), .ref (md 3), .int (nI ni), .int (nI no), .ref (md 4), .ref (md 5), .ref (md 6), .int (nI ns), .ref (md 7), .ref (md 8), .int (nI nb), .int (nI wd), .ref (md 9), .long (tp), .long (bl), .long (wt), .long (wb)])), (md 6, aJ g 13000 (vp_updL h (a * 5 + k) (T k))), (md 8, aJ g 5 wy)] := hD
                  refine lv_iinc (v := nI (k + 1)) (lv' := [(4, .int (nI (k + 1))), (0, .ref (md 0)), (1, .int (sg)), (2, .int (nI (ni + no))), (3, .int (nI a))]) hx hb dX4_put_165 hl (k := 4) rfl (nI_inc1 k) (by decide) rfl (fun ls hl => ?_)
                  refine lv_goto (tgt := 140) hx hb dX4_put_168 (by decide) ?_
                  exact ih_140 (k + 1) (vp_updL h (a * 5 + k) (T k)) (by omega) (by omega) (by rw [hfl, show 5 - k = (5 - (k + 1)) + 1 by omega, flS]) _ _ hP hD hS ls (lv_sub hl [1, 2, 3, 4, 0] rfl)
            exact lp_140 (5 - 0 + 1) 0 f (by omega) (by omega) rfl _ _ hP hD hS ls (lv_sub hl [1, 2, 3, 4, 0] rfl)
          · skip
            exact absurd (show (nI (a * 5 + 0)) - (nI 1) < nI (a * 5) by rw [i32_lN (by omega), pk_sub_toInt (by omega) (by decide)]; omega) c_1
        · skip
          have hs2 : shU (a * 5) (ns * 5 - a * 5) sd = shU (a * 5) j (vp_updL f (a * 5 + j + 5) (f (a * 5 + j))) := hs
          rw [pk_sub (show 1 ≤ a * 5 + (j + 1) by omega), show a * 5 + (j + 1) - 1 = a * 5 + j by omega] at hl
          refine lv_iload hx hb dX4_put_107 (lv_at hl 4 rfl) ?_
          refine lv_iconst (v := nI 5) hx hb dX4_put_109 (by decide) ?_
          refine lv_iload_n hx hb dX4_put_110 rfl (lv_at hl 3 rfl) ?_
          refine lv_imul hx hb dX4_put_111 ?_
          refine k_ei (y := nI (a * 5)) ((pk_mul _ _).trans (congrArg nI (Nat.mul_comm _ _))) ?_
          refine lv_icmp_lt (tgt := 137) hx hb dX4_put_112 (by decide) (fun c_6 => ?_) (fun c_6 => ?_)
          · skip
            have c_6 := (nI_ltI (by omega) (by omega)).mp c_6
            omega
          · skip
            have c_6 := mt (nI_ltI (by omega) (by omega)).mpr c_6
            refine lv_aload_n hx hb dX4_put_115 rfl (lv_at hl 0 rfl) ?_
            refine k_get hx hb hts hown hK hP iw_X4_put_X4 rfl 0 11 fm_X4_put_33 (by decide) rfl rfl dX4_put_116 ?_
            refine lv_iload hx hb dX4_put_119 (lv_at hl 4 rfl) ?_
            refine lv_iconst (v := nI 5) hx hb dX4_put_121 (by decide) ?_
            refine lv_iadd hx hb dX4_put_122 ?_
            refine k_ei (y := nI (a * 5 + j + 5)) (nI_add _ _) ?_
            refine lv_aload_n hx hb dX4_put_123 rfl (lv_at hl 0 rfl) ?_
            refine k_get hx hb hts hown hK hP iw_X4_put_X4 rfl 0 11 fm_X4_put_33 (by decide) rfl rfl dX4_put_124 ?_
            refine lv_iload hx hb dX4_put_127 (lv_at hl 4 rfl) ?_
            refine k_lald hx hb hK hP 1 rfl (by omega) (by omega) dX4_put_129 ?_
            refine k_last hx hb hK hP hD hS 1 rfl (by omega) (by omega) dX4_put_130 (fun H locs hP hD hS => ?_)
            have hP : va_P g.1 vwCl [(md 0, .inr (4, [.int (xt), .int (nI mi), .int (nI mo), .int (nI mw), .ref (md 1), .ref (md 2), .ref (md 3), .int (nI ni), .int (nI no), .ref (md 4), .ref (md 5), .ref (md 6), .int (nI ns), .ref (md 7), .ref (md 8), .int (nI nb), .int (nI wd), .ref (md 9), .long (tp), .long (bl), .long (wt), .long (wb)])), (md 6, aJ g 13000 (vp_updL f (a * 5 + j + 5) (f (a * 5 + j)))), (md 8, aJ g 5 wy)] H := hP
            have hD : va_D A [(md 0, .inr (4, [.int (xt), .int (nI mi), .int (nI mo), .int (nI mw), .ref (md 1), .ref (md 2), .ref (md 3), .int (nI ni), .int (nI no), .ref (md 4), .ref (md 5), .ref (md 6), .int (nI ns), .ref (md 7), .ref (md 8), .int (nI nb), .int (nI wd), .ref (md 9), .long (tp), .long (bl), .long (wt), .long (wb)])), (md 6, aJ g 13000 (vp_updL f (a * 5 + j + 5) (f (a * 5 + j)))), (md 8, aJ g 5 wy)] := hD
            refine lv_iinc (v := (nI (a * 5 + j)) + -1) (lv' := [(4, .int ((nI (a * 5 + j)) + -1)), (0, .ref (md 0)), (1, .int (sg)), (2, .int (nI (ni + no))), (3, .int (nI a))]) hx hb dX4_put_131 hl (k := 4) rfl (rfl) (by decide) rfl (fun ls hl => ?_)
            refine lv_goto (tgt := 107) hx hb dX4_put_134 (by decide) ?_
            rw [show (nI (a * 5 + j)) + -1 = (nI (a * 5 + j)) - (nI 1) by rw [Int32.sub_eq_add_neg]; rfl] at hl
            exact ih_107 j (vp_updL f (a * 5 + j + 5) (f (a * 5 + j))) (by omega) (by omega) hs2 _ _ hP hD hS ls (lv_sub hl [1, 2, 3, 4, 0] rfl)
    rw [show ns * 5 = a * 5 + (ns * 5 - a * 5) by omega] at hl
    exact lp_107 ((ns * 5 - a * 5) + 1) (ns * 5 - a * 5) sd (by omega) (by omega) rfl _ _ hP hD hS ls (lv_sub hl [1, 2, 3, 4, 0] rfl)
  refine lv_iconst (v := nI 0) hx hb dX4_put_10 (by decide) ?_
  refine lv_istore_n (lv' := [(3, .int (nI 0)), (2, .int (nI (ni + no))), (0, .ref (md 0)), (1, .int (sg))]) hx hb dX4_put_11 rfl hl (by decide) rfl (fun ls hl => ?_)
  have lp_12 : ∀ (n : Nat) (a : Nat), ns - a < n → a ≤ ns → ptP sd T 0 ns = ptP sd T a (ns - a) → ∀ (H : Heap) (locs : List Loc), va_P g.1 vwCl [(md 0, .inr (4, [.int (xt), .int (nI mi), .int (nI mo), .int (nI mw), .ref (md 1), .ref (md 2), .ref (md 3), .int (nI ni), .int (nI no), .ref (md 4), .ref (md 5), .ref (md 6), .int (nI ns), .ref (md 7), .ref (md 8), .int (nI nb), .int (nI wd), .ref (md 9), .long (tp), .long (bl), .long (wt), .long (wb)])), (md 6, aJ g 13000 sd), (md 8, aJ g 5 wy)] H → va_D A [(md 0, .inr (4, [.int (xt), .int (nI mi), .int (nI mo), .int (nI mw), .ref (md 1), .ref (md 2), .ref (md 3), .int (nI ni), .int (nI no), .ref (md 4), .ref (md 5), .ref (md 6), .int (nI ns), .ref (md 7), .ref (md 8), .int (nI nb), .int (nI wd), .ref (md 9), .long (tp), .long (bl), .long (wt), .long (wb)])), (md 6, aJ g 13000 sd), (md 8, aJ g 5 wy)] → va_S A s.heap H locs → ∀ ls : Array Slot, lv_has ls 5 [(0, .ref (md 0)), (1, .int (sg)), (2, .int (nI (ni + no))), (3, .int (nI a))] → W p l e { frames := 1, cells := 0, slots := 0, locals := 23 } s m args below meth c H locs 0 0 Q (F0 m 12 ls []) := by
    intro n
    induction n with
    | zero =>
      intro a hms
      omega
    | succ n ih_12 =>
      intro a hms_12 ha hv H locs hP hD hS ls hl
      refine lv_iload_n hx hb dX4_put_12 rfl (lv_at hl 3 rfl) ?_
      refine lv_aload_n hx hb dX4_put_13 rfl (lv_at hl 0 rfl) ?_
      refine k_get hx hb hts hown hK hP iw_X4_put_X4 rfl 0 12 fm_X4_put_81 (by decide) rfl rfl dX4_put_14 ?_
      refine lv_icmp_ge (tgt := 97) hx hb dX4_put_17 (by decide) (fun c_7 => ?_) (fun c_7 => ?_)
      · skip
        have c_7 := (nI_leI (by omega) (by omega)).mp c_7
        have hps : ptP sd T 0 ns = some a := by rw [hv, show ns - a = 0 by omega]; rfl
        exact lp_97 a (by omega) hps _ _ hP hD hS ls (lv_sub hl [0, 1, 2, 3] rfl)
      · skip
        have c_7 := mt (nI_leI (by omega) (by omega)).mpr c_7
        refine lv_iconst (v := nI 0) hx hb dX4_put_20 (by decide) ?_
        refine lv_istore (lv' := [(4, .int (nI 0)), (0, .ref (md 0)), (1, .int (sg)), (2, .int (nI (ni + no))), (3, .int (nI a))]) hx hb dX4_put_21 hl (by decide) rfl (fun ls hl => ?_)
        have lp_23 : ∀ (n : Nat) (k : Nat), 5 - k < n → k ≤ 5 → dfK sd T a 0 5 = dfK sd T a k (5 - k) → ∀ (H : Heap) (locs : List Loc), va_P g.1 vwCl [(md 0, .inr (4, [.int (xt), .int (nI mi), .int (nI mo), .int (nI mw), .ref (md 1), .ref (md 2), .ref (md 3), .int (nI ni), .int (nI no), .ref (md 4), .ref (md 5), .ref (md 6), .int (nI ns), .ref (md 7), .ref (md 8), .int (nI nb), .int (nI wd), .ref (md 9), .long (tp), .long (bl), .long (wt), .long (wb)])), (md 6, aJ g 13000 sd), (md 8, aJ g 5 wy)] H → va_D A [(md 0, .inr (4, [.int (xt), .int (nI mi), .int (nI mo), .int (nI mw), .ref (md 1), .ref (md 2), .ref (md 3), .int (nI ni), .int (nI no), .ref (md 4), .ref (md 5), .ref (md 6), .int (nI ns), .ref (md 7), .ref (md 8), .int (nI nb), .int (nI wd), .ref (md 9), .long (tp), .long (bl), .long (wt), .long (wb)])), (md 6, aJ g 13000 sd), (md 8, aJ g 5 wy)] → va_S A s.heap H locs → ∀ ls : Array Slot, lv_has ls 5 [(0, .ref (md 0)), (1, .int (sg)), (2, .int (nI (ni + no))), (3, .int (nI a)), (4, .int (nI k))] → W p l e { frames := 1, cells := 0, slots := 0, locals := 23 } s m args below meth c H locs 0 0 Q (F0 m 23 ls []) := by
          intro n
          induction n with
          | zero =>
            intro k hms
            omega
          | succ n ih_23 =>
            intro k hms_23 hk hd H locs hP hD hS ls hl
            refine lv_iload hx hb dX4_put_23 (lv_at hl 4 rfl) ?_
            refine lv_iconst (v := nI 5) hx hb dX4_put_25 (by decide) ?_
            have lp_58 : ∀ (j : Nat), dfK sd T a 0 5 = j → ∀ (H : Heap) (locs : List Loc), va_P g.1 vwCl [(md 0, .inr (4, [.int (xt), .int (nI mi), .int (nI mo), .int (nI mw), .ref (md 1), .ref (md 2), .ref (md 3), .int (nI ni), .int (nI no), .ref (md 4), .ref (md 5), .ref (md 6), .int (nI ns), .ref (md 7), .ref (md 8), .int (nI nb), .int (nI wd), .ref (md 9), .long (tp), .long (bl), .long (wt), .long (wb)])), (md 6, aJ g 13000 sd), (md 8, aJ g 5 wy)] H → va_D A [(md 0, .inr (4, [.int (xt), .int (nI mi), .int (nI mo), .int (nI mw), .ref (md 1), .ref (md 2), .ref (md 3), .int (nI ni), .int (nI no), .ref (md 4), .ref (md 5), .ref (md 6), .int (nI ns), .ref (md 7), .ref (md 8), .int (nI nb), .int (nI wd), .ref (md 9), .long (tp), .long (bl), .long (wt), .long (wb)])), (md 6, aJ g 13000 sd), (md 8, aJ g 5 wy)] → va_S A s.heap H locs → ∀ ls : Array Slot, lv_has ls 5 [(0, .ref (md 0)), (1, .int (sg)), (2, .int (nI (ni + no))), (3, .int (nI a)), (4, .int (nI j))] → W p l e { frames := 1, cells := 0, slots := 0, locals := 23 } s m args below meth c H locs 0 0 Q (F0 m 58 ls []) := by
              intro j hj H locs hP hD hS ls hl
              have hj5 : j ≤ 5 := by have := (dfK_le sd T a 5 0).2; omega
              refine lv_iload hx hb dX4_put_58 (lv_at hl 4 rfl) ?_
              refine lv_iconst (v := nI 5) hx hb dX4_put_60 (by decide) ?_
              refine lv_icmp_ne (tgt := 65) hx hb dX4_put_61 (by decide) (fun c_8 => ?_) (fun c_8 => ?_)
              · skip
                have c_8 := mt (nI_eq (by omega) (by omega)).mpr c_8
                have hj6 := c_8
                refine lv_aload_n hx hb dX4_put_65 rfl (lv_at hl 0 rfl) ?_
                refine k_get hx hb hts hown hK hP iw_X4_put_X4 rfl 0 11 fm_X4_put_33 (by decide) rfl rfl dX4_put_66 ?_
                refine lv_iconst (v := nI 5) hx hb dX4_put_69 (by decide) ?_
                refine lv_iload_n hx hb dX4_put_70 rfl (lv_at hl 3 rfl) ?_
                refine lv_imul hx hb dX4_put_71 ?_
                refine k_ei (y := nI (a * 5)) ((pk_mul _ _).trans (congrArg nI (Nat.mul_comm _ _))) ?_
                refine lv_iload hx hb dX4_put_72 (lv_at hl 4 rfl) ?_
                refine lv_iadd hx hb dX4_put_74 ?_
                refine k_ei (y := nI (a * 5 + j)) (nI_add _ _) ?_
                refine k_lald hx hb hK hP 1 rfl (by omega) (by omega) dX4_put_75 ?_
                refine lv_aload_n hx hb dX4_put_76 rfl (lv_at hl 0 rfl) ?_
                refine lv_iload hx hb dX4_put_77 (lv_at hl 4 rfl) ?_
                refine lv_iload_n hx hb dX4_put_79 rfl (lv_at hl 2 rfl) ?_
                refine lv_iload_n hx hb dX4_put_80 rfl (lv_at hl 1 rfl) ?_
                refine go_l (wc := [(md 0, .inr (4, [.int (xt), .int (nI mi), .int (nI mo), .int (nI mw), .ref (md 1), .ref (md 2), .ref (md 3), .int (nI ni), .int (nI no), .ref (md 4), .ref (md 5), .ref (md 6), .int (nI ns), .ref (md 7), .ref (md 8), .int (nI nb), .int (nI wd), .ref (md 9), .long (tp), .long (bl), .long (wt), .long (wb)])), (md 8, aJ g 5 wy)]) (wr := [(md 6, aJ g 13000 sd)]) hP hD hS hA [0, 2] [1] rfl rfl rfl rfl (by decide) (fun hPc hDc => rn_V (As := [.int (nI j), .int (nI (ni + no)), .int (sg)]) (rest := [.long (sd (a * 5 + j))]) ⟨hx, hb, hml, hown, hts⟩ ((c_X4_told l g md xt mi mo mw ni no ns nb wd tp bl wt wb wy j (ni + no) sg (by omega) (by omega) (by omega)) _) (cw_X4_put_111_0_0 hts hN ⟨Nat.le_of_ble_eq_true rfl, Nat.le_of_ble_eq_true rfl⟩) hK hN hPc hDc 0 rfl rfl rfl rfl hl.1 (Nat.le_of_ble_eq_true rfl) dX4_put_81 ⟨Nat.le_of_ble_eq_true rfl, Nat.le_of_ble_eq_true rfl⟩) ?_
                intro r_9 u_10 H locs h_11 hP hD hS
                have hP : va_P g.1 vwCl [(md 0, .inr (4, [.int (xt), .int (nI mi), .int (nI mo), .int (nI mw), .ref (md 1), .ref (md 2), .ref (md 3), .int (nI ni), .int (nI no), .ref (md 4), .ref (md 5), .ref (md 6), .int (nI ns), .ref (md 7), .ref (md 8), .int (nI nb), .int (nI wd), .ref (md 9), .long (tp), .long (bl), .long (wt), .long (wb)])), (md 6, aJ g 13000 sd), (md 8, aJ g 5 wy)] H := hP.sub [1, 0, 2] rfl
                have hD : va_D A [(md 0, .inr (4, [.int (xt), .int (nI mi), .int (nI mo), .int (nI mw), .ref (md 1), .ref (md 2), .ref (md 3), .int (nI ni), .int (nI no), .ref (md 4), .ref (md 5), .ref (md 6), .int (nI ns), .ref (md 7), .ref (md 8), .int (nI nb), .int (nI wd), .ref (md 9), .long (tp), .long (bl), .long (wt), .long (wb)])), (md 6, aJ g 13000 sd), (md 8, aJ g 5 wy)] := hD.sub [1, 0, 2] rfl rfl
                have h_11 : r_9 = tdV wy wd j (ni + no) sg := h_11
                subst h_11
                refine k_el (y := T j) (by rw [hT]) ?_
                refine W.lcmp hx hb dX4_put_84 ?_
                refine lv_if_ge (tgt := 91) hx hb dX4_put_85 (by decide) (fun c_12 => ?_) (fun c_12 => ?_)
                · skip
                  have c_12 := (lc_ge _ _).mp c_12
                  have hv2 : ptP sd T 0 ns = ptP sd T (a + 1) (ns - (a + 1)) := by rw [hv, show ns - a = (ns - (a + 1)) + 1 by omega, ptP, hj, if_neg hj6, if_neg (by rw [i64_lt]; rw [i64_le] at c_12; omega)]
                  refine lv_iinc (v := nI (a + 1)) (lv' := [(3, .int (nI (a + 1))), (0, .ref (md 0)), (1, .int (sg)), (2, .int (nI (ni + no))), (4, .int (nI j))]) hx hb dX4_put_91 hl (k := 3) rfl (nI_inc1 a) (by decide) rfl (fun ls hl => ?_)
                  refine lv_goto (tgt := 12) hx hb dX4_put_94 (by decide) ?_
                  exact ih_12 (a + 1) (by omega) (by omega) hv2 _ _ hP hD hS ls (lv_sub hl [1, 2, 3, 0] rfl)
                · skip
                  have c_12 := mt (lc_ge _ _).mpr c_12
                  have hps : ptP sd T 0 ns = some a := by rw [hv, show ns - a = (ns - (a + 1)) + 1 by omega, ptP, hj, if_neg hj6, if_pos (by rw [i64_lt]; rw [i64_le] at c_12; omega)]
                  refine lv_goto (tgt := 97) hx hb dX4_put_88 (by decide) ?_
                  exact lp_97 a (by omega) hps _ _ hP hD hS ls (lv_sub hl [0, 1, 2, 3] rfl)
              · skip
                have c_8 := (nI_eq (by omega) (by omega)).mp c_8
                have hpn : ptP sd T 0 ns = none := by rw [hv, show ns - a = (ns - (a + 1)) + 1 by omega, ptP, hj, if_pos c_8]
                rw [hT] at hpn
                have hP : va_P g.1 vwCl [(md 0, .inr (4, [.int (xt), .int (nI mi), .int (nI mo), .int (nI mw), .ref (md 1), .ref (md 2), .ref (md 3), .int (nI ni), .int (nI no), .ref (md 4), .ref (md 5), .ref (md 6), .int (nI ((putF (fun k => tdV wy wd k (ni + no) sg) (sd, ns)).2)), .ref (md 7), .ref (md 8), .int (nI nb), .int (nI wd), .ref (md 9), .long (tp), .long (bl), .long (wt), .long (wb)])), (md 6, aJ g 13000 ((putF (fun k => tdV wy wd k (ni + no) sg) (sd, ns)).1)), (md 8, aJ g 5 wy)] H := by rw [putF_none hpn]; exact hP
                have hD : va_D A [(md 0, .inr (4, [.int (xt), .int (nI mi), .int (nI mo), .int (nI mw), .ref (md 1), .ref (md 2), .ref (md 3), .int (nI ni), .int (nI no), .ref (md 4), .ref (md 5), .ref (md 6), .int (nI ((putF (fun k => tdV wy wd k (ni + no) sg) (sd, ns)).2)), .ref (md 7), .ref (md 8), .int (nI nb), .int (nI wd), .ref (md 9), .long (tp), .long (bl), .long (wt), .long (wb)])), (md 6, aJ g 13000 ((putF (fun k => tdV wy wd k (ni + no) sg) (sd, ns)).1)), (md 8, aJ g 5 wy)] := by rw [putF_none hpn]; exact hD
                exact ret dX4_put_64 () (trivial) hP hD hS
            refine lv_icmp_ge (tgt := 58) hx hb dX4_put_26 (by decide) (fun c_13 => ?_) (fun c_13 => ?_)
            · skip
              have c_13 := (nI_leI (by omega) (by omega)).mp c_13
              have hdk : dfK sd T a 0 5 = k := by rw [hd, show 5 - k = 0 by omega]; rfl
              exact lp_58 k hdk _ _ hP hD hS ls (lv_sub hl [0, 1, 2, 3, 4] rfl)
            · skip
              have c_13 := mt (nI_leI (by omega) (by omega)).mpr c_13
              refine lv_aload_n hx hb dX4_put_29 rfl (lv_at hl 0 rfl) ?_
              refine k_get hx hb hts hown hK hP iw_X4_put_X4 rfl 0 11 fm_X4_put_33 (by decide) rfl rfl dX4_put_30 ?_
              refine lv_iconst (v := nI 5) hx hb dX4_put_33 (by decide) ?_
              refine lv_iload_n hx hb dX4_put_34 rfl (lv_at hl 3 rfl) ?_
              refine lv_imul hx hb dX4_put_35 ?_
              refine k_ei (y := nI (a * 5)) ((pk_mul _ _).trans (congrArg nI (Nat.mul_comm _ _))) ?_
              refine lv_iload hx hb dX4_put_36 (lv_at hl 4 rfl) ?_
              refine lv_iadd hx hb dX4_put_38 ?_
              refine k_ei (y := nI (a * 5 + k)) (nI_add _ _) ?_
              refine k_lald hx hb hK hP 1 rfl (by omega) (by omega) dX4_put_39 ?_
              refine lv_aload_n hx hb dX4_put_40 rfl (lv_at hl 0 rfl) ?_
              refine lv_iload hx hb dX4_put_41 (lv_at hl 4 rfl) ?_
              refine lv_iload_n hx hb dX4_put_43 rfl (lv_at hl 2 rfl) ?_
              refine lv_iload_n hx hb dX4_put_44 rfl (lv_at hl 1 rfl) ?_
              refine go_l (wc := [(md 0, .inr (4, [.int (xt), .int (nI mi), .int (nI mo), .int (nI mw), .ref (md 1), .ref (md 2), .ref (md 3), .int (nI ni), .int (nI no), .ref (md 4), .ref (md 5), .ref (md 6), .int (nI ns), .ref (md 7), .ref (md 8), .int (nI nb), .int (nI wd), .ref (md 9), .long (tp), .long (bl), .long (wt), .long (wb)])), (md 8, aJ g 5 wy)]) (wr := [(md 6, aJ g 13000 sd)]) hP hD hS hA [0, 2] [1] rfl rfl rfl rfl (by decide) (fun hPc hDc => rn_V (As := [.int (nI k), .int (nI (ni + no)), .int (sg)]) (rest := [.long (sd (a * 5 + k))]) ⟨hx, hb, hml, hown, hts⟩ ((c_X4_told l g md xt mi mo mw ni no ns nb wd tp bl wt wb wy k (ni + no) sg (by omega) (by omega) (by omega)) _) (cw_X4_put_111_0_0 hts hN ⟨Nat.le_of_ble_eq_true rfl, Nat.le_of_ble_eq_true rfl⟩) hK hN hPc hDc 0 rfl rfl rfl rfl hl.1 (Nat.le_of_ble_eq_true rfl) dX4_put_45 ⟨Nat.le_of_ble_eq_true rfl, Nat.le_of_ble_eq_true rfl⟩) ?_
              intro r_14 u_15 H locs h_16 hP hD hS
              have hP : va_P g.1 vwCl [(md 0, .inr (4, [.int (xt), .int (nI mi), .int (nI mo), .int (nI mw), .ref (md 1), .ref (md 2), .ref (md 3), .int (nI ni), .int (nI no), .ref (md 4), .ref (md 5), .ref (md 6), .int (nI ns), .ref (md 7), .ref (md 8), .int (nI nb), .int (nI wd), .ref (md 9), .long (tp), .long (bl), .long (wt), .long (wb)])), (md 6, aJ g 13000 sd), (md 8, aJ g 5 wy)] H := hP.sub [1, 0, 2] rfl
              have hD : va_D A [(md 0, .inr (4, [.int (xt), .int (nI mi), .int (nI mo), .int (nI mw), .ref (md 1), .ref (md 2), .ref (md 3), .int (nI ni), .int (nI no), .ref (md 4), .ref (md 5), .ref (md 6), .int (nI ns), .ref (md 7), .ref (md 8), .int (nI nb), .int (nI wd), .ref (md 9), .long (tp), .long (bl), .long (wt), .long (wb)])), (md 6, aJ g 13000 sd), (md 8, aJ g 5 wy)] := hD.sub [1, 0, 2] rfl rfl
              have h_16 : r_14 = tdV wy wd k (ni + no) sg := h_16
              subst h_16
              refine k_el (y := T k) (by rw [hT]) ?_
              refine W.lcmp hx hb dX4_put_48 ?_
              refine lv_if_ne (tgt := 58) hx hb dX4_put_49 (by decide) (fun c_17 => ?_) (fun c_17 => ?_)
              · skip
                have c_17 := mt (lc_eq _ _).mpr c_17
                have hdk : dfK sd T a 0 5 = k := by rw [hd, show 5 - k = (5 - (k + 1)) + 1 by omega, dfK, if_neg c_17]
                exact lp_58 k hdk _ _ hP hD hS ls (lv_sub hl [0, 1, 2, 3, 4] rfl)
              · skip
                have c_17 := (lc_eq _ _).mp c_17
                have hce := c_17
                refine lv_iinc (v := nI (k + 1)) (lv' := [(4, .int (nI (k + 1))), (0, .ref (md 0)), (1, .int (sg)), (2, .int (nI (ni + no))), (3, .int (nI a))]) hx hb dX4_put_52 hl (k := 4) rfl (nI_inc1 k) (by decide) rfl (fun ls hl => ?_)
                refine lv_goto (tgt := 23) hx hb dX4_put_55 (by decide) ?_
                exact ih_23 (k + 1) (by omega) (by omega) (by rw [hd, show 5 - k = (5 - (k + 1)) + 1 by omega, dfK, if_pos hce]) _ _ hP hD hS ls (lv_sub hl [1, 2, 3, 4, 0] rfl)
        exact lp_23 (5 - 0 + 1) 0 (by omega) (by omega) rfl _ _ hP hD hS ls (lv_sub hl [1, 2, 3, 4, 0] rfl)
  exact lp_12 (ns - 0 + 1) 0 (by omega) (by omega) rfl _ _ hP hD hS ls (lv_sub hl [2, 3, 1, 0] rfl)
theorem iw_X4_tries_X4 : ∀ w ∈ wsX40, w ∈ wsX4_tries := fun w h => List.mem_cons_of_mem _ (List.mem_append_right _ h)
theorem fm_X4_tries_70 : Cond.fieldLink RX4 70 "EdgeBenchModel" "wide" "I" ∈ wsX4_tries := List.mem_of_getElem? (i := 1) rfl
theorem hdn_X4_isAllowed : yX4_isAllowed.cls ≠ "java/lang/invoke/MethodHandle" ∧ yX4_isAllowed.cls ≠ "java/lang/invoke/VarHandle" ∧ (parseMethodDescriptor yX4_isAllowed.desc).map (fun d => d.parameters.length) = some 1 := by decide +kernel
theorem cw_X4_tries_105_0_0 {R : Room} {s : State} {args : Array Value} (hts : ∀ w ∈ wsX4_tries, w.before args s = true) (hN : nsW s) (hR : 0 + 1 ≤ R.frames ∧ 8 + (6 + 11) + 0 ≤ R.locals) : CallW R s args RX4 RX4 105 yX4_isAllowed cX4_isAllowed 6 (some .boolean) wsX4_isAllowed { frames := 0, cells := 0, slots := 0, locals := 0 } 0 0 1 := cwV 1 hts gX4_tries_X4_isAllowed rfl rfl rfl ⟨rfl, hdn_X4_isAllowed⟩ hR
theorem hdn_X4_put : yX4_put.cls ≠ "java/lang/invoke/MethodHandle" ∧ yX4_put.cls ≠ "java/lang/invoke/VarHandle" ∧ (parseMethodDescriptor yX4_put.desc).map (fun d => d.parameters.length) = some 1 := by decide +kernel
theorem cw_X4_tries_108_1_23 {R : Room} {s : State} {args : Array Value} (hts : ∀ w ∈ wsX4_tries, w.before args s = true) (hN : nsW s) (hR : 1 + 1 ≤ R.frames ∧ 8 + (5 + 11) + 23 ≤ R.locals) : CallW R s args RX4 RX4 108 yX4_put cX4_put 5 none wsX4_put { frames := 1, cells := 0, slots := 0, locals := 23 } 0 0 1 := cwV 1 hts gX4_tries_X4_put rfl rfl rfl ⟨rfl, hdn_X4_put⟩ hR
theorem fm_X4_tries_40 : Cond.fieldLink RX4 40 "EdgeBenchModel" "way" "[J" ∈ wsX4_tries := List.mem_of_getElem? (i := 2) rfl
theorem cw_X4_tries_91_4_112 {R : Room} {s : State} {args : Array Value} (hts : ∀ w ∈ wsX4_tries, w.before args s = true) (hN : nsW s) (hR : 4 + 1 ≤ R.frames ∧ 8 + (9 + 11) + 112 ≤ R.locals) : CallW R s args RX4 RX4 91 yX4_determinant cX4_determinant 9 (some .long) wsX4_determinant { frames := 4, cells := 0, slots := 0, locals := 112 } 0 0 2 := cwV 2 hts gX4_tries_X4_determinant rfl rfl rfl ⟨rfl, hdn_X4_determinant⟩ hR
theorem hdn_X4_common : yX4_common.cls ≠ "java/lang/invoke/MethodHandle" ∧ yX4_common.cls ≠ "java/lang/invoke/VarHandle" ∧ (parseMethodDescriptor yX4_common.desc).map (fun d => d.parameters.length) = some 2 := by decide +kernel
theorem cw_X4_tries_101_1_40 {R : Room} {s : State} {args : Array Value} (hts : ∀ w ∈ wsX4_tries, w.before args s = true) (hN : nsW s) (hR : 1 + 1 ≤ R.frames ∧ 8 + (10 + 11) + 40 ≤ R.locals) : CallB R s args RX4 101 yX4_common cX4_common 10 (some .long) wsX4_common { frames := 1, cells := 0, slots := 0, locals := 40 } 0 0 2 ∧ (Cond.static yX4_common).before args s = true := va_cwS 2 hts gX4_tries_X4_common rfl rfl rfl hdn_X4_common hR
set_option maxHeartbeats 20000000 in
set_option maxRecDepth 100000 in
theorem c_X4_tries (l : Launch) (g : Gt) (md : Nat → Nat) (xt : Int32) (mi : Nat) (mo : Nat) (mw : Nat) (ni : Nat) (no : Nat) (ns : Nat) (nb : Nat) (wd : Nat) (tp : Int64) (bl : Int64) (wt : Int64) (wb : Int64) (bd : Nat → Int64) (ch : Nat → Nat) (wy : Nat → Int64) (sd : Nat → Int64) (hns : ns < 2600) (hni : ni ≤ 2) (hno : no ≤ 2) (hw2 : 2 ≤ wd) (hwd : wd ≤ 5) (hnb : nb ≤ 17) (hch : ∀ j : Nat, j + 1 < wd → ch j < 17) : CV l yX4_tries wsX4_tries { frames := 5, cells := 0, slots := 0, locals := 140 } g [.ref (md 0)] [(md 0, .inr (4, [.int (xt), .int (nI mi), .int (nI mo), .int (nI mw), .ref (md 1), .ref (md 2), .ref (md 3), .int (nI ni), .int (nI no), .ref (md 4), .ref (md 5), .ref (md 6), .int (nI ns), .ref (md 7), .ref (md 8), .int (nI nb), .int (nI wd), .ref (md 9), .long (tp), .long (bl), .long (wt), .long (wb)])), (md 7, aJ g 85 bd), (md 9, aI g 5 (fun j => nI (ch j))), (md 8, aJ g 5 wy), (md 6, aJ g 13000 sd)] (fun (zu : Unit) => True) (fun (zu : Unit) => [(md 0, .inr (4, [.int (xt), .int (nI mi), .int (nI mo), .int (nI mw), .ref (md 1), .ref (md 2), .ref (md 3), .int (nI ni), .int (nI no), .ref (md 4), .ref (md 5), .ref (md 6), .int (nI ((trF bd ch nb wd (ni + no) (wy, sd, ns)).2.2)), .ref (md 7), .ref (md 8), .int (nI nb), .int (nI wd), .ref (md 9), .long (tp), .long (bl), .long (wt), .long (wb)])), (md 7, aJ g 85 bd), (md 9, aI g 5 (fun j => nI (ch j))), (md 8, aJ g 5 ((trF bd ch nb wd (ni + no) (wy, sd, ns)).1)), (md 6, aJ g 13000 ((trF bd ch nb wd (ni + no) (wy, sd, ns)).2.1))]) 0 0 := by
  refine ent_v (cc := cX4_tries) (maxL := 4) (by decide) rfl (Nat.le_of_ble_eq_true rfl) ?_
  intro p e s m below meth c A args Q hE ret ls hl
  obtain ⟨hx, hb, hml, hown, hts, hnm, hA, hP, hD, hK, hN⟩ := hE
  have hS : va_S A s.heap s.heap [] := va_S.rf
  have hl : lv_has ls 4 [(0, .ref (md 0))] := hl
  have hP : va_P g.1 vwCl [(md 0, .inr (4, [.int (xt), .int (nI mi), .int (nI mo), .int (nI mw), .ref (md 1), .ref (md 2), .ref (md 3), .int (nI ni), .int (nI no), .ref (md 4), .ref (md 5), .ref (md 6), .int (nI ns), .ref (md 7), .ref (md 8), .int (nI nb), .int (nI wd), .ref (md 9), .long (tp), .long (bl), .long (wt), .long (wb)])), (md 7, aJ g 85 bd), (md 9, aI g 5 (fun j => nI (ch j))), (md 8, aJ g 5 wy), (md 6, aJ g 13000 sd)] s.heap := hP
  refine lv_lconst (v := 0) hx hb dX4_tries_0 (by decide) ?_
  refine lv_lstore_n (lv' := [(1, .long (0)), (0, .ref (md 0))]) hx hb dX4_tries_1 rfl hl (by decide) rfl (fun ls hl => ?_)
  refine lv_iconst (v := nI 0) hx hb dX4_tries_2 (by decide) ?_
  refine lv_istore_n (lv' := [(3, .int (nI 0)), (1, .long (0)), (0, .ref (md 0))]) hx hb dX4_tries_3 rfl hl (by decide) rfl (fun ls hl => ?_)
  have lp_4 : ∀ (n : Nat) (f : Nat → Int64) (gv : Int64) (c1 : Nat), wd - c1 < n → c1 ≤ wd → trW bd ch wd 0 wd (wy, 0) = trW bd ch wd c1 (wd - c1) (f, gv) → ∀ (H : Heap) (locs : List Loc), va_P g.1 vwCl [(md 0, .inr (4, [.int (xt), .int (nI mi), .int (nI mo), .int (nI mw), .ref (md 1), .ref (md 2), .ref (md 3), .int (nI ni), .int (nI no), .ref (md 4), .ref (md 5), .ref (md 6), .int (nI ns), .ref (md 7), .ref (md 8), .int (nI nb), .int (nI wd), .ref (md 9), .long (tp), .long (bl), .long (wt), .long (wb)])), (md 7, aJ g 85 bd), (md 9, aI g 5 (fun j => nI (ch j))), (md 8, aJ g 5 f), (md 6, aJ g 13000 sd)] H → va_D A [(md 0, .inr (4, [.int (xt), .int (nI mi), .int (nI mo), .int (nI mw), .ref (md 1), .ref (md 2), .ref (md 3), .int (nI ni), .int (nI no), .ref (md 4), .ref (md 5), .ref (md 6), .int (nI ns), .ref (md 7), .ref (md 8), .int (nI nb), .int (nI wd), .ref (md 9), .long (tp), .long (bl), .long (wt), .long (wb)])), (md 7, aJ g 85 bd), (md 9, aI g 5 (fun j => nI (ch j))), (md 8, aJ g 5 f), (md 6, aJ g 13000 sd)] → va_S A s.heap H locs → ∀ ls : Array Slot, lv_has ls 4 [(0, .ref (md 0)), (1, .long (gv)), (3, .int (nI c1))] → W p l e { frames := 5, cells := 0, slots := 0, locals := 140 } s m args below meth c H locs 0 0 Q (F0 m 4 ls []) := by
    intro n
    induction n with
    | zero =>
      intro f gv c1 hms
      omega
    | succ n ih_4 =>
      intro f gv c1 hms_4 hc1 hv H locs hP hD hS ls hl
      refine lv_iload_n hx hb dX4_tries_4 rfl (lv_at hl 2 rfl) ?_
      refine lv_aload_n hx hb dX4_tries_5 rfl (lv_at hl 0 rfl) ?_
      refine k_get hx hb hts hown hK hP iw_X4_tries_X4 rfl 0 16 fm_X4_tries_70 (by decide) rfl rfl dX4_tries_6 ?_
      refine lv_icmp_ge (tgt := 56) hx hb dX4_tries_9 (by decide) (fun c_1 => ?_) (fun c_1 => ?_)
      · skip
        have c_1 := (nI_leI (by omega) (by omega)).mp c_1
        have hq : trW bd ch wd 0 wd (wy, 0) = (f, gv) := by rw [hv, show wd - c1 = 0 by omega]; rfl
        refine lv_lload_n hx hb dX4_tries_56 rfl (lv_at hl 1 rfl) ?_
        refine lv_lconst (v := 0) hx hb dX4_tries_57 (by decide) ?_
        refine W.lcmp hx hb dX4_tries_58 ?_
        refine lv_if_ne (tgt := 63) hx hb dX4_tries_59 (by decide) (fun c_2 => ?_) (fun c_2 => ?_)
        · skip
          have c_2 := mt (lc_eq _ _).mpr c_2
          have hgz := c_2
          refine lv_iconst (v := nI 0) hx hb dX4_tries_63 (by decide) ?_
          refine lv_istore_n (lv' := [(3, .int (nI 0)), (0, .ref (md 0)), (1, .long (gv))]) hx hb dX4_tries_64 rfl hl (by decide) rfl (fun ls hl => ?_)
          have lp_65 : ∀ (n : Nat) (h : Nat → Int64) (c1 : Nat), wd - c1 < n → c1 ≤ wd → trD gv 0 wd f = trD gv c1 (wd - c1) h → ∀ (H : Heap) (locs : List Loc), va_P g.1 vwCl [(md 0, .inr (4, [.int (xt), .int (nI mi), .int (nI mo), .int (nI mw), .ref (md 1), .ref (md 2), .ref (md 3), .int (nI ni), .int (nI no), .ref (md 4), .ref (md 5), .ref (md 6), .int (nI ns), .ref (md 7), .ref (md 8), .int (nI nb), .int (nI wd), .ref (md 9), .long (tp), .long (bl), .long (wt), .long (wb)])), (md 7, aJ g 85 bd), (md 9, aI g 5 (fun j => nI (ch j))), (md 8, aJ g 5 h), (md 6, aJ g 13000 sd)] H → va_D A [(md 0, .inr (4, [.int (xt), .int (nI mi), .int (nI mo), .int (nI mw), .ref (md 1), .ref (md 2), .ref (md 3), .int (nI ni), .int (nI no), .ref (md 4), .ref (md 5), .ref (md 6), .int (nI ns), .ref (md 7), .ref (md 8), .int (nI nb), .int (nI wd), .ref (md 9), .long (tp), .long (bl), .long (wt), .long (wb)])), (md 7, aJ g 85 bd), (md 9, aI g 5 (fun j => nI (ch j))), (md 8, aJ g 5 h), (md 6, aJ g 13000 sd)] → va_S A s.heap H locs → ∀ ls : Array Slot, lv_has ls 4 [(0, .ref (md 0)), (1, .long (gv)), (3, .int (nI c1))] → W p l e { frames := 5, cells := 0, slots := 0, locals := 140 } s m args below meth c H locs 0 0 Q (F0 m 65 ls []) := by
            intro n
            induction n with
            | zero =>
              intro h c1 hms
              omega
            | succ n ih_65 =>
              intro h c1 hms_65 hc1 hd2 H locs hP hD hS ls hl
              refine lv_iload_n hx hb dX4_tries_65 rfl (lv_at hl 2 rfl) ?_
              refine lv_aload_n hx hb dX4_tries_66 rfl (lv_at hl 0 rfl) ?_
              refine k_get hx hb hts hown hK hP iw_X4_tries_X4 rfl 0 16 fm_X4_tries_70 (by decide) rfl rfl dX4_tries_67 ?_
              refine lv_icmp_ge (tgt := 89) hx hb dX4_tries_70 (by decide) (fun c_3 => ?_) (fun c_3 => ?_)
              · skip
                have c_3 := (nI_leI (by omega) (by omega)).mp c_3
                have hw2e : trD gv 0 wd f = h := by rw [hd2, show wd - c1 = 0 by omega]; rfl
                have hTF : trF bd ch nb wd (ni + no) (wy, sd, ns) = trE bd nb wd (ni + no) h (sd, ns) := by rw [trF, if_neg (by rw [hq]; exact hgz), hq, ← hw2e]
                refine lv_iconst (v := nI 1) hx hb dX4_tries_89 (by decide) ?_
                refine lv_istore_n (lv' := [(3, .int (nI 1)), (0, .ref (md 0)), (1, .long (gv))]) hx hb dX4_tries_90 rfl hl (by decide) rfl (fun ls hl => ?_)
                refine lv_iload_n hx hb dX4_tries_91 rfl (lv_at hl 0 rfl) ?_
                refine lv_bipush (v := -2) hx hb dX4_tries_92 (by decide) ?_
                refine lv_icmp_le (tgt := 117) hx hb dX4_tries_94 (by decide) (fun c_4 => ?_) (fun c_4 => ?_)
                · skip
                  exact absurd c_4 (by decide)
                · skip
                  refine lv_aload_n hx hb dX4_tries_97 rfl (lv_at hl 1 rfl) ?_
                  refine lv_iload_n hx hb dX4_tries_98 rfl (lv_at hl 0 rfl) ?_
                  refine go_i (wc := [(md 0, .inr (4, [.int (xt), .int (nI mi), .int (nI mo), .int (nI mw), .ref (md 1), .ref (md 2), .ref (md 3), .int (nI ni), .int (nI no), .ref (md 4), .ref (md 5), .ref (md 6), .int (nI ns), .ref (md 7), .ref (md 8), .int (nI nb), .int (nI wd), .ref (md 9), .long (tp), .long (bl), .long (wt), .long (wb)])), (md 7, aJ g 85 bd), (md 8, aJ g 5 h)]) (wr := [(md 9, aI g 5 (fun j => nI (ch j))), (md 6, aJ g 13000 sd)]) hP hD hS hA [0, 1, 3] [2, 4] rfl rfl rfl rfl (by decide) (fun hPc hDc => rn_V (As := [.int (nI 1)]) (rest := []) ⟨hx, hb, hml, hown, hts⟩ ((c_X4_isAllowed l g md xt mi mo mw ni no ns nb wd tp bl wt wb bd h (nI 1) (by omega) (by omega)) _) (cw_X4_tries_105_0_0 hts hN ⟨Nat.le_of_ble_eq_true rfl, Nat.le_of_ble_eq_true rfl⟩) hK hN hPc hDc 0 rfl rfl rfl rfl hl.1 (Nat.le_of_ble_eq_true rfl) dX4_tries_99 ⟨Nat.le_of_ble_eq_true rfl, Nat.le_of_ble_eq_true rfl⟩) ?_
                  intro r_5 u_6 H locs h_7 hP hD hS
                  have hP : va_P g.1 vwCl [(md 0, .inr (4, [.int (xt), .int (nI mi), .int (nI mo), .int (nI mw), .ref (md 1), .ref (md 2), .ref (md 3), .int (nI ni), .int (nI no), .ref (md 4), .ref (md 5), .ref (md 6), .int (nI ns), .ref (md 7), .ref (md 8), .int (nI nb), .int (nI wd), .ref (md 9), .long (tp), .long (bl), .long (wt), .long (wb)])), (md 7, aJ g 85 bd), (md 9, aI g 5 (fun j => nI (ch j))), (md 8, aJ g 5 h), (md 6, aJ g 13000 sd)] H := hP.sub [2, 3, 0, 4, 1] rfl
                  have hD : va_D A [(md 0, .inr (4, [.int (xt), .int (nI mi), .int (nI mo), .int (nI mw), .ref (md 1), .ref (md 2), .ref (md 3), .int (nI ni), .int (nI no), .ref (md 4), .ref (md 5), .ref (md 6), .int (nI ns), .ref (md 7), .ref (md 8), .int (nI nb), .int (nI wd), .ref (md 9), .long (tp), .long (bl), .long (wt), .long (wb)])), (md 7, aJ g 85 bd), (md 9, aI g 5 (fun j => nI (ch j))), (md 8, aJ g 5 h), (md 6, aJ g 13000 sd)] := hD.sub [2, 3, 0, 4, 1] rfl rfl
                  have h_7 : r_5 = bI (alB bd h wd (nI 1) 0 nb) := h_7
                  subst h_7
                  refine lv_if_eq (tgt := 111) hx hb dX4_tries_102 (by decide) (fun c_8 => ?_) (fun c_8 => ?_)
                  · skip
                    have hal1 := bI_eq0.mp c_8
                    refine lv_iinc (v := (nI 1) + -2) (lv' := [(3, .int ((nI 1) + -2)), (0, .ref (md 0)), (1, .long (gv))]) hx hb dX4_tries_111 hl (k := 0) rfl (rfl) (by decide) rfl (fun ls hl => ?_)
                    rw [show (nI 1) + -2 = (-1 : Int32) by decide] at hl
                    refine lv_goto (tgt := 91) hx hb dX4_tries_114 (by decide) ?_
                    refine lv_iload_n hx hb dX4_tries_91 rfl (lv_at hl 0 rfl) ?_
                    refine lv_bipush (v := -2) hx hb dX4_tries_92 (by decide) ?_
                    refine lv_icmp_le (tgt := 117) hx hb dX4_tries_94 (by decide) (fun c_9 => ?_) (fun c_9 => ?_)
                    · skip
                      exact absurd c_9 (by decide)
                    · skip
                      refine lv_aload_n hx hb dX4_tries_97 rfl (lv_at hl 1 rfl) ?_
                      refine lv_iload_n hx hb dX4_tries_98 rfl (lv_at hl 0 rfl) ?_
                      refine go_i (wc := [(md 0, .inr (4, [.int (xt), .int (nI mi), .int (nI mo), .int (nI mw), .ref (md 1), .ref (md 2), .ref (md 3), .int (nI ni), .int (nI no), .ref (md 4), .ref (md 5), .ref (md 6), .int (nI ns), .ref (md 7), .ref (md 8), .int (nI nb), .int (nI wd), .ref (md 9), .long (tp), .long (bl), .long (wt), .long (wb)])), (md 7, aJ g 85 bd), (md 8, aJ g 5 h)]) (wr := [(md 9, aI g 5 (fun j => nI (ch j))), (md 6, aJ g 13000 sd)]) hP hD hS hA [0, 1, 3] [2, 4] rfl rfl rfl rfl (by decide) (fun hPc hDc => rn_V (As := [.int (-1)]) (rest := []) ⟨hx, hb, hml, hown, hts⟩ ((c_X4_isAllowed l g md xt mi mo mw ni no ns nb wd tp bl wt wb bd h (-1) (by omega) (by omega)) _) (cw_X4_tries_105_0_0 hts hN ⟨Nat.le_of_ble_eq_true rfl, Nat.le_of_ble_eq_true rfl⟩) hK hN hPc hDc 0 rfl rfl rfl rfl hl.1 (Nat.le_of_ble_eq_true rfl) dX4_tries_99 ⟨Nat.le_of_ble_eq_true rfl, Nat.le_of_ble_eq_true rfl⟩) ?_
                      intro r_10 u_11 H locs h_12 hP hD hS
                      have hP : va_P g.1 vwCl [(md 0, .inr (4, [.int (xt), .int (nI mi), .int (nI mo), .int (nI mw), .ref (md 1), .ref (md 2), .ref (md 3), .int (nI ni), .int (nI no), .ref (md 4), .ref (md 5), .ref (md 6), .int (nI ns), .ref (md 7), .ref (md 8), .int (nI nb), .int (nI wd), .ref (md 9), .long (tp), .long (bl), .long (wt), .long (wb)])), (md 7, aJ g 85 bd), (md 9, aI g 5 (fun j => nI (ch j))), (md 8, aJ g 5 h), (md 6, aJ g 13000 sd)] H := hP.sub [2, 3, 0, 4, 1] rfl
                      have hD : va_D A [(md 0, .inr (4, [.int (xt), .int (nI mi), .int (nI mo), .int (nI mw), .ref (md 1), .ref (md 2), .ref (md 3), .int (nI ni), .int (nI no), .ref (md 4), .ref (md 5), .ref (md 6), .int (nI ns), .ref (md 7), .ref (md 8), .int (nI nb), .int (nI wd), .ref (md 9), .long (tp), .long (bl), .long (wt), .long (wb)])), (md 7, aJ g 85 bd), (md 9, aI g 5 (fun j => nI (ch j))), (md 8, aJ g 5 h), (md 6, aJ g 13000 sd)] := hD.sub [2, 3, 0, 4, 1] rfl rfl
                      have h_12 : r_10 = bI (alB bd h wd (-1) 0 nb) := h_12
                      subst h_12
                      refine lv_if_eq (tgt := 111) hx hb dX4_tries_102 (by decide) (fun c_13 => ?_) (fun c_13 => ?_)
                      · skip
                        have hal2 := bI_eq0.mp c_13
                        have hfin : trF bd ch nb wd (ni + no) (wy, sd, ns) = (h, sd, ns) := by rw [hTF, trE, if_neg (by rw [hal1]; decide), if_neg (by rw [hal2]; decide)]
                        refine lv_iinc (v := (-1) + -2) (lv' := [(3, .int ((-1) + -2)), (0, .ref (md 0)), (1, .long (gv))]) hx hb dX4_tries_111 hl (k := 0) rfl (rfl) (by decide) rfl (fun ls hl => ?_)
                        rw [show (-1 : Int32) + -2 = (-3 : Int32) by decide] at hl
                        refine lv_goto (tgt := 91) hx hb dX4_tries_114 (by decide) ?_
                        refine lv_iload_n hx hb dX4_tries_91 rfl (lv_at hl 0 rfl) ?_
                        refine lv_bipush (v := -2) hx hb dX4_tries_92 (by decide) ?_
                        refine lv_icmp_le (tgt := 117) hx hb dX4_tries_94 (by decide) (fun c_14 => ?_) (fun c_14 => ?_)
                        · skip
                          have hP : va_P g.1 vwCl [(md 0, .inr (4, [.int (xt), .int (nI mi), .int (nI mo), .int (nI mw), .ref (md 1), .ref (md 2), .ref (md 3), .int (nI ni), .int (nI no), .ref (md 4), .ref (md 5), .ref (md 6), .int (nI ((trF bd ch nb wd (ni + no) (wy, sd, ns)).2.2)), .ref (md 7), .ref (md 8), .int (nI nb), .int (nI wd), .ref (md 9), .long (tp), .long (bl), .long (wt), .long (wb)])), (md 7, aJ g 85 bd), (md 9, aI g 5 (fun j => nI (ch j))), (md 8, aJ g 5 ((trF bd ch nb wd (ni + no) (wy, sd, ns)).1)), (md 6, aJ g 13000 ((trF bd ch nb wd (ni + no) (wy, sd, ns)).2.1))] H := by rw [hfin]; exact hP
                          have hD : va_D A [(md 0, .inr (4, [.int (xt), .int (nI mi), .int (nI mo), .int (nI mw), .ref (md 1), .ref (md 2), .ref (md 3), .int (nI ni), .int (nI no), .ref (md 4), .ref (md 5), .ref (md 6), .int (nI ((trF bd ch nb wd (ni + no) (wy, sd, ns)).2.2)), .ref (md 7), .ref (md 8), .int (nI nb), .int (nI wd), .ref (md 9), .long (tp), .long (bl), .long (wt), .long (wb)])), (md 7, aJ g 85 bd), (md 9, aI g 5 (fun j => nI (ch j))), (md 8, aJ g 5 ((trF bd ch nb wd (ni + no) (wy, sd, ns)).1)), (md 6, aJ g 13000 ((trF bd ch nb wd (ni + no) (wy, sd, ns)).2.1))] := by rw [hfin]; exact hD
                          exact ret dX4_tries_117 () (trivial) hP hD hS
                        · skip
                          exact absurd (by decide) c_14
                      · skip
                        have hal := bI_ne0.mp c_13
                        have hfin : trF bd ch nb wd (ni + no) (wy, sd, ns) = (h, putF (fun k => tdV h wd k (ni + no) (-1)) (sd, ns)) := by rw [hTF, trE, if_neg (by rw [hal1]; decide), if_pos hal]
                        refine lv_aload_n hx hb dX4_tries_105 rfl (lv_at hl 1 rfl) ?_
                        refine lv_iload_n hx hb dX4_tries_106 rfl (lv_at hl 0 rfl) ?_
                        refine go_v (wc := [(md 0, .inr (4, [.int (xt), .int (nI mi), .int (nI mo), .int (nI mw), .ref (md 1), .ref (md 2), .ref (md 3), .int (nI ni), .int (nI no), .ref (md 4), .ref (md 5), .ref (md 6), .int (nI ns), .ref (md 7), .ref (md 8), .int (nI nb), .int (nI wd), .ref (md 9), .long (tp), .long (bl), .long (wt), .long (wb)])), (md 6, aJ g 13000 sd), (md 8, aJ g 5 h)]) (wr := [(md 7, aJ g 85 bd), (md 9, aI g 5 (fun j => nI (ch j)))]) hP hD hS hA [0, 4, 3] [1, 2] rfl rfl rfl rfl (by decide) (fun hPc hDc => rn_V (As := [.int (-1)]) (rest := []) ⟨hx, hb, hml, hown, hts⟩ ((c_X4_put l g md xt mi mo mw ni no ns nb wd tp bl wt wb sd h (-1) (by omega) (by omega) (by omega) (by omega)) _) (cw_X4_tries_108_1_23 hts hN ⟨Nat.le_of_ble_eq_true rfl, Nat.le_of_ble_eq_true rfl⟩) hK hN hPc hDc 0 rfl rfl rfl rfl hl.1 (Nat.le_of_ble_eq_true rfl) dX4_tries_107 ⟨Nat.le_of_ble_eq_true rfl, Nat.le_of_ble_eq_true rfl⟩) ?_
                        intro u_16 H locs h_17 hP hD hS
                        have hP : va_P g.1 vwCl [(md 0, .inr (4, [.int (xt), .int (nI mi), .int (nI mo), .int (nI mw), .ref (md 1), .ref (md 2), .ref (md 3), .int (nI ni), .int (nI no), .ref (md 4), .ref (md 5), .ref (md 6), .int (nI ((putF (fun k => tdV h wd k (ni + no) (-1)) (sd, ns)).2)), .ref (md 7), .ref (md 8), .int (nI nb), .int (nI wd), .ref (md 9), .long (tp), .long (bl), .long (wt), .long (wb)])), (md 7, aJ g 85 bd), (md 9, aI g 5 (fun j => nI (ch j))), (md 8, aJ g 5 h), (md 6, aJ g 13000 ((putF (fun k => tdV h wd k (ni + no) (-1)) (sd, ns)).1))] H := hP.sub [2, 0, 1, 4, 3] rfl
                        have hD : va_D A [(md 0, .inr (4, [.int (xt), .int (nI mi), .int (nI mo), .int (nI mw), .ref (md 1), .ref (md 2), .ref (md 3), .int (nI ni), .int (nI no), .ref (md 4), .ref (md 5), .ref (md 6), .int (nI ((putF (fun k => tdV h wd k (ni + no) (-1)) (sd, ns)).2)), .ref (md 7), .ref (md 8), .int (nI nb), .int (nI wd), .ref (md 9), .long (tp), .long (bl), .long (wt), .long (wb)])), (md 7, aJ g 85 bd), (md 9, aI g 5 (fun j => nI (ch j))), (md 8, aJ g 5 h), (md 6, aJ g 13000 ((putF (fun k => tdV h wd k (ni + no) (-1)) (sd, ns)).1))] := hD.sub [2, 0, 1, 4, 3] rfl rfl
                        have hP : va_P g.1 vwCl [(md 0, .inr (4, [.int (xt), .int (nI mi), .int (nI mo), .int (nI mw), .ref (md 1), .ref (md 2), .ref (md 3), .int (nI ni), .int (nI no), .ref (md 4), .ref (md 5), .ref (md 6), .int (nI ((trF bd ch nb wd (ni + no) (wy, sd, ns)).2.2)), .ref (md 7), .ref (md 8), .int (nI nb), .int (nI wd), .ref (md 9), .long (tp), .long (bl), .long (wt), .long (wb)])), (md 7, aJ g 85 bd), (md 9, aI g 5 (fun j => nI (ch j))), (md 8, aJ g 5 ((trF bd ch nb wd (ni + no) (wy, sd, ns)).1)), (md 6, aJ g 13000 ((trF bd ch nb wd (ni + no) (wy, sd, ns)).2.1))] H := by rw [hfin]; exact hP
                        have hD : va_D A [(md 0, .inr (4, [.int (xt), .int (nI mi), .int (nI mo), .int (nI mw), .ref (md 1), .ref (md 2), .ref (md 3), .int (nI ni), .int (nI no), .ref (md 4), .ref (md 5), .ref (md 6), .int (nI ((trF bd ch nb wd (ni + no) (wy, sd, ns)).2.2)), .ref (md 7), .ref (md 8), .int (nI nb), .int (nI wd), .ref (md 9), .long (tp), .long (bl), .long (wt), .long (wb)])), (md 7, aJ g 85 bd), (md 9, aI g 5 (fun j => nI (ch j))), (md 8, aJ g 5 ((trF bd ch nb wd (ni + no) (wy, sd, ns)).1)), (md 6, aJ g 13000 ((trF bd ch nb wd (ni + no) (wy, sd, ns)).2.1))] := by rw [hfin]; exact hD
                        exact ret dX4_tries_110 () (trivial) hP hD hS
                  · skip
                    have hal := bI_ne0.mp c_8
                    have hfin : trF bd ch nb wd (ni + no) (wy, sd, ns) = (h, putF (fun k => tdV h wd k (ni + no) (nI 1)) (sd, ns)) := by rw [hTF, trE, if_pos hal]
                    refine lv_aload_n hx hb dX4_tries_105 rfl (lv_at hl 1 rfl) ?_
                    refine lv_iload_n hx hb dX4_tries_106 rfl (lv_at hl 0 rfl) ?_
                    refine go_v (wc := [(md 0, .inr (4, [.int (xt), .int (nI mi), .int (nI mo), .int (nI mw), .ref (md 1), .ref (md 2), .ref (md 3), .int (nI ni), .int (nI no), .ref (md 4), .ref (md 5), .ref (md 6), .int (nI ns), .ref (md 7), .ref (md 8), .int (nI nb), .int (nI wd), .ref (md 9), .long (tp), .long (bl), .long (wt), .long (wb)])), (md 6, aJ g 13000 sd), (md 8, aJ g 5 h)]) (wr := [(md 7, aJ g 85 bd), (md 9, aI g 5 (fun j => nI (ch j)))]) hP hD hS hA [0, 4, 3] [1, 2] rfl rfl rfl rfl (by decide) (fun hPc hDc => rn_V (As := [.int (nI 1)]) (rest := []) ⟨hx, hb, hml, hown, hts⟩ ((c_X4_put l g md xt mi mo mw ni no ns nb wd tp bl wt wb sd h (nI 1) (by omega) (by omega) (by omega) (by omega)) _) (cw_X4_tries_108_1_23 hts hN ⟨Nat.le_of_ble_eq_true rfl, Nat.le_of_ble_eq_true rfl⟩) hK hN hPc hDc 0 rfl rfl rfl rfl hl.1 (Nat.le_of_ble_eq_true rfl) dX4_tries_107 ⟨Nat.le_of_ble_eq_true rfl, Nat.le_of_ble_eq_true rfl⟩) ?_
                    intro u_19 H locs h_20 hP hD hS
                    have hP : va_P g.1 vwCl [(md 0, .inr (4, [.int (xt), .int (nI mi), .int (nI mo), .int (nI mw), .ref (md 1), .ref (md 2), .ref (md 3), .int (nI ni), .int (nI no), .ref (md 4), .ref (md 5), .ref (md 6), .int (nI ((putF (fun k => tdV h wd k (ni + no) (nI 1)) (sd, ns)).2)), .ref (md 7), .ref (md 8), .int (nI nb), .int (nI wd), .ref (md 9), .long (tp), .long (bl), .long (wt), .long (wb)])), (md 7, aJ g 85 bd), (md 9, aI g 5 (fun j => nI (ch j))), (md 8, aJ g 5 h), (md 6, aJ g 13000 ((putF (fun k => tdV h wd k (ni + no) (nI 1)) (sd, ns)).1))] H := hP.sub [2, 0, 1, 4, 3] rfl
                    have hD : va_D A [(md 0, .inr (4, [.int (xt), .int (nI mi), .int (nI mo), .int (nI mw), .ref (md 1), .ref (md 2), .ref (md 3), .int (nI ni), .int (nI no), .ref (md 4), .ref (md 5), .ref (md 6), .int (nI ((putF (fun k => tdV h wd k (ni + no) (nI 1)) (sd, ns)).2)), .ref (md 7), .ref (md 8), .int (nI nb), .int (nI wd), .ref (md 9), .long (tp), .long (bl), .long (wt), .long (wb)])), (md 7, aJ g 85 bd), (md 9, aI g 5 (fun j => nI (ch j))), (md 8, aJ g 5 h), (md 6, aJ g 13000 ((putF (fun k => tdV h wd k (ni + no) (nI 1)) (sd, ns)).1))] := hD.sub [2, 0, 1, 4, 3] rfl rfl
                    have hP : va_P g.1 vwCl [(md 0, .inr (4, [.int (xt), .int (nI mi), .int (nI mo), .int (nI mw), .ref (md 1), .ref (md 2), .ref (md 3), .int (nI ni), .int (nI no), .ref (md 4), .ref (md 5), .ref (md 6), .int (nI ((trF bd ch nb wd (ni + no) (wy, sd, ns)).2.2)), .ref (md 7), .ref (md 8), .int (nI nb), .int (nI wd), .ref (md 9), .long (tp), .long (bl), .long (wt), .long (wb)])), (md 7, aJ g 85 bd), (md 9, aI g 5 (fun j => nI (ch j))), (md 8, aJ g 5 ((trF bd ch nb wd (ni + no) (wy, sd, ns)).1)), (md 6, aJ g 13000 ((trF bd ch nb wd (ni + no) (wy, sd, ns)).2.1))] H := by rw [hfin]; exact hP
                    have hD : va_D A [(md 0, .inr (4, [.int (xt), .int (nI mi), .int (nI mo), .int (nI mw), .ref (md 1), .ref (md 2), .ref (md 3), .int (nI ni), .int (nI no), .ref (md 4), .ref (md 5), .ref (md 6), .int (nI ((trF bd ch nb wd (ni + no) (wy, sd, ns)).2.2)), .ref (md 7), .ref (md 8), .int (nI nb), .int (nI wd), .ref (md 9), .long (tp), .long (bl), .long (wt), .long (wb)])), (md 7, aJ g 85 bd), (md 9, aI g 5 (fun j => nI (ch j))), (md 8, aJ g 5 ((trF bd ch nb wd (ni + no) (wy, sd, ns)).1)), (md 6, aJ g 13000 ((trF bd ch nb wd (ni + no) (wy, sd, ns)).2.1))] := by rw [hfin]; exact hD
                    exact ret dX4_tries_110 () (trivial) hP hD hS
              · skip
                have c_3 := mt (nI_leI (by omega) (by omega)).mpr c_3
                refine lv_aload_n hx hb dX4_tries_73 rfl (lv_at hl 0 rfl) ?_
                refine k_get hx hb hts hown hK hP iw_X4_tries_X4 rfl 0 14 fm_X4_tries_40 (by decide) rfl rfl dX4_tries_74 ?_
                refine lv_iload_n hx hb dX4_tries_77 rfl (lv_at hl 2 rfl) ?_
                refine lv_dup2_11 hx hb dX4_tries_78 rfl rfl ?_
                refine k_lald hx hb hK hP 3 rfl (by omega) (by omega) dX4_tries_79 ?_
                refine lv_lload_n hx hb dX4_tries_80 rfl (lv_at hl 1 rfl) ?_
                refine lv_ldiv hx hb dX4_tries_81 (hgz) ?_
                refine k_last hx hb hK hP hD hS 3 rfl (by omega) (by omega) dX4_tries_82 (fun H locs hP hD hS => ?_)
                have hP : va_P g.1 vwCl [(md 0, .inr (4, [.int (xt), .int (nI mi), .int (nI mo), .int (nI mw), .ref (md 1), .ref (md 2), .ref (md 3), .int (nI ni), .int (nI no), .ref (md 4), .ref (md 5), .ref (md 6), .int (nI ns), .ref (md 7), .ref (md 8), .int (nI nb), .int (nI wd), .ref (md 9), .long (tp), .long (bl), .long (wt), .long (wb)])), (md 7, aJ g 85 bd), (md 9, aI g 5 (fun j => nI (ch j))), (md 8, aJ g 5 (vp_updL h c1 ((h c1) / gv))), (md 6, aJ g 13000 sd)] H := hP
                have hD : va_D A [(md 0, .inr (4, [.int (xt), .int (nI mi), .int (nI mo), .int (nI mw), .ref (md 1), .ref (md 2), .ref (md 3), .int (nI ni), .int (nI no), .ref (md 4), .ref (md 5), .ref (md 6), .int (nI ns), .ref (md 7), .ref (md 8), .int (nI nb), .int (nI wd), .ref (md 9), .long (tp), .long (bl), .long (wt), .long (wb)])), (md 7, aJ g 85 bd), (md 9, aI g 5 (fun j => nI (ch j))), (md 8, aJ g 5 (vp_updL h c1 ((h c1) / gv))), (md 6, aJ g 13000 sd)] := hD
                refine lv_iinc (v := nI (c1 + 1)) (lv' := [(3, .int (nI (c1 + 1))), (0, .ref (md 0)), (1, .long (gv))]) hx hb dX4_tries_83 hl (k := 2) rfl (nI_inc1 c1) (by decide) rfl (fun ls hl => ?_)
                refine lv_goto (tgt := 65) hx hb dX4_tries_86 (by decide) ?_
                exact ih_65 (vp_updL h c1 ((h c1) / gv)) (c1 + 1) (by omega) (by omega) (by rw [hd2, show wd - c1 = (wd - (c1 + 1)) + 1 by omega, trD]) _ _ hP hD hS ls (lv_sub hl [1, 2, 0] rfl)
          exact lp_65 (wd - 0 + 1) f 0 (by omega) (by omega) rfl _ _ hP hD hS ls (lv_sub hl [1, 2, 0] rfl)
        · skip
          have c_2 := (lc_eq _ _).mp c_2
          have hfin : trF bd ch nb wd (ni + no) (wy, sd, ns) = (f, sd, ns) := by rw [trF, if_pos (by rw [hq]; exact c_2), hq]
          have hP : va_P g.1 vwCl [(md 0, .inr (4, [.int (xt), .int (nI mi), .int (nI mo), .int (nI mw), .ref (md 1), .ref (md 2), .ref (md 3), .int (nI ni), .int (nI no), .ref (md 4), .ref (md 5), .ref (md 6), .int (nI ((trF bd ch nb wd (ni + no) (wy, sd, ns)).2.2)), .ref (md 7), .ref (md 8), .int (nI nb), .int (nI wd), .ref (md 9), .long (tp), .long (bl), .long (wt), .long (wb)])), (md 7, aJ g 85 bd), (md 9, aI g 5 (fun j => nI (ch j))), (md 8, aJ g 5 ((trF bd ch nb wd (ni + no) (wy, sd, ns)).1)), (md 6, aJ g 13000 ((trF bd ch nb wd (ni + no) (wy, sd, ns)).2.1))] H := by rw [hfin]; exact hP
          have hD : va_D A [(md 0, .inr (4, [.int (xt), .int (nI mi), .int (nI mo), .int (nI mw), .ref (md 1), .ref (md 2), .ref (md 3), .int (nI ni), .int (nI no), .ref (md 4), .ref (md 5), .ref (md 6), .int (nI ((trF bd ch nb wd (ni + no) (wy, sd, ns)).2.2)), .ref (md 7), .ref (md 8), .int (nI nb), .int (nI wd), .ref (md 9), .long (tp), .long (bl), .long (wt), .long (wb)])), (md 7, aJ g 85 bd), (md 9, aI g 5 (fun j => nI (ch j))), (md 8, aJ g 5 ((trF bd ch nb wd (ni + no) (wy, sd, ns)).1)), (md 6, aJ g 13000 ((trF bd ch nb wd (ni + no) (wy, sd, ns)).2.1))] := by rw [hfin]; exact hD
          exact ret dX4_tries_62 () (trivial) hP hD hS
      · skip
        have c_1 := mt (nI_leI (by omega) (by omega)).mpr c_1
        refine lv_aload_n hx hb dX4_tries_12 rfl (lv_at hl 0 rfl) ?_
        refine k_get hx hb hts hown hK hP iw_X4_tries_X4 rfl 0 14 fm_X4_tries_40 (by decide) rfl rfl dX4_tries_13 ?_
        refine lv_iload_n hx hb dX4_tries_16 rfl (lv_at hl 2 rfl) ?_
        refine lv_aload_n hx hb dX4_tries_17 rfl (lv_at hl 0 rfl) ?_
        refine lv_iconst (v := nI 0) hx hb dX4_tries_18 (by decide) ?_
        refine lv_iconst (v := nI 1) hx hb dX4_tries_19 (by decide) ?_
        refine lv_iload_n hx hb dX4_tries_20 rfl (lv_at hl 2 rfl) ?_
        refine lv_ishl hx hb dX4_tries_21 ?_
        refine go_l (wc := [(md 0, .inr (4, [.int (xt), .int (nI mi), .int (nI mo), .int (nI mw), .ref (md 1), .ref (md 2), .ref (md 3), .int (nI ni), .int (nI no), .ref (md 4), .ref (md 5), .ref (md 6), .int (nI ns), .ref (md 7), .ref (md 8), .int (nI nb), .int (nI wd), .ref (md 9), .long (tp), .long (bl), .long (wt), .long (wb)])), (md 7, aJ g 85 bd), (md 9, aI g 5 (fun j => nI (ch j)))]) (wr := [(md 8, aJ g 5 f), (md 6, aJ g 13000 sd)]) hP hD hS hA [0, 1, 2] [3, 4] rfl rfl rfl rfl (by decide) (fun hPc hDc => rn_V (As := [.int (nI 0), .int ((nI 1) <<< ((nI c1) &&& 31))]) (rest := [.int (nI c1), .ref (md 8)]) ⟨hx, hb, hml, hown, hts⟩ ((c_X4_detT l g md xt mi mo mw ni no ns nb wd tp bl wt wb bd ch ((nI 1) <<< ((nI c1) &&& 31)) (by omega) (by omega) hch) _) (cw_X4_tries_91_4_112 hts hN ⟨Nat.le_of_ble_eq_true rfl, Nat.le_of_ble_eq_true rfl⟩) hK hN hPc hDc 0 rfl rfl rfl rfl hl.1 (Nat.le_of_ble_eq_true rfl) dX4_tries_22 ⟨Nat.le_of_ble_eq_true rfl, Nat.le_of_ble_eq_true rfl⟩) ?_
        intro r_21 u_22 H locs h_23 hP hD hS
        have hP : va_P g.1 vwCl [(md 0, .inr (4, [.int (xt), .int (nI mi), .int (nI mo), .int (nI mw), .ref (md 1), .ref (md 2), .ref (md 3), .int (nI ni), .int (nI no), .ref (md 4), .ref (md 5), .ref (md 6), .int (nI ns), .ref (md 7), .ref (md 8), .int (nI nb), .int (nI wd), .ref (md 9), .long (tp), .long (bl), .long (wt), .long (wb)])), (md 7, aJ g 85 bd), (md 9, aI g 5 (fun j => nI (ch j))), (md 8, aJ g 5 f), (md 6, aJ g 13000 sd)] H := hP.sub [2, 3, 4, 0, 1] rfl
        have hD : va_D A [(md 0, .inr (4, [.int (xt), .int (nI mi), .int (nI mo), .int (nI mw), .ref (md 1), .ref (md 2), .ref (md 3), .int (nI ni), .int (nI no), .ref (md 4), .ref (md 5), .ref (md 6), .int (nI ns), .ref (md 7), .ref (md 8), .int (nI nb), .int (nI wd), .ref (md 9), .long (tp), .long (bl), .long (wt), .long (wb)])), (md 7, aJ g 85 bd), (md 9, aI g 5 (fun j => nI (ch j))), (md 8, aJ g 5 f), (md 6, aJ g 13000 sd)] := hD.sub [2, 3, 4, 0, 1] rfl rfl
        have h_23 : r_21 = dtF bd ch wd (wd - 1) 0 ((nI 1) <<< ((nI c1) &&& 31)) := h_23
        subst h_23
        refine lv_iload_n hx hb dX4_tries_25 rfl (lv_at hl 2 rfl) ?_
        refine lv_iconst (v := nI 2) hx hb dX4_tries_26 (by decide) ?_
        refine lv_irem hx hb dX4_tries_27 (by decide) ?_
        refine k_ei (y := nI (c1 % 2)) (pk_rem (by omega) (by decide) (by decide)) ?_
        have lp_36 : ∀ (sv : Int32), sv.toInt64 = sgC c1 → ∀ (H : Heap) (locs : List Loc), va_P g.1 vwCl [(md 0, .inr (4, [.int (xt), .int (nI mi), .int (nI mo), .int (nI mw), .ref (md 1), .ref (md 2), .ref (md 3), .int (nI ni), .int (nI no), .ref (md 4), .ref (md 5), .ref (md 6), .int (nI ns), .ref (md 7), .ref (md 8), .int (nI nb), .int (nI wd), .ref (md 9), .long (tp), .long (bl), .long (wt), .long (wb)])), (md 7, aJ g 85 bd), (md 9, aI g 5 (fun j => nI (ch j))), (md 8, aJ g 5 f), (md 6, aJ g 13000 sd)] H → va_D A [(md 0, .inr (4, [.int (xt), .int (nI mi), .int (nI mo), .int (nI mw), .ref (md 1), .ref (md 2), .ref (md 3), .int (nI ni), .int (nI no), .ref (md 4), .ref (md 5), .ref (md 6), .int (nI ns), .ref (md 7), .ref (md 8), .int (nI nb), .int (nI wd), .ref (md 9), .long (tp), .long (bl), .long (wt), .long (wb)])), (md 7, aJ g 85 bd), (md 9, aI g 5 (fun j => nI (ch j))), (md 8, aJ g 5 f), (md 6, aJ g 13000 sd)] → va_S A s.heap H locs → ∀ ls : Array Slot, lv_has ls 4 [(0, .ref (md 0)), (1, .long (gv)), (3, .int (nI c1))] → W p l e { frames := 5, cells := 0, slots := 0, locals := 140 } s m args below meth c H locs 0 0 Q (F0 m 36 ls [.int (sv), .long (dtF bd ch wd (wd - 1) 0 ((nI 1) <<< ((nI c1) &&& 31))), .int (nI c1), .ref (md 8)]) := by
          intro sv hsv H locs hP hD hS ls hl
          refine lv_i2l hx hb dX4_tries_36 rfl ?_
          refine k_el (y := sgC c1) (hsv) ?_
          refine lv_lmul hx hb dX4_tries_37 ?_
          refine k_el (y := trV bd ch wd c1) (rfl) ?_
          refine k_last hx hb hK hP hD hS 3 rfl (by omega) (by omega) dX4_tries_38 (fun H locs hP hD hS => ?_)
          have hP : va_P g.1 vwCl [(md 0, .inr (4, [.int (xt), .int (nI mi), .int (nI mo), .int (nI mw), .ref (md 1), .ref (md 2), .ref (md 3), .int (nI ni), .int (nI no), .ref (md 4), .ref (md 5), .ref (md 6), .int (nI ns), .ref (md 7), .ref (md 8), .int (nI nb), .int (nI wd), .ref (md 9), .long (tp), .long (bl), .long (wt), .long (wb)])), (md 7, aJ g 85 bd), (md 9, aI g 5 (fun j => nI (ch j))), (md 8, aJ g 5 (vp_updL f c1 (trV bd ch wd c1))), (md 6, aJ g 13000 sd)] H := hP
          have hD : va_D A [(md 0, .inr (4, [.int (xt), .int (nI mi), .int (nI mo), .int (nI mw), .ref (md 1), .ref (md 2), .ref (md 3), .int (nI ni), .int (nI no), .ref (md 4), .ref (md 5), .ref (md 6), .int (nI ns), .ref (md 7), .ref (md 8), .int (nI nb), .int (nI wd), .ref (md 9), .long (tp), .long (bl), .long (wt), .long (wb)])), (md 7, aJ g 85 bd), (md 9, aI g 5 (fun j => nI (ch j))), (md 8, aJ g 5 (vp_updL f c1 (trV bd ch wd c1))), (md 6, aJ g 13000 sd)] := hD
          refine lv_lload_n hx hb dX4_tries_39 rfl (lv_at hl 1 rfl) ?_
          refine lv_aload_n hx hb dX4_tries_40 rfl (lv_at hl 0 rfl) ?_
          refine k_get hx hb hts hown hK hP iw_X4_tries_X4 rfl 0 14 fm_X4_tries_40 (by decide) rfl rfl dX4_tries_41 ?_
          refine lv_iload_n hx hb dX4_tries_44 rfl (lv_at hl 2 rfl) ?_
          refine k_lald hx hb hK hP 3 rfl (by omega) (by omega) dX4_tries_45 ?_
          refine k_el (y := trV bd ch wd c1) (pk_uLs) ?_
          refine go_l (wc := []) (wr := [(md 0, .inr (4, [.int (xt), .int (nI mi), .int (nI mo), .int (nI mw), .ref (md 1), .ref (md 2), .ref (md 3), .int (nI ni), .int (nI no), .ref (md 4), .ref (md 5), .ref (md 6), .int (nI ns), .ref (md 7), .ref (md 8), .int (nI nb), .int (nI wd), .ref (md 9), .long (tp), .long (bl), .long (wt), .long (wb)])), (md 7, aJ g 85 bd), (md 9, aI g 5 (fun j => nI (ch j))), (md 8, aJ g 5 (vp_updL f c1 (trV bd ch wd c1))), (md 6, aJ g 13000 sd)]) hP hD hS hA [] [0, 1, 2, 3, 4] rfl rfl rfl rfl (by decide) (fun hPc hDc => rn_S (As := [.long (gv), .long (trV bd ch wd c1)]) (rest := []) ⟨hx, hb, hml, hown, hts⟩ ((c_X4_common l g gv (trV bd ch wd c1) ) _) (cw_X4_tries_101_1_40 hts hN ⟨Nat.le_of_ble_eq_true rfl, Nat.le_of_ble_eq_true rfl⟩) hK hN hPc hDc rfl rfl hl.1 (Nat.le_of_ble_eq_true rfl) dX4_tries_46 ⟨Nat.le_of_ble_eq_true rfl, Nat.le_of_ble_eq_true rfl⟩) ?_
          intro r_24 u_25 H locs h_26 hP hD hS
          have hP : va_P g.1 vwCl [(md 0, .inr (4, [.int (xt), .int (nI mi), .int (nI mo), .int (nI mw), .ref (md 1), .ref (md 2), .ref (md 3), .int (nI ni), .int (nI no), .ref (md 4), .ref (md 5), .ref (md 6), .int (nI ns), .ref (md 7), .ref (md 8), .int (nI nb), .int (nI wd), .ref (md 9), .long (tp), .long (bl), .long (wt), .long (wb)])), (md 7, aJ g 85 bd), (md 9, aI g 5 (fun j => nI (ch j))), (md 8, aJ g 5 (vp_updL f c1 (trV bd ch wd c1))), (md 6, aJ g 13000 sd)] H := hP.sub [0, 1, 2, 3, 4] rfl
          have hD : va_D A [(md 0, .inr (4, [.int (xt), .int (nI mi), .int (nI mo), .int (nI mw), .ref (md 1), .ref (md 2), .ref (md 3), .int (nI ni), .int (nI no), .ref (md 4), .ref (md 5), .ref (md 6), .int (nI ns), .ref (md 7), .ref (md 8), .int (nI nb), .int (nI wd), .ref (md 9), .long (tp), .long (bl), .long (wt), .long (wb)])), (md 7, aJ g 85 bd), (md 9, aI g 5 (fun j => nI (ch j))), (md 8, aJ g 5 (vp_updL f c1 (trV bd ch wd c1))), (md 6, aJ g 13000 sd)] := hD.sub [0, 1, 2, 3, 4] rfl rfl
          have h_26 : r_24 = cmD gv (trV bd ch wd c1) := h_26
          subst h_26
          refine lv_lstore_n (lv' := [(1, .long (cmD gv (trV bd ch wd c1))), (0, .ref (md 0)), (3, .int (nI c1))]) hx hb dX4_tries_49 rfl hl (by decide) rfl (fun ls hl => ?_)
          refine lv_iinc (v := nI (c1 + 1)) (lv' := [(3, .int (nI (c1 + 1))), (1, .long (cmD gv (trV bd ch wd c1))), (0, .ref (md 0))]) hx hb dX4_tries_50 hl (k := 2) rfl (nI_inc1 c1) (by decide) rfl (fun ls hl => ?_)
          refine lv_goto (tgt := 4) hx hb dX4_tries_53 (by decide) ?_
          exact ih_4 (vp_updL f c1 (trV bd ch wd c1)) (cmD gv (trV bd ch wd c1)) (c1 + 1) (by omega) (by omega) (by rw [hv, show wd - c1 = (wd - (c1 + 1)) + 1 by omega, trW]) _ _ hP hD hS ls (lv_sub hl [2, 1, 0] rfl)
        refine lv_if_ne (tgt := 35) hx hb dX4_tries_28 (by decide) (fun c_27 => ?_) (fun c_27 => ?_)
        · skip
          have c_27 := mt (nI_eq0 (by omega)).mpr c_27
          have hsv : (-1 : Int32).toInt64 = sgC c1 := (if_neg c_27).symm
          refine lv_iconst (v := -1) hx hb dX4_tries_35 (by decide) ?_
          exact lp_36 (-1) hsv _ _ hP hD hS ls (lv_sub hl [0, 1, 2] rfl)
        · skip
          have c_27 := (nI_eq0 (by omega)).mp c_27
          have hsv : (nI 1).toInt64 = sgC c1 := (if_pos c_27).symm
          refine lv_iconst (v := nI 1) hx hb dX4_tries_31 (by decide) ?_
          refine lv_goto (tgt := 36) hx hb dX4_tries_32 (by decide) ?_
          exact lp_36 (nI 1) hsv _ _ hP hD hS ls (lv_sub hl [0, 1, 2] rfl)
  exact lp_4 (wd - 0 + 1) wy 0 0 (by omega) (by omega) rfl _ _ hP hD hS ls (lv_sub hl [2, 1, 0] rfl)
