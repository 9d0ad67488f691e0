def updN (f : Nat → Nat) (k x : Nat) : Nat → Nat := fun j => if j = k then x else f j
theorem updN_nI (f : Nat → Nat) (k x : Nat) : upd (fun j => nI (f j)) k (nI x) = fun j => nI (updN f k x j) := by
  funext j
  unfold upd updN
  split <;> rfl
/-- binomials -/
def bnm : Nat → Nat → Nat
  | _, 0 => 1
  | 0, _ + 1 => 0
  | n + 1, d + 1 => bnm n d + bnm n (d + 1)
abbrev CT : Type := (Nat → Nat) × TS
def chG (rec : Nat → Nat → CT → CT) (many b : Nat) : Nat → CT → CT
  | 0, q => q
  | n + 1, q => chG rec many (b + 1) n (rec (many + 1) (b + 1) (updN q.1 many b, q.2))
/-- all choices of d bounds more, from one on -/
def chF (bd : Nat → Int64) (nb wd t : Nat) : Nat → Nat → Nat → CT → CT
  | 0, _, _, q => (q.1, trF bd q.1 nb wd t q.2)
  | d + 1, many, b, q => chG (fun m f z => chF bd nb wd t d m f z) many b (nb - b) q
theorem chF_ns (bd : Nat → Int64) (nb wd t : Nat) : ∀ (d many b : Nat) (q : CT), (chF bd nb wd t d many b q).2.2.2 ≤ q.2.2.2 + bnm (nb - b) d
  | 0, many, b, q => by
    have h := trF_le bd q.1 nb wd t q.2
    have e : bnm (nb - b) 0 = 1 := by cases nb - b <;> rfl
    rw [e]
    exact h
  | d + 1, many, b, q => by
    rw [chF]
    have key : ∀ (n b : Nat) (q : CT), n = nb - b → (chG (fun m f z => chF bd nb wd t d m f z) many b n q).2.2.2 ≤ q.2.2.2 + bnm n (d + 1) := by
      intro n
      induction n with
      | zero => intro b q _; exact Nat.le_add_right _ _
      | succ n ih =>
        intro b q hn
        rw [chG, bnm]
        have h1 := ih (b + 1) (chF bd nb wd t d (many + 1) (b + 1) (updN q.1 many b, q.2)) (by omega)
        have h2 := chF_ns bd nb wd t d (many + 1) (b + 1) (updN q.1 many b, q.2)
        rw [show nb - (b + 1) = n by omega] at h2
        simp only at h2
        omega
    exact key (nb - b) b q rfl
theorem chF_ch (bd : Nat → Int64) (nb wd t : Nat) : ∀ (d many b : Nat) (q : CT) (j : Nat), j < many → (chF bd nb wd t d many b q).1 j = q.1 j
  | 0, _, _, _, _, _ => rfl
  | d + 1, many, b, q, j, hj => by
    rw [chF]
    have key : ∀ (n b : Nat) (q : CT), (chG (fun m f z => chF bd nb wd t d m f z) many b n q).1 j = q.1 j := by
      intro n
      induction n with
      | zero => intro b q; rfl
      | succ n ih =>
        intro b q
        rw [chG, ih, chF_ch bd nb wd t d (many + 1) (b + 1) _ j (by omega)]
        show updN q.1 many b j = q.1 j
        unfold updN
        rw [if_neg (by omega)]
    exact key (nb - b) b q
theorem bnm_mono : ∀ (d n m : Nat), n ≤ m → bnm n d ≤ bnm m d
  | 0, n, m, _ => by cases n <;> cases m <;> exact Nat.le_refl _
  | d + 1, 0, m, _ => Nat.zero_le _
  | d + 1, n + 1, 0, h => absurd h (by omega)
  | d + 1, n + 1, m + 1, h => by
    rw [bnm, bnm]
    have h1 := bnm_mono d n m (by omega)
    have h2 := bnm_mono (d + 1) n m (by omega)
    omega
theorem bnm_17 (d n : Nat) (hd : d ≤ 4) (hn : n ≤ 17) : bnm n d ≤ 2380 := by
  refine Nat.le_trans (bnm_mono d n 17 hn) ?_
  rcases (show d = 0 ∨ d = 1 ∨ d = 2 ∨ d = 3 ∨ d = 4 by omega) with rfl | rfl | rfl | rfl | rfl <;> decide
/-- all sides of a view -/
def asF (bd : Nat → Int64) (nb wd t : Nat) (q : CT) : CT := chF bd nb wd t (wd - 1) 0 0 (q.1, q.2.1, q.2.2.1, 0)
theorem iw_X4_choose_X4 : ∀ w ∈ wsX40, w ∈ wsX4_choose := fun w h => List.mem_cons_of_mem _ (List.mem_append_right _ h)
theorem fm_X4_choose_70 : Cond.fieldLink RX4 70 "EdgeBenchModel" "wide" "I" ∈ wsX4_choose := List.mem_of_getElem? (i := 1) rfl
theorem hdn_X4_tries : yX4_tries.cls ≠ "java/lang/invoke/MethodHandle" ∧ yX4_tries.cls ≠ "java/lang/invoke/VarHandle" ∧ (parseMethodDescriptor yX4_tries.desc).map (fun d => d.parameters.length) = some 0 := by decide +kernel
theorem cw_X4_choose_88_5_140 {R : Room} {s : State} {args : Array Value} (hts : ∀ w ∈ wsX4_choose, w.before args s = true) (hN : nsW s) (hR : 5 + 1 ≤ R.frames ∧ 8 + (4 + 11) + 140 ≤ R.locals) : CallW R s args RX4 RX4 88 yX4_tries cX4_tries 4 none wsX4_tries { frames := 5, cells := 0, slots := 0, locals := 140 } 0 0 0 := cwV 0 hts gX4_choose_X4_tries rfl rfl rfl ⟨rfl, hdn_X4_tries⟩ hR
set_option maxHeartbeats 20000000 in
set_option maxRecDepth 100000 in
theorem c_X4_cho0 (l : Launch) (g : Gt) (md : Nat → Nat) (xt : Int32) (mi : Nat) (mo : Nat) (mw : Nat) (ni : Nat) (no : Nat) (ns : Nat) (nb : Nat) (wd : Nat) (tp : Int64) (bl : Int64) (wt : Int64) (wb : Int64) (bd : Nat → Int64) (ch : Nat → Nat) (wy : Nat → Int64) (sd : Nat → Int64) (many : Nat) (fr : Nat) (hm : many + 0 + 1 = wd) (hfr2 : fr ≤ 17) (hns : ns + bnm (nb - fr) 0 ≤ 2600) (hni : ni ≤ 2) (hno : no ≤ 2) (hw2 : 2 ≤ wd) (hwd : wd ≤ 5) (hnb : nb ≤ 17) (hch : ∀ j : Nat, j < many → ch j < 17) : CV l yX4_choose wsX4_choose { frames := 6, cells := 0, slots := 0, locals := 163 } g [.ref (md 0), .int (nI many), .int (nI fr)] [(md 0, .inr (4, [.int (xt), .int (nI mi), .int (nI mo), .int (nI mw), .ref (md 1), .ref (md 2), .ref (md 3), .int (nI ni), .int (nI no), .ref (md 4), .ref (md 5), .ref (md 6), .int (nI ns), .ref (md 7), .ref (md 8), .int (nI nb), .int (nI wd), .ref (md 9), .long (tp), .long (bl), .long (wt), .long (wb)])), (md 7, aJ g 85 bd), (md 9, aI g 5 (fun j => nI (ch j))), (md 8, aJ g 5 wy), (md 6, aJ g 13000 sd)] (fun (zu : Unit) => True) (fun (zu : Unit) => [(md 0, .inr (4, [.int (xt), .int (nI mi), .int (nI mo), .int (nI mw), .ref (md 1), .ref (md 2), .ref (md 3), .int (nI ni), .int (nI no), .ref (md 4), .ref (md 5), .ref (md 6), .int (nI ((chF bd nb wd (ni + no) 0 many fr (ch, wy, sd, ns)).2.2.2)), .ref (md 7), .ref (md 8), .int (nI nb), .int (nI wd), .ref (md 9), .long (tp), .long (bl), .long (wt), .long (wb)])), (md 7, aJ g 85 bd), (md 9, aI g 5 (fun j => nI (((chF bd nb wd (ni + no) 0 many fr (ch, wy, sd, ns)).1) j))), (md 8, aJ g 5 ((chF bd nb wd (ni + no) 0 many fr (ch, wy, sd, ns)).2.1)), (md 6, aJ g 13000 ((chF bd nb wd (ni + no) 0 many fr (ch, wy, sd, ns)).2.2.1))]) 0 0 := by
  refine ent_v (cc := cX4_choose) (maxL := 4) (by decide) rfl (Nat.le_of_ble_eq_true rfl) ?_
  intro p e s m below meth c A args Q hE ret ls hl
  obtain ⟨hx, hb, hml, hown, hts, hnm, hA, hP, hD, hK, hN⟩ := hE
  have hS : va_S A s.heap s.heap [] := va_S.rf
  have hl : lv_has ls 4 [(0, .ref (md 0)), (1, .int (nI many)), (2, .int (nI fr))] := hl
  have hP : va_P g.1 vwCl [(md 0, .inr (4, [.int (xt), .int (nI mi), .int (nI mo), .int (nI mw), .ref (md 1), .ref (md 2), .ref (md 3), .int (nI ni), .int (nI no), .ref (md 4), .ref (md 5), .ref (md 6), .int (nI ns), .ref (md 7), .ref (md 8), .int (nI nb), .int (nI wd), .ref (md 9), .long (tp), .long (bl), .long (wt), .long (wb)])), (md 7, aJ g 85 bd), (md 9, aI g 5 (fun j => nI (ch j))), (md 8, aJ g 5 wy), (md 6, aJ g 13000 sd)] s.heap := hP
  have hb0 : bnm (nb - fr) 0 = 1 := by cases nb - fr <;> rfl
  rw [hb0] at hns
  refine lv_iload_n hx hb dX4_choose_0 rfl (lv_at hl 1 rfl) ?_
  refine lv_aload_n hx hb dX4_choose_1 rfl (lv_at hl 0 rfl) ?_
  refine k_get hx hb hts hown hK hP iw_X4_choose_X4 rfl 0 16 fm_X4_choose_70 (by decide) rfl rfl dX4_choose_2 ?_
  refine lv_iconst (v := nI 1) hx hb dX4_choose_5 (by decide) ?_
  refine lv_isub hx hb dX4_choose_6 ?_
  refine k_ei (y := nI (wd - 1)) (pk_sub (by omega)) ?_
  refine lv_icmp_ne (tgt := 15) hx hb dX4_choose_7 (by decide) (fun c_1 => ?_) (fun c_1 => ?_)
  · skip
    have c_1 := mt (nI_eq (by omega) (by omega)).mpr c_1
    omega
  · skip
    have c_1 := (nI_eq (by omega) (by omega)).mp c_1
    refine lv_aload_n hx hb dX4_choose_10 rfl (lv_at hl 0 rfl) ?_
    refine go_v (wc := [(md 0, .inr (4, [.int (xt), .int (nI mi), .int (nI mo), .int (nI mw), .ref (md 1), .ref (md 2), .ref (md 3), .int (nI ni), .int (nI no), .ref (md 4), .ref (md 5), .ref (md 6), .int (nI ns), .ref (md 7), .ref (md 8), .int (nI nb), .int (nI wd), .ref (md 9), .long (tp), .long (bl), .long (wt), .long (wb)])), (md 7, aJ g 85 bd), (md 9, aI g 5 (fun j => nI (ch j))), (md 8, aJ g 5 wy), (md 6, aJ g 13000 sd)]) (wr := []) hP hD hS hA [0, 1, 2, 3, 4] [] rfl rfl rfl rfl (by decide) (fun hPc hDc => rn_V (As := []) (rest := []) ⟨hx, hb, hml, hown, hts⟩ ((c_X4_tries l g md xt mi mo mw ni no ns nb wd tp bl wt wb bd ch wy sd (by omega) (by omega) (by omega) (by omega) (by omega) (by omega) (fun j hj => hch j (by omega))) _) (cw_X4_choose_88_5_140 hts hN ⟨Nat.le_of_ble_eq_true rfl, Nat.le_of_ble_eq_true rfl⟩) hK hN hPc hDc 0 rfl rfl rfl rfl hl.1 (Nat.le_of_ble_eq_true rfl) dX4_choose_11 ⟨Nat.le_of_ble_eq_true rfl, Nat.le_of_ble_eq_true rfl⟩) ?_
    intro u_3 H locs h_4 hP hD hS
    have hP : va_P g.1 vwCl [(md 0, .inr (4, [.int (xt), .int (nI mi), .int (nI mo), .int (nI mw), .ref (md 1), .ref (md 2), .ref (md 3), .int (nI ni), .int (nI no), .ref (md 4), .ref (md 5), .ref (md 6), .int (nI ((trF bd ch nb wd (ni + no) (wy, sd, ns)).2.2)), .ref (md 7), .ref (md 8), .int (nI nb), .int (nI wd), .ref (md 9), .long (tp), .long (bl), .long (wt), .long (wb)])), (md 7, aJ g 85 bd), (md 9, aI g 5 (fun j => nI (ch j))), (md 8, aJ g 5 ((trF bd ch nb wd (ni + no) (wy, sd, ns)).1)), (md 6, aJ g 13000 ((trF bd ch nb wd (ni + no) (wy, sd, ns)).2.1))] H := hP.sub [0, 1, 2, 3, 4] rfl
    have hD : va_D A [(md 0, .inr (4, [.int (xt), .int (nI mi), .int (nI mo), .int (nI mw), .ref (md 1), .ref (md 2), .ref (md 3), .int (nI ni), .int (nI no), .ref (md 4), .ref (md 5), .ref (md 6), .int (nI ((trF bd ch nb wd (ni + no) (wy, sd, ns)).2.2)), .ref (md 7), .ref (md 8), .int (nI nb), .int (nI wd), .ref (md 9), .long (tp), .long (bl), .long (wt), .long (wb)])), (md 7, aJ g 85 bd), (md 9, aI g 5 (fun j => nI (ch j))), (md 8, aJ g 5 ((trF bd ch nb wd (ni + no) (wy, sd, ns)).1)), (md 6, aJ g 13000 ((trF bd ch nb wd (ni + no) (wy, sd, ns)).2.1))] := hD.sub [0, 1, 2, 3, 4] rfl rfl
    exact ret dX4_choose_14 () (trivial) hP hD hS
theorem fm_X4_choose_73 : Cond.fieldLink RX4 73 "EdgeBenchModel" "bounds" "I" ∈ wsX4_choose := List.mem_of_getElem? (i := 2) rfl
theorem fm_X4_choose_43 : Cond.fieldLink RX4 43 "EdgeBenchModel" "chosen" "[I" ∈ wsX4_choose := List.mem_of_getElem? (i := 3) rfl
theorem hdn_X4_choose : yX4_choose.cls ≠ "java/lang/invoke/MethodHandle" ∧ yX4_choose.cls ≠ "java/lang/invoke/VarHandle" ∧ (parseMethodDescriptor yX4_choose.desc).map (fun d => d.parameters.length) = some 2 := by decide +kernel
theorem cw_X4_choose_84_6_163 {R : Room} {s : State} {args : Array Value} (hts : ∀ w ∈ wsX4_choose, w.before args s = true) (hN : nsW s) (hR : 6 + 1 ≤ R.frames ∧ 8 + (4 + 11) + 163 ≤ R.locals) : CallW R s args RX4 RX4 84 yX4_choose cX4_choose 4 none wsX4_choose { frames := 6, cells := 0, slots := 0, locals := 163 } 0 0 2 := cwV 2 hts gX4_choose_X4_choose rfl rfl rfl ⟨rfl, hdn_X4_choose⟩ hR
set_option maxHeartbeats 20000000 in
set_option maxRecDepth 100000 in
theorem c_X4_cho1 (l : Launch) (g : Gt) (md : Nat → Nat) (xt : Int32) (mi : Nat) (mo : Nat) (mw : Nat) (ni : Nat) (no : Nat) (ns : Nat) (nb : Nat) (wd : Nat) (tp : Int64) (bl : Int64) (wt : Int64) (wb : Int64) (bd : Nat → Int64) (ch : Nat → Nat) (wy : Nat → Int64) (sd : Nat → Int64) (many : Nat) (fr : Nat) (hm : many + 1 + 1 = wd) (hfr2 : fr ≤ 17) (hns : ns + bnm (nb - fr) 1 ≤ 2600) (hni : ni ≤ 2) (hno : no ≤ 2) (hw2 : 2 ≤ wd) (hwd : wd ≤ 5) (hnb : nb ≤ 17) (hch : ∀ j : Nat, j < many → ch j < 17) : CV l yX4_choose wsX4_choose { frames := 7, cells := 0, slots := 0, locals := 186 } g [.ref (md 0), .int (nI many), .int (nI fr)] [(md 0, .inr (4, [.int (xt), .int (nI mi), .int (nI mo), .int (nI mw), .ref (md 1), .ref (md 2), .ref (md 3), .int (nI ni), .int (nI no), .ref (md 4), .ref (md 5), .ref (md 6), .int (nI ns), .ref (md 7), .ref (md 8), .int (nI nb), .int (nI wd), .ref (md 9), .long (tp), .long (bl), .long (wt), .long (wb)])), (md 7, aJ g 85 bd), (md 9, aI g 5 (fun j => nI (ch j))), (md 8, aJ g 5 wy), (md 6, aJ g 13000 sd)] (fun (zu : Unit) => True) (fun (zu : Unit) => [(md 0, .inr (4, [.int (xt), .int (nI mi), .int (nI mo), .int (nI mw), .ref (md 1), .ref (md 2), .ref (md 3), .int (nI ni), .int (nI no), .ref (md 4), .ref (md 5), .ref (md 6), .int (nI ((chF bd nb wd (ni + no) 1 many fr (ch, wy, sd, ns)).2.2.2)), .ref (md 7), .ref (md 8), .int (nI nb), .int (nI wd), .ref (md 9), .long (tp), .long (bl), .long (wt), .long (wb)])), (md 7, aJ g 85 bd), (md 9, aI g 5 (fun j => nI (((chF bd nb wd (ni + no) 1 many fr (ch, wy, sd, ns)).1) j))), (md 8, aJ g 5 ((chF bd nb wd (ni + no) 1 many fr (ch, wy, sd, ns)).2.1)), (md 6, aJ g 13000 ((chF bd nb wd (ni + no) 1 many fr (ch, wy, sd, ns)).2.2.1))]) 0 0 := by
  refine ent_v (cc := cX4_choose) (maxL := 4) (by decide) rfl (Nat.le_of_ble_eq_true rfl) ?_
  intro p e s m below meth c A args Q hE ret ls hl
  obtain ⟨hx, hb, hml, hown, hts, hnm, hA, hP, hD, hK, hN⟩ := hE
  have hS : va_S A s.heap s.heap [] := va_S.rf
  have hl : lv_has ls 4 [(0, .ref (md 0)), (1, .int (nI many)), (2, .int (nI fr))] := hl
  have hP : va_P g.1 vwCl [(md 0, .inr (4, [.int (xt), .int (nI mi), .int (nI mo), .int (nI mw), .ref (md 1), .ref (md 2), .ref (md 3), .int (nI ni), .int (nI no), .ref (md 4), .ref (md 5), .ref (md 6), .int (nI ns), .ref (md 7), .ref (md 8), .int (nI nb), .int (nI wd), .ref (md 9), .long (tp), .long (bl), .long (wt), .long (wb)])), (md 7, aJ g 85 bd), (md 9, aI g 5 (fun j => nI (ch j))), (md 8, aJ g 5 wy), (md 6, aJ g 13000 sd)] s.heap := hP
  refine lv_iload_n hx hb dX4_choose_0 rfl (lv_at hl 1 rfl) ?_
  refine lv_aload_n hx hb dX4_choose_1 rfl (lv_at hl 0 rfl) ?_
  refine k_get hx hb hts hown hK hP iw_X4_choose_X4 rfl 0 16 fm_X4_choose_70 (by decide) rfl rfl dX4_choose_2 ?_
  refine lv_iconst (v := nI 1) hx hb dX4_choose_5 (by decide) ?_
  refine lv_isub hx hb dX4_choose_6 ?_
  refine k_ei (y := nI (wd - 1)) (pk_sub (by omega)) ?_
  refine lv_icmp_ne (tgt := 15) hx hb dX4_choose_7 (by decide) (fun c_1 => ?_) (fun c_1 => ?_)
  · skip
    have c_1 := mt (nI_eq (by omega) (by omega)).mpr c_1
    refine lv_iload_n hx hb dX4_choose_15 rfl (lv_at hl 2 rfl) ?_
    refine lv_istore_n (lv' := [(3, .int (nI fr)), (0, .ref (md 0)), (1, .int (nI many)), (2, .int (nI fr))]) hx hb dX4_choose_16 rfl hl (by decide) rfl (fun ls hl => ?_)
    have lp_17 : ∀ (n : Nat) (b : Nat) (c2 : Nat → Nat) (w2 : Nat → Int64) (s2 : Nat → Int64) (n2 : Nat), nb - b < n → b ≤ 17 → fr ≤ b → n2 + bnm (nb - b) 1 ≤ 2600 → (∀ j : Nat, j < many → c2 j < 17) → chF bd nb wd (ni + no) 1 many fr (ch, wy, sd, ns) = chG (fun m f z => chF bd nb wd (ni + no) 0 m f z) many b (nb - b) (c2, w2, s2, n2) → ∀ (H : Heap) (locs : List Loc), va_P g.1 vwCl [(md 0, .inr (4, [.int (xt), .int (nI mi), .int (nI mo), .int (nI mw), .ref (md 1), .ref (md 2), .ref (md 3), .int (nI ni), .int (nI no), .ref (md 4), .ref (md 5), .ref (md 6), .int (nI n2), .ref (md 7), .ref (md 8), .int (nI nb), .int (nI wd), .ref (md 9), .long (tp), .long (bl), .long (wt), .long (wb)])), (md 7, aJ g 85 bd), (md 9, aI g 5 (fun j => nI (c2 j))), (md 8, aJ g 5 w2), (md 6, aJ g 13000 s2)] H → va_D A [(md 0, .inr (4, [.int (xt), .int (nI mi), .int (nI mo), .int (nI mw), .ref (md 1), .ref (md 2), .ref (md 3), .int (nI ni), .int (nI no), .ref (md 4), .ref (md 5), .ref (md 6), .int (nI n2), .ref (md 7), .ref (md 8), .int (nI nb), .int (nI wd), .ref (md 9), .long (tp), .long (bl), .long (wt), .long (wb)])), (md 7, aJ g 85 bd), (md 9, aI g 5 (fun j => nI (c2 j))), (md 8, aJ g 5 w2), (md 6, aJ g 13000 s2)] → va_S A s.heap H locs → ∀ ls : Array Slot, lv_has ls 4 [(0, .ref (md 0)), (1, .int (nI many)), (2, .int (nI fr)), (3, .int (nI b))] → W p l e { frames := 7, cells := 0, slots := 0, locals := 186 } s m args below meth c H locs 0 0 Q (F0 m 17 ls []) := by
      intro n
      induction n with
      | zero =>
        intro b c2 w2 s2 n2 hms
        omega
      | succ n ih_17 =>
        intro b c2 w2 s2 n2 hms_17 hb3 hb4 hn2 hc2 hv H locs hP hD hS ls hl
        refine lv_iload_n hx hb dX4_choose_17 rfl (lv_at hl 3 rfl) ?_
        refine lv_aload_n hx hb dX4_choose_18 rfl (lv_at hl 0 rfl) ?_
        refine k_get hx hb hts hown hK hP iw_X4_choose_X4 rfl 0 15 fm_X4_choose_73 (by decide) rfl rfl dX4_choose_19 ?_
        refine lv_icmp_ge (tgt := 48) hx hb dX4_choose_22 (by decide) (fun c_2 => ?_) (fun c_2 => ?_)
        · skip
          have c_2 := (nI_leI (by omega) (by omega)).mp c_2
          have hfin : chF bd nb wd (ni + no) 1 many fr (ch, wy, sd, ns) = (c2, w2, s2, n2) := by rw [hv, show nb - b = 0 by omega]; rfl
          have hP : va_P g.1 vwCl [(md 0, .inr (4, [.int (xt), .int (nI mi), .int (nI mo), .int (nI mw), .ref (md 1), .ref (md 2), .ref (md 3), .int (nI ni), .int (nI no), .ref (md 4), .ref (md 5), .ref (md 6), .int (nI ((chF bd nb wd (ni + no) 1 many fr (ch, wy, sd, ns)).2.2.2)), .ref (md 7), .ref (md 8), .int (nI nb), .int (nI wd), .ref (md 9), .long (tp), .long (bl), .long (wt), .long (wb)])), (md 7, aJ g 85 bd), (md 9, aI g 5 (fun j => nI (((chF bd nb wd (ni + no) 1 many fr (ch, wy, sd, ns)).1) j))), (md 8, aJ g 5 ((chF bd nb wd (ni + no) 1 many fr (ch, wy, sd, ns)).2.1)), (md 6, aJ g 13000 ((chF bd nb wd (ni + no) 1 many fr (ch, wy, sd, ns)).2.2.1))] H := by rw [hfin]; exact hP
          have hD : va_D A [(md 0, .inr (4, [.int (xt), .int (nI mi), .int (nI mo), .int (nI mw), .ref (md 1), .ref (md 2), .ref (md 3), .int (nI ni), .int (nI no), .ref (md 4), .ref (md 5), .ref (md 6), .int (nI ((chF bd nb wd (ni + no) 1 many fr (ch, wy, sd, ns)).2.2.2)), .ref (md 7), .ref (md 8), .int (nI nb), .int (nI wd), .ref (md 9), .long (tp), .long (bl), .long (wt), .long (wb)])), (md 7, aJ g 85 bd), (md 9, aI g 5 (fun j => nI (((chF bd nb wd (ni + no) 1 many fr (ch, wy, sd, ns)).1) j))), (md 8, aJ g 5 ((chF bd nb wd (ni + no) 1 many fr (ch, wy, sd, ns)).2.1)), (md 6, aJ g 13000 ((chF bd nb wd (ni + no) 1 many fr (ch, wy, sd, ns)).2.2.1))] := by rw [hfin]; exact hD
          exact ret dX4_choose_48 () (trivial) hP hD hS
        · skip
          have c_2 := mt (nI_leI (by omega) (by omega)).mpr c_2
          have hbb : bnm (nb - b) 1 = bnm (nb - (b + 1)) 0 + bnm (nb - (b + 1)) 1 := by rw [show nb - b = (nb - (b + 1)) + 1 by omega]; rfl
          have hq3 := chF_ns bd nb wd (ni + no) 0 (many + 1) (b + 1) (updN c2 many b, w2, s2, n2)
          have hn3 : (chF bd nb wd (ni + no) 0 (many + 1) (b + 1) (updN c2 many b, w2, s2, n2)).2.2.2 + bnm (nb - (b + 1)) 1 ≤ 2600 := by simp only at hq3; omega
          have hc4 : ∀ j : Nat, j < many + 1 → updN c2 many b j < 17 := fun j hj => by
            unfold updN
            split
            · omega
            · exact hc2 j (by omega)
          have hc3 : ∀ j : Nat, j < many → (chF bd nb wd (ni + no) 0 (many + 1) (b + 1) (updN c2 many b, w2, s2, n2)).1 j < 17 := fun j hj => by rw [chF_ch bd nb wd (ni + no) 0 (many + 1) (b + 1) _ j (by omega)]; exact hc4 j (by omega)
          have hv2 : chF bd nb wd (ni + no) 1 many fr (ch, wy, sd, ns) = chG (fun m f z => chF bd nb wd (ni + no) 0 m f z) many (b + 1) (nb - (b + 1)) (chF bd nb wd (ni + no) 0 (many + 1) (b + 1) (updN c2 many b, w2, s2, n2)) := by rw [hv, show nb - b = (nb - (b + 1)) + 1 by omega, chG]
          refine lv_aload_n hx hb dX4_choose_25 rfl (lv_at hl 0 rfl) ?_
          refine k_get hx hb hts hown hK hP iw_X4_choose_X4 rfl 0 17 fm_X4_choose_43 (by decide) rfl rfl dX4_choose_26 ?_
          refine lv_iload_n hx hb dX4_choose_29 rfl (lv_at hl 1 rfl) ?_
          refine lv_iload_n hx hb dX4_choose_30 rfl (lv_at hl 3 rfl) ?_
          refine k_iast hx hb hK hP hD hS 2 rfl (by omega) (by omega) dX4_choose_31 (fun H locs hP hD hS => ?_)
          have hP : va_P g.1 vwCl [(md 0, .inr (4, [.int (xt), .int (nI mi), .int (nI mo), .int (nI mw), .ref (md 1), .ref (md 2), .ref (md 3), .int (nI ni), .int (nI no), .ref (md 4), .ref (md 5), .ref (md 6), .int (nI n2), .ref (md 7), .ref (md 8), .int (nI nb), .int (nI wd), .ref (md 9), .long (tp), .long (bl), .long (wt), .long (wb)])), (md 7, aJ g 85 bd), (md 9, aI g 5 (upd (fun j => nI (c2 j)) many (nI b))), (md 8, aJ g 5 w2), (md 6, aJ g 13000 s2)] H := hP
          have hD : va_D A [(md 0, .inr (4, [.int (xt), .int (nI mi), .int (nI mo), .int (nI mw), .ref (md 1), .ref (md 2), .ref (md 3), .int (nI ni), .int (nI no), .ref (md 4), .ref (md 5), .ref (md 6), .int (nI n2), .ref (md 7), .ref (md 8), .int (nI nb), .int (nI wd), .ref (md 9), .long (tp), .long (bl), .long (wt), .long (wb)])), (md 7, aJ g 85 bd), (md 9, aI g 5 (upd (fun j => nI (c2 j)) many (nI b))), (md 8, aJ g 5 w2), (md 6, aJ g 13000 s2)] := hD
          have e_3 : upd (fun j => nI (c2 j)) many (nI b) = fun j => nI (updN c2 many b j) := updN_nI _ _ _
          rw [e_3] at hP hD
          refine lv_aload_n hx hb dX4_choose_32 rfl (lv_at hl 0 rfl) ?_
          refine lv_iload_n hx hb dX4_choose_33 rfl (lv_at hl 1 rfl) ?_
          refine lv_iconst (v := nI 1) hx hb dX4_choose_34 (by decide) ?_
          refine lv_iadd hx hb dX4_choose_35 ?_
          refine k_ei (y := nI (many + 1)) (nI_add _ _) ?_
          refine lv_iload_n hx hb dX4_choose_36 rfl (lv_at hl 3 rfl) ?_
          refine lv_iconst (v := nI 1) hx hb dX4_choose_37 (by decide) ?_
          refine lv_iadd hx hb dX4_choose_38 ?_
          refine k_ei (y := nI (b + 1)) (nI_add _ _) ?_
          refine go_v (wc := [(md 0, .inr (4, [.int (xt), .int (nI mi), .int (nI mo), .int (nI mw), .ref (md 1), .ref (md 2), .ref (md 3), .int (nI ni), .int (nI no), .ref (md 4), .ref (md 5), .ref (md 6), .int (nI n2), .ref (md 7), .ref (md 8), .int (nI nb), .int (nI wd), .ref (md 9), .long (tp), .long (bl), .long (wt), .long (wb)])), (md 7, aJ g 85 bd), (md 9, aI g 5 (fun j => nI (updN c2 many b j))), (md 8, aJ g 5 w2), (md 6, aJ g 13000 s2)]) (wr := []) hP hD hS hA [0, 1, 2, 3, 4] [] rfl rfl rfl rfl (by decide) (fun hPc hDc => rn_V (As := [.int (nI (many + 1)), .int (nI (b + 1))]) (rest := []) ⟨hx, hb, hml, hown, hts⟩ ((c_X4_cho0 l g md xt mi mo mw ni no n2 nb wd tp bl wt wb bd (updN c2 many b) w2 s2 (many + 1) (b + 1) (by omega) (by omega) (by omega) (by omega) (by omega) (by omega) (by omega) (by omega) hc4) _) (cw_X4_choose_84_6_163 hts hN ⟨Nat.le_of_ble_eq_true rfl, Nat.le_of_ble_eq_true rfl⟩) hK hN hPc hDc 0 rfl rfl rfl rfl hl.1 (Nat.le_of_ble_eq_true rfl) dX4_choose_39 ⟨Nat.le_of_ble_eq_true rfl, Nat.le_of_ble_eq_true rfl⟩) ?_
          intro u_5 H locs h_6 hP hD hS
          have hP : va_P g.1 vwCl [(md 0, .inr (4, [.int (xt), .int (nI mi), .int (nI mo), .int (nI mw), .ref (md 1), .ref (md 2), .ref (md 3), .int (nI ni), .int (nI no), .ref (md 4), .ref (md 5), .ref (md 6), .int (nI ((chF bd nb wd (ni + no) 0 (many + 1) (b + 1) ((updN c2 many b), w2, s2, n2)).2.2.2)), .ref (md 7), .ref (md 8), .int (nI nb), .int (nI wd), .ref (md 9), .long (tp), .long (bl), .long (wt), .long (wb)])), (md 7, aJ g 85 bd), (md 9, aI g 5 (fun j => nI (((chF bd nb wd (ni + no) 0 (many + 1) (b + 1) ((updN c2 many b), w2, s2, n2)).1) j))), (md 8, aJ g 5 ((chF bd nb wd (ni + no) 0 (many + 1) (b + 1) ((updN c2 many b), w2, s2, n2)).2.1)), (md 6, aJ g 13000 ((chF bd nb wd (ni + no) 0 (many + 1) (b + 1) ((updN c2 many b), w2, s2, n2)).2.2.1))] H := hP.sub [0, 1, 2, 3, 4] rfl
          have hD : va_D A [(md 0, .inr (4, [.int (xt), .int (nI mi), .int (nI mo), .int (nI mw), .ref (md 1), .ref (md 2), .ref (md 3), .int (nI ni), .int (nI no), .ref (md 4), .ref (md 5), .ref (md 6), .int (nI ((chF bd nb wd (ni + no) 0 (many + 1) (b + 1) ((updN c2 many b), w2, s2, n2)).2.2.2)), .ref (md 7), .ref (md 8), .int (nI nb), .int (nI wd), .ref (md 9), .long (tp), .long (bl), .long (wt), .long (wb)])), (md 7, aJ g 85 bd), (md 9, aI g 5 (fun j => nI (((chF bd nb wd (ni + no) 0 (many + 1) (b + 1) ((updN c2 many b), w2, s2, n2)).1) j))), (md 8, aJ g 5 ((chF bd nb wd (ni + no) 0 (many + 1) (b + 1) ((updN c2 many b), w2, s2, n2)).2.1)), (md 6, aJ g 13000 ((chF bd nb wd (ni + no) 0 (many + 1) (b + 1) ((updN c2 many b), w2, s2, n2)).2.2.1))] := hD.sub [0, 1, 2, 3, 4] rfl rfl
          refine lv_iinc (v := nI (b + 1)) (lv' := [(3, .int (nI (b + 1))), (0, .ref (md 0)), (1, .int (nI many)), (2, .int (nI fr))]) hx hb dX4_choose_42 hl (k := 3) rfl (nI_inc1 b) (by decide) rfl (fun ls hl => ?_)
          refine lv_goto (tgt := 17) hx hb dX4_choose_45 (by decide) ?_
          exact ih_17 (b + 1) ((chF bd nb wd (ni + no) 0 (many + 1) (b + 1) ((updN c2 many b), w2, s2, n2)).1) ((chF bd nb wd (ni + no) 0 (many + 1) (b + 1) ((updN c2 many b), w2, s2, n2)).2.1) ((chF bd nb wd (ni + no) 0 (many + 1) (b + 1) ((updN c2 many b), w2, s2, n2)).2.2.1) ((chF bd nb wd (ni + no) 0 (many + 1) (b + 1) ((updN c2 many b), w2, s2, n2)).2.2.2) (by omega) (by omega) (by omega) hn3 hc3 hv2 _ _ hP hD hS ls (lv_sub hl [1, 2, 3, 0] rfl)
    exact lp_17 (nb - fr + 1) fr ch wy sd ns (by omega) (by omega) (by omega) hns hch rfl _ _ hP hD hS ls (lv_sub hl [1, 2, 3, 0] rfl)
  · skip
    have c_1 := (nI_eq (by omega) (by omega)).mp c_1
    omega
theorem cw_X4_choose_84_7_186 {R : Room} {s : State} {args : Array Value} (hts : ∀ w ∈ wsX4_choose, w.before args s = true) (hN : nsW s) (hR : 7 + 1 ≤ R.frames ∧ 8 + (4 + 11) + 186 ≤ R.locals) : CallW R s args RX4 RX4 84 yX4_choose cX4_choose 4 none wsX4_choose { frames := 7, cells := 0, slots := 0, locals := 186 } 0 0 2 := cwV 2 hts gX4_choose_X4_choose rfl rfl rfl ⟨rfl, hdn_X4_choose⟩ hR
set_option maxHeartbeats 20000000 in
set_option maxRecDepth 100000 in
theorem c_X4_cho2 (l : Launch) (g : Gt) (md : Nat → Nat) (xt : Int32) (mi : Nat) (mo : Nat) (mw : Nat) (ni : Nat) (no : Nat) (ns : Nat) (nb : Nat) (wd : Nat) (tp : Int64) (bl : Int64) (wt : Int64) (wb : Int64) (bd : Nat → Int64) (ch : Nat → Nat) (wy : Nat → Int64) (sd : Nat → Int64) (many : Nat) (fr : Nat) (hm : many + 2 + 1 = wd) (hfr2 : fr ≤ 17) (hns : ns + bnm (nb - fr) 2 ≤ 2600) (hni : ni ≤ 2) (hno : no ≤ 2) (hw2 : 2 ≤ wd) (hwd : wd ≤ 5) (hnb : nb ≤ 17) (hch : ∀ j : Nat, j < many → ch j < 17) : CV l yX4_choose wsX4_choose { frames := 8, cells := 0, slots := 0, locals := 209 } g [.ref (md 0), .int (nI many), .int (nI fr)] [(md 0, .inr (4, [.int (xt), .int (nI mi), .int (nI mo), .int (nI mw), .ref (md 1), .ref (md 2), .ref (md 3), .int (nI ni), .int (nI no), .ref (md 4), .ref (md 5), .ref (md 6), .int (nI ns), .ref (md 7), .ref (md 8), .int (nI nb), .int (nI wd), .ref (md 9), .long (tp), .long (bl), .long (wt), .long (wb)])), (md 7, aJ g 85 bd), (md 9, aI g 5 (fun j => nI (ch j))), (md 8, aJ g 5 wy), (md 6, aJ g 13000 sd)] (fun (zu : Unit) => True) (fun (zu : Unit) => [(md 0, .inr (4, [.int (xt), .int (nI mi), .int (nI mo), .int (nI mw), .ref (md 1), .ref (md 2), .ref (md 3), .int (nI ni), .int (nI no), .ref (md 4), .ref (md 5), .ref (md 6), .int (nI ((chF bd nb wd (ni + no) 2 many fr (ch, wy, sd, ns)).2.2.2)), .ref (md 7), .ref (md 8), .int (nI nb), .int (nI wd), .ref (md 9), .long (tp), .long (bl), .long (wt), .long (wb)])), (md 7, aJ g 85 bd), (md 9, aI g 5 (fun j => nI (((chF bd nb wd (ni + no) 2 many fr (ch, wy, sd, ns)).1) j))), (md 8, aJ g 5 ((chF bd nb wd (ni + no) 2 many fr (ch, wy, sd, ns)).2.1)), (md 6, aJ g 13000 ((chF bd nb wd (ni + no) 2 many fr (ch, wy, sd, ns)).2.2.1))]) 0 0 := by
  refine ent_v (cc := cX4_choose) (maxL := 4) (by decide) rfl (Nat.le_of_ble_eq_true rfl) ?_
  intro p e s m below meth c A args Q hE ret ls hl
  obtain ⟨hx, hb, hml, hown, hts, hnm, hA, hP, hD, hK, hN⟩ := hE
  have hS : va_S A s.heap s.heap [] := va_S.rf
  have hl : lv_has ls 4 [(0, .ref (md 0)), (1, .int (nI many)), (2, .int (nI fr))] := hl
  have hP : va_P g.1 vwCl [(md 0, .inr (4, [.int (xt), .int (nI mi), .int (nI mo), .int (nI mw), .ref (md 1), .ref (md 2), .ref (md 3), .int (nI ni), .int (nI no), .ref (md 4), .ref (md 5), .ref (md 6), .int (nI ns), .ref (md 7), .ref (md 8), .int (nI nb), .int (nI wd), .ref (md 9), .long (tp), .long (bl), .long (wt), .long (wb)])), (md 7, aJ g 85 bd), (md 9, aI g 5 (fun j => nI (ch j))), (md 8, aJ g 5 wy), (md 6, aJ g 13000 sd)] s.heap := hP
  refine lv_iload_n hx hb dX4_choose_0 rfl (lv_at hl 1 rfl) ?_
  refine lv_aload_n hx hb dX4_choose_1 rfl (lv_at hl 0 rfl) ?_
  refine k_get hx hb hts hown hK hP iw_X4_choose_X4 rfl 0 16 fm_X4_choose_70 (by decide) rfl rfl dX4_choose_2 ?_
  refine lv_iconst (v := nI 1) hx hb dX4_choose_5 (by decide) ?_
  refine lv_isub hx hb dX4_choose_6 ?_
  refine k_ei (y := nI (wd - 1)) (pk_sub (by omega)) ?_
  refine lv_icmp_ne (tgt := 15) hx hb dX4_choose_7 (by decide) (fun c_1 => ?_) (fun c_1 => ?_)
  · skip
    have c_1 := mt (nI_eq (by omega) (by omega)).mpr c_1
    refine lv_iload_n hx hb dX4_choose_15 rfl (lv_at hl 2 rfl) ?_
    refine lv_istore_n (lv' := [(3, .int (nI fr)), (0, .ref (md 0)), (1, .int (nI many)), (2, .int (nI fr))]) hx hb dX4_choose_16 rfl hl (by decide) rfl (fun ls hl => ?_)
    have lp_17 : ∀ (n : Nat) (b : Nat) (c2 : Nat → Nat) (w2 : Nat → Int64) (s2 : Nat → Int64) (n2 : Nat), nb - b < n → b ≤ 17 → fr ≤ b → n2 + bnm (nb - b) 2 ≤ 2600 → (∀ j : Nat, j < many → c2 j < 17) → chF bd nb wd (ni + no) 2 many fr (ch, wy, sd, ns) = chG (fun m f z => chF bd nb wd (ni + no) 1 m f z) many b (nb - b) (c2, w2, s2, n2) → ∀ (H : Heap) (locs : List Loc), va_P g.1 vwCl [(md 0, .inr (4, [.int (xt), .int (nI mi), .int (nI mo), .int (nI mw), .ref (md 1), .ref (md 2), .ref (md 3), .int (nI ni), .int (nI no), .ref (md 4), .ref (md 5), .ref (md 6), .int (nI n2), .ref (md 7), .ref (md 8), .int (nI nb), .int (nI wd), .ref (md 9), .long (tp), .long (bl), .long (wt), .long (wb)])), (md 7, aJ g 85 bd), (md 9, aI g 5 (fun j => nI (c2 j))), (md 8, aJ g 5 w2), (md 6, aJ g 13000 s2)] H → va_D A [(md 0, .inr (4, [.int (xt), .int (nI mi), .int (nI mo), .int (nI mw), .ref (md 1), .ref (md 2), .ref (md 3), .int (nI ni), .int (nI no), .ref (md 4), .ref (md 5), .ref (md 6), .int (nI n2), .ref (md 7), .ref (md 8), .int (nI nb), .int (nI wd), .ref (md 9), .long (tp), .long (bl), .long (wt), .long (wb)])), (md 7, aJ g 85 bd), (md 9, aI g 5 (fun j => nI (c2 j))), (md 8, aJ g 5 w2), (md 6, aJ g 13000 s2)] → va_S A s.heap H locs → ∀ ls : Array Slot, lv_has ls 4 [(0, .ref (md 0)), (1, .int (nI many)), (2, .int (nI fr)), (3, .int (nI b))] → W p l e { frames := 8, cells := 0, slots := 0, locals := 209 } s m args below meth c H locs 0 0 Q (F0 m 17 ls []) := by
      intro n
      induction n with
      | zero =>
        intro b c2 w2 s2 n2 hms
        omega
      | succ n ih_17 =>
        intro b c2 w2 s2 n2 hms_17 hb3 hb4 hn2 hc2 hv H locs hP hD hS ls hl
        refine lv_iload_n hx hb dX4_choose_17 rfl (lv_at hl 3 rfl) ?_
        refine lv_aload_n hx hb dX4_choose_18 rfl (lv_at hl 0 rfl) ?_
        refine k_get hx hb hts hown hK hP iw_X4_choose_X4 rfl 0 15 fm_X4_choose_73 (by decide) rfl rfl dX4_choose_19 ?_
        refine lv_icmp_ge (tgt := 48) hx hb dX4_choose_22 (by decide) (fun c_2 => ?_) (fun c_2 => ?_)
        · skip
          have c_2 := (nI_leI (by omega) (by omega)).mp c_2
          have hfin : chF bd nb wd (ni + no) 2 many fr (ch, wy, sd, ns) = (c2, w2, s2, n2) := by rw [hv, show nb - b = 0 by omega]; rfl
          have hP : va_P g.1 vwCl [(md 0, .inr (4, [.int (xt), .int (nI mi), .int (nI mo), .int (nI mw), .ref (md 1), .ref (md 2), .ref (md 3), .int (nI ni), .int (nI no), .ref (md 4), .ref (md 5), .ref (md 6), .int (nI ((chF bd nb wd (ni + no) 2 many fr (ch, wy, sd, ns)).2.2.2)), .ref (md 7), .ref (md 8), .int (nI nb), .int (nI wd), .ref (md 9), .long (tp), .long (bl), .long (wt), .long (wb)])), (md 7, aJ g 85 bd), (md 9, aI g 5 (fun j => nI (((chF bd nb wd (ni + no) 2 many fr (ch, wy, sd, ns)).1) j))), (md 8, aJ g 5 ((chF bd nb wd (ni + no) 2 many fr (ch, wy, sd, ns)).2.1)), (md 6, aJ g 13000 ((chF bd nb wd (ni + no) 2 many fr (ch, wy, sd, ns)).2.2.1))] H := by rw [hfin]; exact hP
          have hD : va_D A [(md 0, .inr (4, [.int (xt), .int (nI mi), .int (nI mo), .int (nI mw), .ref (md 1), .ref (md 2), .ref (md 3), .int (nI ni), .int (nI no), .ref (md 4), .ref (md 5), .ref (md 6), .int (nI ((chF bd nb wd (ni + no) 2 many fr (ch, wy, sd, ns)).2.2.2)), .ref (md 7), .ref (md 8), .int (nI nb), .int (nI wd), .ref (md 9), .long (tp), .long (bl), .long (wt), .long (wb)])), (md 7, aJ g 85 bd), (md 9, aI g 5 (fun j => nI (((chF bd nb wd (ni + no) 2 many fr (ch, wy, sd, ns)).1) j))), (md 8, aJ g 5 ((chF bd nb wd (ni + no) 2 many fr (ch, wy, sd, ns)).2.1)), (md 6, aJ g 13000 ((chF bd nb wd (ni + no) 2 many fr (ch, wy, sd, ns)).2.2.1))] := by rw [hfin]; exact hD
          exact ret dX4_choose_48 () (trivial) hP hD hS
        · skip
          have c_2 := mt (nI_leI (by omega) (by omega)).mpr c_2
          have hbb : bnm (nb - b) 2 = bnm (nb - (b + 1)) 1 + bnm (nb - (b + 1)) 2 := by rw [show nb - b = (nb - (b + 1)) + 1 by omega]; rfl
          have hq3 := chF_ns bd nb wd (ni + no) 1 (many + 1) (b + 1) (updN c2 many b, w2, s2, n2)
          have hn3 : (chF bd nb wd (ni + no) 1 (many + 1) (b + 1) (updN c2 many b, w2, s2, n2)).2.2.2 + bnm (nb - (b + 1)) 2 ≤ 2600 := by simp only at hq3; omega
          have hc4 : ∀ j : Nat, j < many + 1 → updN c2 many b j < 17 := fun j hj => by
            unfold updN
            split
            · omega
            · exact hc2 j (by omega)
          have hc3 : ∀ j : Nat, j < many → (chF bd nb wd (ni + no) 1 (many + 1) (b + 1) (updN c2 many b, w2, s2, n2)).1 j < 17 := fun j hj => by rw [chF_ch bd nb wd (ni + no) 1 (many + 1) (b + 1) _ j (by omega)]; exact hc4 j (by omega)
          have hv2 : chF bd nb wd (ni + no) 2 many fr (ch, wy, sd, ns) = chG (fun m f z => chF bd nb wd (ni + no) 1 m f z) many (b + 1) (nb - (b + 1)) (chF bd nb wd (ni + no) 1 (many + 1) (b + 1) (updN c2 many b, w2, s2, n2)) := by rw [hv, show nb - b = (nb - (b + 1)) + 1 by omega, chG]
          refine lv_aload_n hx hb dX4_choose_25 rfl (lv_at hl 0 rfl) ?_
          refine k_get hx hb hts hown hK hP iw_X4_choose_X4 rfl 0 17 fm_X4_choose_43 (by decide) rfl rfl dX4_choose_26 ?_
          refine lv_iload_n hx hb dX4_choose_29 rfl (lv_at hl 1 rfl) ?_
          refine lv_iload_n hx hb dX4_choose_30 rfl (lv_at hl 3 rfl) ?_
          refine k_iast hx hb hK hP hD hS 2 rfl (by omega) (by omega) dX4_choose_31 (fun H locs hP hD hS => ?_)
          have hP : va_P g.1 vwCl [(md 0, .inr (4, [.int (xt), .int (nI mi), .int (nI mo), .int (nI mw), .ref (md 1), .ref (md 2), .ref (md 3), .int (nI ni), .int (nI no), .ref (md 4), .ref (md 5), .ref (md 6), .int (nI n2), .ref (md 7), .ref (md 8), .int (nI nb), .int (nI wd), .ref (md 9), .long (tp), .long (bl), .long (wt), .long (wb)])), (md 7, aJ g 85 bd), (md 9, aI g 5 (upd (fun j => nI (c2 j)) many (nI b))), (md 8, aJ g 5 w2), (md 6, aJ g 13000 s2)] H := hP
          have hD : va_D A [(md 0, .inr (4, [.int (xt), .int (nI mi), .int (nI mo), .int (nI mw), .ref (md 1), .ref (md 2), .ref (md 3), .int (nI ni), .int (nI no), .ref (md 4), .ref (md 5), .ref (md 6), .int (nI n2), .ref (md 7), .ref (md 8), .int (nI nb), .int (nI wd), .ref (md 9), .long (tp), .long (bl), .long (wt), .long (wb)])), (md 7, aJ g 85 bd), (md 9, aI g 5 (upd (fun j => nI (c2 j)) many (nI b))), (md 8, aJ g 5 w2), (md 6, aJ g 13000 s2)] := hD
          have e_3 : upd (fun j => nI (c2 j)) many (nI b) = fun j => nI (updN c2 many b j) := updN_nI _ _ _
          rw [e_3] at hP hD
          refine lv_aload_n hx hb dX4_choose_32 rfl (lv_at hl 0 rfl) ?_
          refine lv_iload_n hx hb dX4_choose_33 rfl (lv_at hl 1 rfl) ?_
          refine lv_iconst (v := nI 1) hx hb dX4_choose_34 (by decide) ?_
          refine lv_iadd hx hb dX4_choose_35 ?_
          refine k_ei (y := nI (many + 1)) (nI_add _ _) ?_
          refine lv_iload_n hx hb dX4_choose_36 rfl (lv_at hl 3 rfl) ?_
          refine lv_iconst (v := nI 1) hx hb dX4_choose_37 (by decide) ?_
          refine lv_iadd hx hb dX4_choose_38 ?_
          refine k_ei (y := nI (b + 1)) (nI_add _ _) ?_
          refine go_v (wc := [(md 0, .inr (4, [.int (xt), .int (nI mi), .int (nI mo), .int (nI mw), .ref (md 1), .ref (md 2), .ref (md 3), .int (nI ni), .int (nI no), .ref (md 4), .ref (md 5), .ref (md 6), .int (nI n2), .ref (md 7), .ref (md 8), .int (nI nb), .int (nI wd), .ref (md 9), .long (tp), .long (bl), .long (wt), .long (wb)])), (md 7, aJ g 85 bd), (md 9, aI g 5 (fun j => nI (updN c2 many b j))), (md 8, aJ g 5 w2), (md 6, aJ g 13000 s2)]) (wr := []) hP hD hS hA [0, 1, 2, 3, 4] [] rfl rfl rfl rfl (by decide) (fun hPc hDc => rn_V (As := [.int (nI (many + 1)), .int (nI (b + 1))]) (rest := []) ⟨hx, hb, hml, hown, hts⟩ ((c_X4_cho1 l g md xt mi mo mw ni no n2 nb wd tp bl wt wb bd (updN c2 many b) w2 s2 (many + 1) (b + 1) (by omega) (by omega) (by omega) (by omega) (by omega) (by omega) (by omega) (by omega) hc4) _) (cw_X4_choose_84_7_186 hts hN ⟨Nat.le_of_ble_eq_true rfl, Nat.le_of_ble_eq_true rfl⟩) hK hN hPc hDc 0 rfl rfl rfl rfl hl.1 (Nat.le_of_ble_eq_true rfl) dX4_choose_39 ⟨Nat.le_of_ble_eq_true rfl, Nat.le_of_ble_eq_true rfl⟩) ?_
          intro u_5 H locs h_6 hP hD hS
          have hP : va_P g.1 vwCl [(md 0, .inr (4, [.int (xt), .int (nI mi), .int (nI mo), .int (nI mw), .ref (md 1), .ref (md 2), .ref (md 3), .int (nI ni), .int (nI no), .ref (md 4), .ref (md 5), .ref (md 6), .int (nI ((chF bd nb wd (ni + no) 1 (many + 1) (b + 1) ((updN c2 many b), w2, s2, n2)).2.2.2)), .ref (md 7), .ref (md 8), .int (nI nb), .int (nI wd), .ref (md 9), .long (tp), .long (bl), .long (wt), .long (wb)])), (md 7, aJ g 85 bd), (md 9, aI g 5 (fun j => nI (((chF bd nb wd (ni + no) 1 (many + 1) (b + 1) ((updN c2 many b), w2, s2, n2)).1) j))), (md 8, aJ g 5 ((chF bd nb wd (ni + no) 1 (many + 1) (b + 1) ((updN c2 many b), w2, s2, n2)).2.1)), (md 6, aJ g 13000 ((chF bd nb wd (ni + no) 1 (many + 1) (b + 1) ((updN c2 many b), w2, s2, n2)).2.2.1))] H := hP.sub [0, 1, 2, 3, 4] rfl
          have hD : va_D A [(md 0, .inr (4, [.int (xt), .int (nI mi), .int (nI mo), .int (nI mw), .ref (md 1), .ref (md 2), .ref (md 3), .int (nI ni), .int (nI no), .ref (md 4), .ref (md 5), .ref (md 6), .int (nI ((chF bd nb wd (ni + no) 1 (many + 1) (b + 1) ((updN c2 many b), w2, s2, n2)).2.2.2)), .ref (md 7), .ref (md 8), .int (nI nb), .int (nI wd), .ref (md 9), .long (tp), .long (bl), .long (wt), .long (wb)])), (md 7, aJ g 85 bd), (md 9, aI g 5 (fun j => nI (((chF bd nb wd (ni + no) 1 (many + 1) (b + 1) ((updN c2 many b), w2, s2, n2)).1) j))), (md 8, aJ g 5 ((chF bd nb wd (ni + no) 1 (many + 1) (b + 1) ((updN c2 many b), w2, s2, n2)).2.1)), (md 6, aJ g 13000 ((chF bd nb wd (ni + no) 1 (many + 1) (b + 1) ((updN c2 many b), w2, s2, n2)).2.2.1))] := hD.sub [0, 1, 2, 3, 4] rfl rfl
          refine lv_iinc (v := nI (b + 1)) (lv' := [(3, .int (nI (b + 1))), (0, .ref (md 0)), (1, .int (nI many)), (2, .int (nI fr))]) hx hb dX4_choose_42 hl (k := 3) rfl (nI_inc1 b) (by decide) rfl (fun ls hl => ?_)
          refine lv_goto (tgt := 17) hx hb dX4_choose_45 (by decide) ?_
          exact ih_17 (b + 1) ((chF bd nb wd (ni + no) 1 (many + 1) (b + 1) ((updN c2 many b), w2, s2, n2)).1) ((chF bd nb wd (ni + no) 1 (many + 1) (b + 1) ((updN c2 many b), w2, s2, n2)).2.1) ((chF bd nb wd (ni + no) 1 (many + 1) (b + 1) ((updN c2 many b), w2, s2, n2)).2.2.1) ((chF bd nb wd (ni + no) 1 (many + 1) (b + 1) ((updN c2 many b), w2, s2, n2)).2.2.2) (by omega) (by omega) (by omega) hn3 hc3 hv2 _ _ hP hD hS ls (lv_sub hl [1, 2, 3, 0] rfl)
    exact lp_17 (nb - fr + 1) fr ch wy sd ns (by omega) (by omega) (by omega) hns hch rfl _ _ hP hD hS ls (lv_sub hl [1, 2, 3, 0] rfl)
  · skip
    have c_1 := (nI_eq (by omega) (by omega)).mp c_1
    omega
theorem cw_X4_choose_84_8_209 {R : Room} {s : State} {args : Array Value} (hts : ∀ w ∈ wsX4_choose, w.before args s = true) (hN : nsW s) (hR : 8 + 1 ≤ R.frames ∧ 8 + (4 + 11) + 209 ≤ R.locals) : CallW R s args RX4 RX4 84 yX4_choose cX4_choose 4 none wsX4_choose { frames := 8, cells := 0, slots := 0, locals := 209 } 0 0 2 := cwV 2 hts gX4_choose_X4_choose rfl rfl rfl ⟨rfl, hdn_X4_choose⟩ hR
set_option maxHeartbeats 20000000 in
set_option maxRecDepth 100000 in
theorem c_X4_cho3 (l : Launch) (g : Gt) (md : Nat → Nat) (xt : Int32) (mi : Nat) (mo : Nat) (mw : Nat) (ni : Nat) (no : Nat) (ns : Nat) (nb : Nat) (wd : Nat) (tp : Int64) (bl : Int64) (wt : Int64) (wb : Int64) (bd : Nat → Int64) (ch : Nat → Nat) (wy : Nat → Int64) (sd : Nat → Int64) (many : Nat) (fr : Nat) (hm : many + 3 + 1 = wd) (hfr2 : fr ≤ 17) (hns : ns + bnm (nb - fr) 3 ≤ 2600) (hni : ni ≤ 2) (hno : no ≤ 2) (hw2 : 2 ≤ wd) (hwd : wd ≤ 5) (hnb : nb ≤ 17) (hch : ∀ j : Nat, j < many → ch j < 17) : CV l yX4_choose wsX4_choose { frames := 9, cells := 0, slots := 0, locals := 232 } g [.ref (md 0), .int (nI many), .int (nI fr)] [(md 0, .inr (4, [.int (xt), .int (nI mi), .int (nI mo), .int (nI mw), .ref (md 1), .ref (md 2), .ref (md 3), .int (nI ni), .int (nI no), .ref (md 4), .ref (md 5), .ref (md 6), .int (nI ns), .ref (md 7), .ref (md 8), .int (nI nb), .int (nI wd), .ref (md 9), .long (tp), .long (bl), .long (wt), .long (wb)])), (md 7, aJ g 85 bd), (md 9, aI g 5 (fun j => nI (ch j))), (md 8, aJ g 5 wy), (md 6, aJ g 13000 sd)] (fun (zu : Unit) => True) (fun (zu : Unit) => [(md 0, .inr (4, [.int (xt), .int (nI mi), .int (nI mo), .int (nI mw), .ref (md 1), .ref (md 2), .ref (md 3), .int (nI ni), .int (nI no), .ref (md 4), .ref (md 5), .ref (md 6), .int (nI ((chF bd nb wd (ni + no) 3 many fr (ch, wy, sd, ns)).2.2.2)), .ref (md 7), .ref (md 8), .int (nI nb), .int (nI wd), .ref (md 9), .long (tp), .long (bl), .long (wt), .long (wb)])), (md 7, aJ g 85 bd), (md 9, aI g 5 (fun j => nI (((chF bd nb wd (ni + no) 3 many fr (ch, wy, sd, ns)).1) j))), (md 8, aJ g 5 ((chF bd nb wd (ni + no) 3 many fr (ch, wy, sd, ns)).2.1)), (md 6, aJ g 13000 ((chF bd nb wd (ni + no) 3 many fr (ch, wy, sd, ns)).2.2.1))]) 0 0 := by
  refine ent_v (cc := cX4_choose) (maxL := 4) (by decide) rfl (Nat.le_of_ble_eq_true rfl) ?_
  intro p e s m below meth c A args Q hE ret ls hl
  obtain ⟨hx, hb, hml, hown, hts, hnm, hA, hP, hD, hK, hN⟩ := hE
  have hS : va_S A s.heap s.heap [] := va_S.rf
  have hl : lv_has ls 4 [(0, .ref (md 0)), (1, .int (nI many)), (2, .int (nI fr))] := hl
  have hP : va_P g.1 vwCl [(md 0, .inr (4, [.int (xt), .int (nI mi), .int (nI mo), .int (nI mw), .ref (md 1), .ref (md 2), .ref (md 3), .int (nI ni), .int (nI no), .ref (md 4), .ref (md 5), .ref (md 6), .int (nI ns), .ref (md 7), .ref (md 8), .int (nI nb), .int (nI wd), .ref (md 9), .long (tp), .long (bl), .long (wt), .long (wb)])), (md 7, aJ g 85 bd), (md 9, aI g 5 (fun j => nI (ch j))), (md 8, aJ g 5 wy), (md 6, aJ g 13000 sd)] s.heap := hP
  refine lv_iload_n hx hb dX4_choose_0 rfl (lv_at hl 1 rfl) ?_
  refine lv_aload_n hx hb dX4_choose_1 rfl (lv_at hl 0 rfl) ?_
  refine k_get hx hb hts hown hK hP iw_X4_choose_X4 rfl 0 16 fm_X4_choose_70 (by decide) rfl rfl dX4_choose_2 ?_
  refine lv_iconst (v := nI 1) hx hb dX4_choose_5 (by decide) ?_
  refine lv_isub hx hb dX4_choose_6 ?_
  refine k_ei (y := nI (wd - 1)) (pk_sub (by omega)) ?_
  refine lv_icmp_ne (tgt := 15) hx hb dX4_choose_7 (by decide) (fun c_1 => ?_) (fun c_1 => ?_)
  · skip
    have c_1 := mt (nI_eq (by omega) (by omega)).mpr c_1
    refine lv_iload_n hx hb dX4_choose_15 rfl (lv_at hl 2 rfl) ?_
    refine lv_istore_n (lv' := [(3, .int (nI fr)), (0, .ref (md 0)), (1, .int (nI many)), (2, .int (nI fr))]) hx hb dX4_choose_16 rfl hl (by decide) rfl (fun ls hl => ?_)
    have lp_17 : ∀ (n : Nat) (b : Nat) (c2 : Nat → Nat) (w2 : Nat → Int64) (s2 : Nat → Int64) (n2 : Nat), nb - b < n → b ≤ 17 → fr ≤ b → n2 + bnm (nb - b) 3 ≤ 2600 → (∀ j : Nat, j < many → c2 j < 17) → chF bd nb wd (ni + no) 3 many fr (ch, wy, sd, ns) = chG (fun m f z => chF bd nb wd (ni + no) 2 m f z) many b (nb - b) (c2, w2, s2, n2) → ∀ (H : Heap) (locs : List Loc), va_P g.1 vwCl [(md 0, .inr (4, [.int (xt), .int (nI mi), .int (nI mo), .int (nI mw), .ref (md 1), .ref (md 2), .ref (md 3), .int (nI ni), .int (nI no), .ref (md 4), .ref (md 5), .ref (md 6), .int (nI n2), .ref (md 7), .ref (md 8), .int (nI nb), .int (nI wd), .ref (md 9), .long (tp), .long (bl), .long (wt), .long (wb)])), (md 7, aJ g 85 bd), (md 9, aI g 5 (fun j => nI (c2 j))), (md 8, aJ g 5 w2), (md 6, aJ g 13000 s2)] H → va_D A [(md 0, .inr (4, [.int (xt), .int (nI mi), .int (nI mo), .int (nI mw), .ref (md 1), .ref (md 2), .ref (md 3), .int (nI ni), .int (nI no), .ref (md 4), .ref (md 5), .ref (md 6), .int (nI n2), .ref (md 7), .ref (md 8), .int (nI nb), .int (nI wd), .ref (md 9), .long (tp), .long (bl), .long (wt), .long (wb)])), (md 7, aJ g 85 bd), (md 9, aI g 5 (fun j => nI (c2 j))), (md 8, aJ g 5 w2), (md 6, aJ g 13000 s2)] → va_S A s.heap H locs → ∀ ls : Array Slot, lv_has ls 4 [(0, .ref (md 0)), (1, .int (nI many)), (2, .int (nI fr)), (3, .int (nI b))] → W p l e { frames := 9, cells := 0, slots := 0, locals := 232 } s m args below meth c H locs 0 0 Q (F0 m 17 ls []) := by
      intro n
      induction n with
      | zero =>
        intro b c2 w2 s2 n2 hms
        omega
      | succ n ih_17 =>
        intro b c2 w2 s2 n2 hms_17 hb3 hb4 hn2 hc2 hv H locs hP hD hS ls hl
        refine lv_iload_n hx hb dX4_choose_17 rfl (lv_at hl 3 rfl) ?_
        refine lv_aload_n hx hb dX4_choose_18 rfl (lv_at hl 0 rfl) ?_
        refine k_get hx hb hts hown hK hP iw_X4_choose_X4 rfl 0 15 fm_X4_choose_73 (by decide) rfl rfl dX4_choose_19 ?_
        refine lv_icmp_ge (tgt := 48) hx hb dX4_choose_22 (by decide) (fun c_2 => ?_) (fun c_2 => ?_)
        · skip
          have c_2 := (nI_leI (by omega) (by omega)).mp c_2
          have hfin : chF bd nb wd (ni + no) 3 many fr (ch, wy, sd, ns) = (c2, w2, s2, n2) := by rw [hv, show nb - b = 0 by omega]; rfl
          have hP : va_P g.1 vwCl [(md 0, .inr (4, [.int (xt), .int (nI mi), .int (nI mo), .int (nI mw), .ref (md 1), .ref (md 2), .ref (md 3), .int (nI ni), .int (nI no), .ref (md 4), .ref (md 5), .ref (md 6), .int (nI ((chF bd nb wd (ni + no) 3 many fr (ch, wy, sd, ns)).2.2.2)), .ref (md 7), .ref (md 8), .int (nI nb), .int (nI wd), .ref (md 9), .long (tp), .long (bl), .long (wt), .long (wb)])), (md 7, aJ g 85 bd), (md 9, aI g 5 (fun j => nI (((chF bd nb wd (ni + no) 3 many fr (ch, wy, sd, ns)).1) j))), (md 8, aJ g 5 ((chF bd nb wd (ni + no) 3 many fr (ch, wy, sd, ns)).2.1)), (md 6, aJ g 13000 ((chF bd nb wd (ni + no) 3 many fr (ch, wy, sd, ns)).2.2.1))] H := by rw [hfin]; exact hP
          have hD : va_D A [(md 0, .inr (4, [.int (xt), .int (nI mi), .int (nI mo), .int (nI mw), .ref (md 1), .ref (md 2), .ref (md 3), .int (nI ni), .int (nI no), .ref (md 4), .ref (md 5), .ref (md 6), .int (nI ((chF bd nb wd (ni + no) 3 many fr (ch, wy, sd, ns)).2.2.2)), .ref (md 7), .ref (md 8), .int (nI nb), .int (nI wd), .ref (md 9), .long (tp), .long (bl), .long (wt), .long (wb)])), (md 7, aJ g 85 bd), (md 9, aI g 5 (fun j => nI (((chF bd nb wd (ni + no) 3 many fr (ch, wy, sd, ns)).1) j))), (md 8, aJ g 5 ((chF bd nb wd (ni + no) 3 many fr (ch, wy, sd, ns)).2.1)), (md 6, aJ g 13000 ((chF bd nb wd (ni + no) 3 many fr (ch, wy, sd, ns)).2.2.1))] := by rw [hfin]; exact hD
          exact ret dX4_choose_48 () (trivial) hP hD hS
        · skip
          have c_2 := mt (nI_leI (by omega) (by omega)).mpr c_2
          have hbb : bnm (nb - b) 3 = bnm (nb - (b + 1)) 2 + bnm (nb - (b + 1)) 3 := by rw [show nb - b = (nb - (b + 1)) + 1 by omega]; rfl
          have hq3 := chF_ns bd nb wd (ni + no) 2 (many + 1) (b + 1) (updN c2 many b, w2, s2, n2)
          have hn3 : (chF bd nb wd (ni + no) 2 (many + 1) (b + 1) (updN c2 many b, w2, s2, n2)).2.2.2 + bnm (nb - (b + 1)) 3 ≤ 2600 := by simp only at hq3; omega
          have hc4 : ∀ j : Nat, j < many + 1 → updN c2 many b j < 17 := fun j hj => by
            unfold updN
            split
            · omega
            · exact hc2 j (by omega)
          have hc3 : ∀ j : Nat, j < many → (chF bd nb wd (ni + no) 2 (many + 1) (b + 1) (updN c2 many b, w2, s2, n2)).1 j < 17 := fun j hj => by rw [chF_ch bd nb wd (ni + no) 2 (many + 1) (b + 1) _ j (by omega)]; exact hc4 j (by omega)
          have hv2 : chF bd nb wd (ni + no) 3 many fr (ch, wy, sd, ns) = chG (fun m f z => chF bd nb wd (ni + no) 2 m f z) many (b + 1) (nb - (b + 1)) (chF bd nb wd (ni + no) 2 (many + 1) (b + 1) (updN c2 many b, w2, s2, n2)) := by rw [hv, show nb - b = (nb - (b + 1)) + 1 by omega, chG]
          refine lv_aload_n hx hb dX4_choose_25 rfl (lv_at hl 0 rfl) ?_
          refine k_get hx hb hts hown hK hP iw_X4_choose_X4 rfl 0 17 fm_X4_choose_43 (by decide) rfl rfl dX4_choose_26 ?_
          refine lv_iload_n hx hb dX4_choose_29 rfl (lv_at hl 1 rfl) ?_
          refine lv_iload_n hx hb dX4_choose_30 rfl (lv_at hl 3 rfl) ?_
          refine k_iast hx hb hK hP hD hS 2 rfl (by omega) (by omega) dX4_choose_31 (fun H locs hP hD hS => ?_)
          have hP : va_P g.1 vwCl [(md 0, .inr (4, [.int (xt), .int (nI mi), .int (nI mo), .int (nI mw), .ref (md 1), .ref (md 2), .ref (md 3), .int (nI ni), .int (nI no), .ref (md 4), .ref (md 5), .ref (md 6), .int (nI n2), .ref (md 7), .ref (md 8), .int (nI nb), .int (nI wd), .ref (md 9), .long (tp), .long (bl), .long (wt), .long (wb)])), (md 7, aJ g 85 bd), (md 9, aI g 5 (upd (fun j => nI (c2 j)) many (nI b))), (md 8, aJ g 5 w2), (md 6, aJ g 13000 s2)] H := hP
          have hD : va_D A [(md 0, .inr (4, [.int (xt), .int (nI mi), .int (nI mo), .int (nI mw), .ref (md 1), .ref (md 2), .ref (md 3), .int (nI ni), .int (nI no), .ref (md 4), .ref (md 5), .ref (md 6), .int (nI n2), .ref (md 7), .ref (md 8), .int (nI nb), .int (nI wd), .ref (md 9), .long (tp), .long (bl), .long (wt), .long (wb)])), (md 7, aJ g 85 bd), (md 9, aI g 5 (upd (fun j => nI (c2 j)) many (nI b))), (md 8, aJ g 5 w2), (md 6, aJ g 13000 s2)] := hD
          have e_3 : upd (fun j => nI (c2 j)) many (nI b) = fun j => nI (updN c2 many b j) := updN_nI _ _ _
          rw [e_3] at hP hD
          refine lv_aload_n hx hb dX4_choose_32 rfl (lv_at hl 0 rfl) ?_
          refine lv_iload_n hx hb dX4_choose_33 rfl (lv_at hl 1 rfl) ?_
          refine lv_iconst (v := nI 1) hx hb dX4_choose_34 (by decide) ?_
          refine lv_iadd hx hb dX4_choose_35 ?_
          refine k_ei (y := nI (many + 1)) (nI_add _ _) ?_
          refine lv_iload_n hx hb dX4_choose_36 rfl (lv_at hl 3 rfl) ?_
          refine lv_iconst (v := nI 1) hx hb dX4_choose_37 (by decide) ?_
          refine lv_iadd hx hb dX4_choose_38 ?_
          refine k_ei (y := nI (b + 1)) (nI_add _ _) ?_
          refine go_v (wc := [(md 0, .inr (4, [.int (xt), .int (nI mi), .int (nI mo), .int (nI mw), .ref (md 1), .ref (md 2), .ref (md 3), .int (nI ni), .int (nI no), .ref (md 4), .ref (md 5), .ref (md 6), .int (nI n2), .ref (md 7), .ref (md 8), .int (nI nb), .int (nI wd), .ref (md 9), .long (tp), .long (bl), .long (wt), .long (wb)])), (md 7, aJ g 85 bd), (md 9, aI g 5 (fun j => nI (updN c2 many b j))), (md 8, aJ g 5 w2), (md 6, aJ g 13000 s2)]) (wr := []) hP hD hS hA [0, 1, 2, 3, 4] [] rfl rfl rfl rfl (by decide) (fun hPc hDc => rn_V (As := [.int (nI (many + 1)), .int (nI (b + 1))]) (rest := []) ⟨hx, hb, hml, hown, hts⟩ ((c_X4_cho2 l g md xt mi mo mw ni no n2 nb wd tp bl wt wb bd (updN c2 many b) w2 s2 (many + 1) (b + 1) (by omega) (by omega) (by omega) (by omega) (by omega) (by omega) (by omega) (by omega) hc4) _) (cw_X4_choose_84_8_209 hts hN ⟨Nat.le_of_ble_eq_true rfl, Nat.le_of_ble_eq_true rfl⟩) hK hN hPc hDc 0 rfl rfl rfl rfl hl.1 (Nat.le_of_ble_eq_true rfl) dX4_choose_39 ⟨Nat.le_of_ble_eq_true rfl, Nat.le_of_ble_eq_true rfl⟩) ?_
          intro u_5 H locs h_6 hP hD hS
          have hP : va_P g.1 vwCl [(md 0, .inr (4, [.int (xt), .int (nI mi), .int (nI mo), .int (nI mw), .ref (md 1), .ref (md 2), .ref (md 3), .int (nI ni), .int (nI no), .ref (md 4), .ref (md 5), .ref (md 6), .int (nI ((chF bd nb wd (ni + no) 2 (many + 1) (b + 1) ((updN c2 many b), w2, s2, n2)).2.2.2)), .ref (md 7), .ref (md 8), .int (nI nb), .int (nI wd), .ref (md 9), .long (tp), .long (bl), .long (wt), .long (wb)])), (md 7, aJ g 85 bd), (md 9, aI g 5 (fun j => nI (((chF bd nb wd (ni + no) 2 (many + 1) (b + 1) ((updN c2 many b), w2, s2, n2)).1) j))), (md 8, aJ g 5 ((chF bd nb wd (ni + no) 2 (many + 1) (b + 1) ((updN c2 many b), w2, s2, n2)).2.1)), (md 6, aJ g 13000 ((chF bd nb wd (ni + no) 2 (many + 1) (b + 1) ((updN c2 many b), w2, s2, n2)).2.2.1))] H := hP.sub [0, 1, 2, 3, 4] rfl
          have hD : va_D A [(md 0, .inr (4, [.int (xt), .int (nI mi), .int (nI mo), .int (nI mw), .ref (md 1), .ref (md 2), .ref (md 3), .int (nI ni), .int (nI no), .ref (md 4), .ref (md 5), .ref (md 6), .int (nI ((chF bd nb wd (ni + no) 2 (many + 1) (b + 1) ((updN c2 many b), w2, s2, n2)).2.2.2)), .ref (md 7), .ref (md 8), .int (nI nb), .int (nI wd), .ref (md 9), .long (tp), .long (bl), .long (wt), .long (wb)])), (md 7, aJ g 85 bd), (md 9, aI g 5 (fun j => nI (((chF bd nb wd (ni + no) 2 (many + 1) (b + 1) ((updN c2 many b), w2, s2, n2)).1) j))), (md 8, aJ g 5 ((chF bd nb wd (ni + no) 2 (many + 1) (b + 1) ((updN c2 many b), w2, s2, n2)).2.1)), (md 6, aJ g 13000 ((chF bd nb wd (ni + no) 2 (many + 1) (b + 1) ((updN c2 many b), w2, s2, n2)).2.2.1))] := hD.sub [0, 1, 2, 3, 4] rfl rfl
          refine lv_iinc (v := nI (b + 1)) (lv' := [(3, .int (nI (b + 1))), (0, .ref (md 0)), (1, .int (nI many)), (2, .int (nI fr))]) hx hb dX4_choose_42 hl (k := 3) rfl (nI_inc1 b) (by decide) rfl (fun ls hl => ?_)
          refine lv_goto (tgt := 17) hx hb dX4_choose_45 (by decide) ?_
          exact ih_17 (b + 1) ((chF bd nb wd (ni + no) 2 (many + 1) (b + 1) ((updN c2 many b), w2, s2, n2)).1) ((chF bd nb wd (ni + no) 2 (many + 1) (b + 1) ((updN c2 many b), w2, s2, n2)).2.1) ((chF bd nb wd (ni + no) 2 (many + 1) (b + 1) ((updN c2 many b), w2, s2, n2)).2.2.1) ((chF bd nb wd (ni + no) 2 (many + 1) (b + 1) ((updN c2 many b), w2, s2, n2)).2.2.2) (by omega) (by omega) (by omega) hn3 hc3 hv2 _ _ hP hD hS ls (lv_sub hl [1, 2, 3, 0] rfl)
    exact lp_17 (nb - fr + 1) fr ch wy sd ns (by omega) (by omega) (by omega) hns hch rfl _ _ hP hD hS ls (lv_sub hl [1, 2, 3, 0] rfl)
  · skip
    have c_1 := (nI_eq (by omega) (by omega)).mp c_1
    omega
theorem cw_X4_choose_84_9_232 {R : Room} {s : State} {args : Array Value} (hts : ∀ w ∈ wsX4_choose, w.before args s = true) (hN : nsW s) (hR : 9 + 1 ≤ R.frames ∧ 8 + (4 + 11) + 232 ≤ R.locals) : CallW R s args RX4 RX4 84 yX4_choose cX4_choose 4 none wsX4_choose { frames := 9, cells := 0, slots := 0, locals := 232 } 0 0 2 := cwV 2 hts gX4_choose_X4_choose rfl rfl rfl ⟨rfl, hdn_X4_choose⟩ hR
set_option maxHeartbeats 20000000 in
set_option maxRecDepth 100000 in
theorem c_X4_cho4 (l : Launch) (g : Gt) (md : Nat → Nat) (xt : Int32) (mi : Nat) (mo : Nat) (mw : Nat) (ni : Nat) (no : Nat) (ns : Nat) (nb : Nat) (wd : Nat) (tp : Int64) (bl : Int64) (wt : Int64) (wb : Int64) (bd : Nat → Int64) (ch : Nat → Nat) (wy : Nat → Int64) (sd : Nat → Int64) (many : Nat) (fr : Nat) (hm : many + 4 + 1 = wd) (hfr2 : fr ≤ 17) (hns : ns + bnm (nb - fr) 4 ≤ 2600) (hni : ni ≤ 2) (hno : no ≤ 2) (hw2 : 2 ≤ wd) (hwd : wd ≤ 5) (hnb : nb ≤ 17) (hch : ∀ j : Nat, j < many → ch j < 17) : CV l yX4_choose wsX4_choose { frames := 10, cells := 0, slots := 0, locals := 255 } g [.ref (md 0), .int (nI many), .int (nI fr)] [(md 0, .inr (4, [.int (xt), .int (nI mi), .int (nI mo), .int (nI mw), .ref (md 1), .ref (md 2), .ref (md 3), .int (nI ni), .int (nI no), .ref (md 4), .ref (md 5), .ref (md 6), .int (nI ns), .ref (md 7), .ref (md 8), .int (nI nb), .int (nI wd), .ref (md 9), .long (tp), .long (bl), .long (wt), .long (wb)])), (md 7, aJ g 85 bd), (md 9, aI g 5 (fun j => nI (ch j))), (md 8, aJ g 5 wy), (md 6, aJ g 13000 sd)] (fun (zu : Unit) => True) (fun (zu : Unit) => [(md 0, .inr (4, [.int (xt), .int (nI mi), .int (nI mo), .int (nI mw), .ref (md 1), .ref (md 2), .ref (md 3), .int (nI ni), .int (nI no), .ref (md 4), .ref (md 5), .ref (md 6), .int (nI ((chF bd nb wd (ni + no) 4 many fr (ch, wy, sd, ns)).2.2.2)), .ref (md 7), .ref (md 8), .int (nI nb), .int (nI wd), .ref (md 9), .long (tp), .long (bl), .long (wt), .long (wb)])), (md 7, aJ g 85 bd), (md 9, aI g 5 (fun j => nI (((chF bd nb wd (ni + no) 4 many fr (ch, wy, sd, ns)).1) j))), (md 8, aJ g 5 ((chF bd nb wd (ni + no) 4 many fr (ch, wy, sd, ns)).2.1)), (md 6, aJ g 13000 ((chF bd nb wd (ni + no) 4 many fr (ch, wy, sd, ns)).2.2.1))]) 0 0 := by
  refine ent_v (cc := cX4_choose) (maxL := 4) (by decide) rfl (Nat.le_of_ble_eq_true rfl) ?_
  intro p e s m below meth c A args Q hE ret ls hl
  obtain ⟨hx, hb, hml, hown, hts, hnm, hA, hP, hD, hK, hN⟩ := hE
  have hS : va_S A s.heap s.heap [] := va_S.rf
  have hl : lv_has ls 4 [(0, .ref (md 0)), (1, .int (nI many)), (2, .int (nI fr))] := hl
  have hP : va_P g.1 vwCl [(md 0, .inr (4, [.int (xt), .int (nI mi), .int (nI mo), .int (nI mw), .ref (md 1), .ref (md 2), .ref (md 3), .int (nI ni), .int (nI no), .ref (md 4), .ref (md 5), .ref (md 6), .int (nI ns), .ref (md 7), .ref (md 8), .int (nI nb), .int (nI wd), .ref (md 9), .long (tp), .long (bl), .long (wt), .long (wb)])), (md 7, aJ g 85 bd), (md 9, aI g 5 (fun j => nI (ch j))), (md 8, aJ g 5 wy), (md 6, aJ g 13000 sd)] s.heap := hP
  refine lv_iload_n hx hb dX4_choose_0 rfl (lv_at hl 1 rfl) ?_
  refine lv_aload_n hx hb dX4_choose_1 rfl (lv_at hl 0 rfl) ?_
  refine k_get hx hb hts hown hK hP iw_X4_choose_X4 rfl 0 16 fm_X4_choose_70 (by decide) rfl rfl dX4_choose_2 ?_
  refine lv_iconst (v := nI 1) hx hb dX4_choose_5 (by decide) ?_
  refine lv_isub hx hb dX4_choose_6 ?_
  refine k_ei (y := nI (wd - 1)) (pk_sub (by omega)) ?_
  refine lv_icmp_ne (tgt := 15) hx hb dX4_choose_7 (by decide) (fun c_1 => ?_) (fun c_1 => ?_)
  · skip
    have c_1 := mt (nI_eq (by omega) (by omega)).mpr c_1
    refine lv_iload_n hx hb dX4_choose_15 rfl (lv_at hl 2 rfl) ?_
    refine lv_istore_n (lv' := [(3, .int (nI fr)), (0, .ref (md 0)), (1, .int (nI many)), (2, .int (nI fr))]) hx hb dX4_choose_16 rfl hl (by decide) rfl (fun ls hl => ?_)
    have lp_17 : ∀ (n : Nat) (b : Nat) (c2 : Nat → Nat) (w2 : Nat → Int64) (s2 : Nat → Int64) (n2 : Nat), nb - b < n → b ≤ 17 → fr ≤ b → n2 + bnm (nb - b) 4 ≤ 2600 → (∀ j : Nat, j < many → c2 j < 17) → chF bd nb wd (ni + no) 4 many fr (ch, wy, sd, ns) = chG (fun m f z => chF bd nb wd (ni + no) 3 m f z) many b (nb - b) (c2, w2, s2, n2) → ∀ (H : Heap) (locs : List Loc), va_P g.1 vwCl [(md 0, .inr (4, [.int (xt), .int (nI mi), .int (nI mo), .int (nI mw), .ref (md 1), .ref (md 2), .ref (md 3), .int (nI ni), .int (nI no), .ref (md 4), .ref (md 5), .ref (md 6), .int (nI n2), .ref (md 7), .ref (md 8), .int (nI nb), .int (nI wd), .ref (md 9), .long (tp), .long (bl), .long (wt), .long (wb)])), (md 7, aJ g 85 bd), (md 9, aI g 5 (fun j => nI (c2 j))), (md 8, aJ g 5 w2), (md 6, aJ g 13000 s2)] H → va_D A [(md 0, .inr (4, [.int (xt), .int (nI mi), .int (nI mo), .int (nI mw), .ref (md 1), .ref (md 2), .ref (md 3), .int (nI ni), .int (nI no), .ref (md 4), .ref (md 5), .ref (md 6), .int (nI n2), .ref (md 7), .ref (md 8), .int (nI nb), .int (nI wd), .ref (md 9), .long (tp), .long (bl), .long (wt), .long (wb)])), (md 7, aJ g 85 bd), (md 9, aI g 5 (fun j => nI (c2 j))), (md 8, aJ g 5 w2), (md 6, aJ g 13000 s2)] → va_S A s.heap H locs → ∀ ls : Array Slot, lv_has ls 4 [(0, .ref (md 0)), (1, .int (nI many)), (2, .int (nI fr)), (3, .int (nI b))] → W p l e { frames := 10, cells := 0, slots := 0, locals := 255 } s m args below meth c H locs 0 0 Q (F0 m 17 ls []) := by
      intro n
      induction n with
      | zero =>
        intro b c2 w2 s2 n2 hms
        omega
      | succ n ih_17 =>
        intro b c2 w2 s2 n2 hms_17 hb3 hb4 hn2 hc2 hv H locs hP hD hS ls hl
        refine lv_iload_n hx hb dX4_choose_17 rfl (lv_at hl 3 rfl) ?_
        refine lv_aload_n hx hb dX4_choose_18 rfl (lv_at hl 0 rfl) ?_
        refine k_get hx hb hts hown hK hP iw_X4_choose_X4 rfl 0 15 fm_X4_choose_73 (by decide) rfl rfl dX4_choose_19 ?_
        refine lv_icmp_ge (tgt := 48) hx hb dX4_choose_22 (by decide) (fun c_2 => ?_) (fun c_2 => ?_)
        · skip
          have c_2 := (nI_leI (by omega) (by omega)).mp c_2
          have hfin : chF bd nb wd (ni + no) 4 many fr (ch, wy, sd, ns) = (c2, w2, s2, n2) := by rw [hv, show nb - b = 0 by omega]; rfl
          have hP : va_P g.1 vwCl [(md 0, .inr (4, [.int (xt), .int (nI mi), .int (nI mo), .int (nI mw), .ref (md 1), .ref (md 2), .ref (md 3), .int (nI ni), .int (nI no), .ref (md 4), .ref (md 5), .ref (md 6), .int (nI ((chF bd nb wd (ni + no) 4 many fr (ch, wy, sd, ns)).2.2.2)), .ref (md 7), .ref (md 8), .int (nI nb), .int (nI wd), .ref (md 9), .long (tp), .long (bl), .long (wt), .long (wb)])), (md 7, aJ g 85 bd), (md 9, aI g 5 (fun j => nI (((chF bd nb wd (ni + no) 4 many fr (ch, wy, sd, ns)).1) j))), (md 8, aJ g 5 ((chF bd nb wd (ni + no) 4 many fr (ch, wy, sd, ns)).2.1)), (md 6, aJ g 13000 ((chF bd nb wd (ni + no) 4 many fr (ch, wy, sd, ns)).2.2.1))] H := by rw [hfin]; exact hP
          have hD : va_D A [(md 0, .inr (4, [.int (xt), .int (nI mi), .int (nI mo), .int (nI mw), .ref (md 1), .ref (md 2), .ref (md 3), .int (nI ni), .int (nI no), .ref (md 4), .ref (md 5), .ref (md 6), .int (nI ((chF bd nb wd (ni + no) 4 many fr (ch, wy, sd, ns)).2.2.2)), .ref (md 7), .ref (md 8), .int (nI nb), .int (nI wd), .ref (md 9), .long (tp), .long (bl), .long (wt), .long (wb)])), (md 7, aJ g 85 bd), (md 9, aI g 5 (fun j => nI (((chF bd nb wd (ni + no) 4 many fr (ch, wy, sd, ns)).1) j))), (md 8, aJ g 5 ((chF bd nb wd (ni + no) 4 many fr (ch, wy, sd, ns)).2.1)), (md 6, aJ g 13000 ((chF bd nb wd (ni + no) 4 many fr (ch, wy, sd, ns)).2.2.1))] := by rw [hfin]; exact hD
          exact ret dX4_choose_48 () (trivial) hP hD hS
        · skip
          have c_2 := mt (nI_leI (by omega) (by omega)).mpr c_2
          have hbb : bnm (nb - b) 4 = bnm (nb - (b + 1)) 3 + bnm (nb - (b + 1)) 4 := by rw [show nb - b = (nb - (b + 1)) + 1 by omega]; rfl
          have hq3 := chF_ns bd nb wd (ni + no) 3 (many + 1) (b + 1) (updN c2 many b, w2, s2, n2)
          have hn3 : (chF bd nb wd (ni + no) 3 (many + 1) (b + 1) (updN c2 many b, w2, s2, n2)).2.2.2 + bnm (nb - (b + 1)) 4 ≤ 2600 := by simp only at hq3; omega
          have hc4 : ∀ j : Nat, j < many + 1 → updN c2 many b j < 17 := fun j hj => by
            unfold updN
            split
            · omega
            · exact hc2 j (by omega)
          have hc3 : ∀ j : Nat, j < many → (chF bd nb wd (ni + no) 3 (many + 1) (b + 1) (updN c2 many b, w2, s2, n2)).1 j < 17 := fun j hj => by rw [chF_ch bd nb wd (ni + no) 3 (many + 1) (b + 1) _ j (by omega)]; exact hc4 j (by omega)
          have hv2 : chF bd nb wd (ni + no) 4 many fr (ch, wy, sd, ns) = chG (fun m f z => chF bd nb wd (ni + no) 3 m f z) many (b + 1) (nb - (b + 1)) (chF bd nb wd (ni + no) 3 (many + 1) (b + 1) (updN c2 many b, w2, s2, n2)) := by rw [hv, show nb - b = (nb - (b + 1)) + 1 by omega, chG]
          refine lv_aload_n hx hb dX4_choose_25 rfl (lv_at hl 0 rfl) ?_
          refine k_get hx hb hts hown hK hP iw_X4_choose_X4 rfl 0 17 fm_X4_choose_43 (by decide) rfl rfl dX4_choose_26 ?_
          refine lv_iload_n hx hb dX4_choose_29 rfl (lv_at hl 1 rfl) ?_
          refine lv_iload_n hx hb dX4_choose_30 rfl (lv_at hl 3 rfl) ?_
          refine k_iast hx hb hK hP hD hS 2 rfl (by omega) (by omega) dX4_choose_31 (fun H locs hP hD hS => ?_)
          have hP : va_P g.1 vwCl [(md 0, .inr (4, [.int (xt), .int (nI mi), .int (nI mo), .int (nI mw), .ref (md 1), .ref (md 2), .ref (md 3), .int (nI ni), .int (nI no), .ref (md 4), .ref (md 5), .ref (md 6), .int (nI n2), .ref (md 7), .ref (md 8), .int (nI nb), .int (nI wd), .ref (md 9), .long (tp), .long (bl), .long (wt), .long (wb)])), (md 7, aJ g 85 bd), (md 9, aI g 5 (upd (fun j => nI (c2 j)) many (nI b))), (md 8, aJ g 5 w2), (md 6, aJ g 13000 s2)] H := hP
          have hD : va_D A [(md 0, .inr (4, [.int (xt), .int (nI mi), .int (nI mo), .int (nI mw), .ref (md 1), .ref (md 2), .ref (md 3), .int (nI ni), .int (nI no), .ref (md 4), .ref (md 5), .ref (md 6), .int (nI n2), .ref (md 7), .ref (md 8), .int (nI nb), .int (nI wd), .ref (md 9), .long (tp), .long (bl), .long (wt), .long (wb)])), (md 7, aJ g 85 bd), (md 9, aI g 5 (upd (fun j => nI (c2 j)) many (nI b))), (md 8, aJ g 5 w2), (md 6, aJ g 13000 s2)] := hD
          have e_3 : upd (fun j => nI (c2 j)) many (nI b) = fun j => nI (updN c2 many b j) := updN_nI _ _ _
          rw [e_3] at hP hD
          refine lv_aload_n hx hb dX4_choose_32 rfl (lv_at hl 0 rfl) ?_
          refine lv_iload_n hx hb dX4_choose_33 rfl (lv_at hl 1 rfl) ?_
          refine lv_iconst (v := nI 1) hx hb dX4_choose_34 (by decide) ?_
          refine lv_iadd hx hb dX4_choose_35 ?_
          refine k_ei (y := nI (many + 1)) (nI_add _ _) ?_
          refine lv_iload_n hx hb dX4_choose_36 rfl (lv_at hl 3 rfl) ?_
          refine lv_iconst (v := nI 1) hx hb dX4_choose_37 (by decide) ?_
          refine lv_iadd hx hb dX4_choose_38 ?_
          refine k_ei (y := nI (b + 1)) (nI_add _ _) ?_
          refine go_v (wc := [(md 0, .inr (4, [.int (xt), .int (nI mi), .int (nI mo), .int (nI mw), .ref (md 1), .ref (md 2), .ref (md 3), .int (nI ni), .int (nI no), .ref (md 4), .ref (md 5), .ref (md 6), .int (nI n2), .ref (md 7), .ref (md 8), .int (nI nb), .int (nI wd), .ref (md 9), .long (tp), .long (bl), .long (wt), .long (wb)])), (md 7, aJ g 85 bd), (md 9, aI g 5 (fun j => nI (updN c2 many b j))), (md 8, aJ g 5 w2), (md 6, aJ g 13000 s2)]) (wr := []) hP hD hS hA [0, 1, 2, 3, 4] [] rfl rfl rfl rfl (by decide) (fun hPc hDc => rn_V (As := [.int (nI (many + 1)), .int (nI (b + 1))]) (rest := []) ⟨hx, hb, hml, hown, hts⟩ ((c_X4_cho3 l g md xt mi mo mw ni no n2 nb wd tp bl wt wb bd (updN c2 many b) w2 s2 (many + 1) (b + 1) (by omega) (by omega) (by omega) (by omega) (by omega) (by omega) (by omega) (by omega) hc4) _) (cw_X4_choose_84_9_232 hts hN ⟨Nat.le_of_ble_eq_true rfl, Nat.le_of_ble_eq_true rfl⟩) hK hN hPc hDc 0 rfl rfl rfl rfl hl.1 (Nat.le_of_ble_eq_true rfl) dX4_choose_39 ⟨Nat.le_of_ble_eq_true rfl, Nat.le_of_ble_eq_true rfl⟩) ?_
          intro u_5 H locs h_6 hP hD hS
          have hP : va_P g.1 vwCl [(md 0, .inr (4, [.int (xt), .int (nI mi), .int (nI mo), .int (nI mw), .ref (md 1), .ref (md 2), .ref (md 3), .int (nI ni), .int (nI no), .ref (md 4), .ref (md 5), .ref (md 6), .int (nI ((chF bd nb wd (ni + no) 3 (many + 1) (b + 1) ((updN c2 many b), w2, s2, n2)).2.2.2)), .ref (md 7), .ref (md 8), .int (nI nb), .int (nI wd), .ref (md 9), .long (tp), .long (bl), .long (wt), .long (wb)])), (md 7, aJ g 85 bd), (md 9, aI g 5 (fun j => nI (((chF bd nb wd (ni + no) 3 (many + 1) (b + 1) ((updN c2 many b), w2, s2, n2)).1) j))), (md 8, aJ g 5 ((chF bd nb wd (ni + no) 3 (many + 1) (b + 1) ((updN c2 many b), w2, s2, n2)).2.1)), (md 6, aJ g 13000 ((chF bd nb wd (ni + no) 3 (many + 1) (b + 1) ((updN c2 many b), w2, s2, n2)).2.2.1))] H := hP.sub [0, 1, 2, 3, 4] rfl
          have hD : va_D A [(md 0, .inr (4, [.int (xt), .int (nI mi), .int (nI mo), .int (nI mw), .ref (md 1), .ref (md 2), .ref (md 3), .int (nI ni), .int (nI no), .ref (md 4), .ref (md 5), .ref (md 6), .int (nI ((chF bd nb wd (ni + no) 3 (many + 1) (b + 1) ((updN c2 many b), w2, s2, n2)).2.2.2)), .ref (md 7), .ref (md 8), .int (nI nb), .int (nI wd), .ref (md 9), .long (tp), .long (bl), .long (wt), .long (wb)])), (md 7, aJ g 85 bd), (md 9, aI g 5 (fun j => nI (((chF bd nb wd (ni + no) 3 (many + 1) (b + 1) ((updN c2 many b), w2, s2, n2)).1) j))), (md 8, aJ g 5 ((chF bd nb wd (ni + no) 3 (many + 1) (b + 1) ((updN c2 many b), w2, s2, n2)).2.1)), (md 6, aJ g 13000 ((chF bd nb wd (ni + no) 3 (many + 1) (b + 1) ((updN c2 many b), w2, s2, n2)).2.2.1))] := hD.sub [0, 1, 2, 3, 4] rfl rfl
          refine lv_iinc (v := nI (b + 1)) (lv' := [(3, .int (nI (b + 1))), (0, .ref (md 0)), (1, .int (nI many)), (2, .int (nI fr))]) hx hb dX4_choose_42 hl (k := 3) rfl (nI_inc1 b) (by decide) rfl (fun ls hl => ?_)
          refine lv_goto (tgt := 17) hx hb dX4_choose_45 (by decide) ?_
          exact ih_17 (b + 1) ((chF bd nb wd (ni + no) 3 (many + 1) (b + 1) ((updN c2 many b), w2, s2, n2)).1) ((chF bd nb wd (ni + no) 3 (many + 1) (b + 1) ((updN c2 many b), w2, s2, n2)).2.1) ((chF bd nb wd (ni + no) 3 (many + 1) (b + 1) ((updN c2 many b), w2, s2, n2)).2.2.1) ((chF bd nb wd (ni + no) 3 (many + 1) (b + 1) ((updN c2 many b), w2, s2, n2)).2.2.2) (by omega) (by omega) (by omega) hn3 hc3 hv2 _ _ hP hD hS ls (lv_sub hl [1, 2, 3, 0] rfl)
    exact lp_17 (nb - fr + 1) fr ch wy sd ns (by omega) (by omega) (by omega) hns hch rfl _ _ hP hD hS ls (lv_sub hl [1, 2, 3, 0] rfl)
  · skip
    have c_1 := (nI_eq (by omega) (by omega)).mp c_1
    omega
set_option maxHeartbeats 20000000 in
set_option maxRecDepth 100000 in
theorem c_X4_cht1 (l : Launch) (g : Gt) (md : Nat → Nat) (xt : Int32) (mi : Nat) (mo : Nat) (mw : Nat) (ni : Nat) (no : Nat) (ns : Nat) (nb : Nat) (wd : Nat) (tp : Int64) (bl : Int64) (wt : Int64) (wb : Int64) (bd : Nat → Int64) (ch : Nat → Nat) (wy : Nat → Int64) (sd : Nat → Int64) (many : Nat) (fr : Nat) (hm : many + 1 + 1 = wd) (hfr2 : fr ≤ 17) (hns : ns + bnm (nb - fr) 1 ≤ 2600) (hni : ni ≤ 2) (hno : no ≤ 2) (hw2 : 2 ≤ wd) (hwd : wd ≤ 5) (hnb : nb ≤ 17) (hch : ∀ j : Nat, j < many → ch j < 17) : CV l yX4_choose wsX4_choose { frames := 10, cells := 0, slots := 0, locals := 255 } g [.ref (md 0), .int (nI many), .int (nI fr)] [(md 0, .inr (4, [.int (xt), .int (nI mi), .int (nI mo), .int (nI mw), .ref (md 1), .ref (md 2), .ref (md 3), .int (nI ni), .int (nI no), .ref (md 4), .ref (md 5), .ref (md 6), .int (nI ns), .ref (md 7), .ref (md 8), .int (nI nb), .int (nI wd), .ref (md 9), .long (tp), .long (bl), .long (wt), .long (wb)])), (md 7, aJ g 85 bd), (md 9, aI g 5 (fun j => nI (ch j))), (md 8, aJ g 5 wy), (md 6, aJ g 13000 sd)] (fun (zu : Unit) => True) (fun (zu : Unit) => [(md 0, .inr (4, [.int (xt), .int (nI mi), .int (nI mo), .int (nI mw), .ref (md 1), .ref (md 2), .ref (md 3), .int (nI ni), .int (nI no), .ref (md 4), .ref (md 5), .ref (md 6), .int (nI ((chF bd nb wd (ni + no) 1 many fr (ch, wy, sd, ns)).2.2.2)), .ref (md 7), .ref (md 8), .int (nI nb), .int (nI wd), .ref (md 9), .long (tp), .long (bl), .long (wt), .long (wb)])), (md 7, aJ g 85 bd), (md 9, aI g 5 (fun j => nI (((chF bd nb wd (ni + no) 1 many fr (ch, wy, sd, ns)).1) j))), (md 8, aJ g 5 ((chF bd nb wd (ni + no) 1 many fr (ch, wy, sd, ns)).2.1)), (md 6, aJ g 13000 ((chF bd nb wd (ni + no) 1 many fr (ch, wy, sd, ns)).2.2.1))]) 0 0 := by
  refine ent_v (cc := cX4_choose) (maxL := 4) (by decide) rfl (Nat.le_of_ble_eq_true rfl) ?_
  intro p e s m below meth c A args Q hE ret ls hl
  obtain ⟨hx, hb, hml, hown, hts, hnm, hA, hP, hD, hK, hN⟩ := hE
  have hS : va_S A s.heap s.heap [] := va_S.rf
  have hl : lv_has ls 4 [(0, .ref (md 0)), (1, .int (nI many)), (2, .int (nI fr))] := hl
  have hP : va_P g.1 vwCl [(md 0, .inr (4, [.int (xt), .int (nI mi), .int (nI mo), .int (nI mw), .ref (md 1), .ref (md 2), .ref (md 3), .int (nI ni), .int (nI no), .ref (md 4), .ref (md 5), .ref (md 6), .int (nI ns), .ref (md 7), .ref (md 8), .int (nI nb), .int (nI wd), .ref (md 9), .long (tp), .long (bl), .long (wt), .long (wb)])), (md 7, aJ g 85 bd), (md 9, aI g 5 (fun j => nI (ch j))), (md 8, aJ g 5 wy), (md 6, aJ g 13000 sd)] s.heap := hP
  refine lv_iload_n hx hb dX4_choose_0 rfl (lv_at hl 1 rfl) ?_
  refine lv_aload_n hx hb dX4_choose_1 rfl (lv_at hl 0 rfl) ?_
  refine k_get hx hb hts hown hK hP iw_X4_choose_X4 rfl 0 16 fm_X4_choose_70 (by decide) rfl rfl dX4_choose_2 ?_
  refine lv_iconst (v := nI 1) hx hb dX4_choose_5 (by decide) ?_
  refine lv_isub hx hb dX4_choose_6 ?_
  refine k_ei (y := nI (wd - 1)) (pk_sub (by omega)) ?_
  refine lv_icmp_ne (tgt := 15) hx hb dX4_choose_7 (by decide) (fun c_1 => ?_) (fun c_1 => ?_)
  · skip
    have c_1 := mt (nI_eq (by omega) (by omega)).mpr c_1
    refine lv_iload_n hx hb dX4_choose_15 rfl (lv_at hl 2 rfl) ?_
    refine lv_istore_n (lv' := [(3, .int (nI fr)), (0, .ref (md 0)), (1, .int (nI many)), (2, .int (nI fr))]) hx hb dX4_choose_16 rfl hl (by decide) rfl (fun ls hl => ?_)
    have lp_17 : ∀ (n : Nat) (b : Nat) (c2 : Nat → Nat) (w2 : Nat → Int64) (s2 : Nat → Int64) (n2 : Nat), nb - b < n → b ≤ 17 → fr ≤ b → n2 + bnm (nb - b) 1 ≤ 2600 → (∀ j : Nat, j < many → c2 j < 17) → chF bd nb wd (ni + no) 1 many fr (ch, wy, sd, ns) = chG (fun m f z => chF bd nb wd (ni + no) 0 m f z) many b (nb - b) (c2, w2, s2, n2) → ∀ (H : Heap) (locs : List Loc), va_P g.1 vwCl [(md 0, .inr (4, [.int (xt), .int (nI mi), .int (nI mo), .int (nI mw), .ref (md 1), .ref (md 2), .ref (md 3), .int (nI ni), .int (nI no), .ref (md 4), .ref (md 5), .ref (md 6), .int (nI n2), .ref (md 7), .ref (md 8), .int (nI nb), .int (nI wd), .ref (md 9), .long (tp), .long (bl), .long (wt), .long (wb)])), (md 7, aJ g 85 bd), (md 9, aI g 5 (fun j => nI (c2 j))), (md 8, aJ g 5 w2), (md 6, aJ g 13000 s2)] H → va_D A [(md 0, .inr (4, [.int (xt), .int (nI mi), .int (nI mo), .int (nI mw), .ref (md 1), .ref (md 2), .ref (md 3), .int (nI ni), .int (nI no), .ref (md 4), .ref (md 5), .ref (md 6), .int (nI n2), .ref (md 7), .ref (md 8), .int (nI nb), .int (nI wd), .ref (md 9), .long (tp), .long (bl), .long (wt), .long (wb)])), (md 7, aJ g 85 bd), (md 9, aI g 5 (fun j => nI (c2 j))), (md 8, aJ g 5 w2), (md 6, aJ g 13000 s2)] → va_S A s.heap H locs → ∀ ls : Array Slot, lv_has ls 4 [(0, .ref (md 0)), (1, .int (nI many)), (2, .int (nI fr)), (3, .int (nI b))] → W p l e { frames := 10, cells := 0, slots := 0, locals := 255 } s m args below meth c H locs 0 0 Q (F0 m 17 ls []) := by
      intro n
      induction n with
      | zero =>
        intro b c2 w2 s2 n2 hms
        omega
      | succ n ih_17 =>
        intro b c2 w2 s2 n2 hms_17 hb3 hb4 hn2 hc2 hv H locs hP hD hS ls hl
        refine lv_iload_n hx hb dX4_choose_17 rfl (lv_at hl 3 rfl) ?_
        refine lv_aload_n hx hb dX4_choose_18 rfl (lv_at hl 0 rfl) ?_
        refine k_get hx hb hts hown hK hP iw_X4_choose_X4 rfl 0 15 fm_X4_choose_73 (by decide) rfl rfl dX4_choose_19 ?_
        refine lv_icmp_ge (tgt := 48) hx hb dX4_choose_22 (by decide) (fun c_2 => ?_) (fun c_2 => ?_)
        · skip
          have c_2 := (nI_leI (by omega) (by omega)).mp c_2
          have hfin : chF bd nb wd (ni + no) 1 many fr (ch, wy, sd, ns) = (c2, w2, s2, n2) := by rw [hv, show nb - b = 0 by omega]; rfl
          have hP : va_P g.1 vwCl [(md 0, .inr (4, [.int (xt), .int (nI mi), .int (nI mo), .int (nI mw), .ref (md 1), .ref (md 2), .ref (md 3), .int (nI ni), .int (nI no), .ref (md 4), .ref (md 5), .ref (md 6), .int (nI ((chF bd nb wd (ni + no) 1 many fr (ch, wy, sd, ns)).2.2.2)), .ref (md 7), .ref (md 8), .int (nI nb), .int (nI wd), .ref (md 9), .long (tp), .long (bl), .long (wt), .long (wb)])), (md 7, aJ g 85 bd), (md 9, aI g 5 (fun j => nI (((chF bd nb wd (ni + no) 1 many fr (ch, wy, sd, ns)).1) j))), (md 8, aJ g 5 ((chF bd nb wd (ni + no) 1 many fr (ch, wy, sd, ns)).2.1)), (md 6, aJ g 13000 ((chF bd nb wd (ni + no) 1 many fr (ch, wy, sd, ns)).2.2.1))] H := by rw [hfin]; exact hP
          have hD : va_D A [(md 0, .inr (4, [.int (xt), .int (nI mi), .int (nI mo), .int (nI mw), .ref (md 1), .ref (md 2), .ref (md 3), .int (nI ni), .int (nI no), .ref (md 4), .ref (md 5), .ref (md 6), .int (nI ((chF bd nb wd (ni + no) 1 many fr (ch, wy, sd, ns)).2.2.2)), .ref (md 7), .ref (md 8), .int (nI nb), .int (nI wd), .ref (md 9), .long (tp), .long (bl), .long (wt), .long (wb)])), (md 7, aJ g 85 bd), (md 9, aI g 5 (fun j => nI (((chF bd nb wd (ni + no) 1 many fr (ch, wy, sd, ns)).1) j))), (md 8, aJ g 5 ((chF bd nb wd (ni + no) 1 many fr (ch, wy, sd, ns)).2.1)), (md 6, aJ g 13000 ((chF bd nb wd (ni + no) 1 many fr (ch, wy, sd, ns)).2.2.1))] := by rw [hfin]; exact hD
          exact ret dX4_choose_48 () (trivial) hP hD hS
        · skip
          have c_2 := mt (nI_leI (by omega) (by omega)).mpr c_2
          have hbb : bnm (nb - b) 1 = bnm (nb - (b + 1)) 0 + bnm (nb - (b + 1)) 1 := by rw [show nb - b = (nb - (b + 1)) + 1 by omega]; rfl
          have hq3 := chF_ns bd nb wd (ni + no) 0 (many + 1) (b + 1) (updN c2 many b, w2, s2, n2)
          have hn3 : (chF bd nb wd (ni + no) 0 (many + 1) (b + 1) (updN c2 many b, w2, s2, n2)).2.2.2 + bnm (nb - (b + 1)) 1 ≤ 2600 := by simp only at hq3; omega
          have hc4 : ∀ j : Nat, j < many + 1 → updN c2 many b j < 17 := fun j hj => by
            unfold updN
            split
            · omega
            · exact hc2 j (by omega)
          have hc3 : ∀ j : Nat, j < many → (chF bd nb wd (ni + no) 0 (many + 1) (b + 1) (updN c2 many b, w2, s2, n2)).1 j < 17 := fun j hj => by rw [chF_ch bd nb wd (ni + no) 0 (many + 1) (b + 1) _ j (by omega)]; exact hc4 j (by omega)
          have hv2 : chF bd nb wd (ni + no) 1 many fr (ch, wy, sd, ns) = chG (fun m f z => chF bd nb wd (ni + no) 0 m f z) many (b + 1) (nb - (b + 1)) (chF bd nb wd (ni + no) 0 (many + 1) (b + 1) (updN c2 many b, w2, s2, n2)) := by rw [hv, show nb - b = (nb - (b + 1)) + 1 by omega, chG]
          refine lv_aload_n hx hb dX4_choose_25 rfl (lv_at hl 0 rfl) ?_
          refine k_get hx hb hts hown hK hP iw_X4_choose_X4 rfl 0 17 fm_X4_choose_43 (by decide) rfl rfl dX4_choose_26 ?_
          refine lv_iload_n hx hb dX4_choose_29 rfl (lv_at hl 1 rfl) ?_
          refine lv_iload_n hx hb dX4_choose_30 rfl (lv_at hl 3 rfl) ?_
          refine k_iast hx hb hK hP hD hS 2 rfl (by omega) (by omega) dX4_choose_31 (fun H locs hP hD hS => ?_)
          have hP : va_P g.1 vwCl [(md 0, .inr (4, [.int (xt), .int (nI mi), .int (nI mo), .int (nI mw), .ref (md 1), .ref (md 2), .ref (md 3), .int (nI ni), .int (nI no), .ref (md 4), .ref (md 5), .ref (md 6), .int (nI n2), .ref (md 7), .ref (md 8), .int (nI nb), .int (nI wd), .ref (md 9), .long (tp), .long (bl), .long (wt), .long (wb)])), (md 7, aJ g 85 bd), (md 9, aI g 5 (upd (fun j => nI (c2 j)) many (nI b))), (md 8, aJ g 5 w2), (md 6, aJ g 13000 s2)] H := hP
          have hD : va_D A [(md 0, .inr (4, [.int (xt), .int (nI mi), .int (nI mo), .int (nI mw), .ref (md 1), .ref (md 2), .ref (md 3), .int (nI ni), .int (nI no), .ref (md 4), .ref (md 5), .ref (md 6), .int (nI n2), .ref (md 7), .ref (md 8), .int (nI nb), .int (nI wd), .ref (md 9), .long (tp), .long (bl), .long (wt), .long (wb)])), (md 7, aJ g 85 bd), (md 9, aI g 5 (upd (fun j => nI (c2 j)) many (nI b))), (md 8, aJ g 5 w2), (md 6, aJ g 13000 s2)] := hD
          have e_3 : upd (fun j => nI (c2 j)) many (nI b) = fun j => nI (updN c2 many b j) := updN_nI _ _ _
          rw [e_3] at hP hD
          refine lv_aload_n hx hb dX4_choose_32 rfl (lv_at hl 0 rfl) ?_
          refine lv_iload_n hx hb dX4_choose_33 rfl (lv_at hl 1 rfl) ?_
          refine lv_iconst (v := nI 1) hx hb dX4_choose_34 (by decide) ?_
          refine lv_iadd hx hb dX4_choose_35 ?_
          refine k_ei (y := nI (many + 1)) (nI_add _ _) ?_
          refine lv_iload_n hx hb dX4_choose_36 rfl (lv_at hl 3 rfl) ?_
          refine lv_iconst (v := nI 1) hx hb dX4_choose_37 (by decide) ?_
          refine lv_iadd hx hb dX4_choose_38 ?_
          refine k_ei (y := nI (b + 1)) (nI_add _ _) ?_
          refine go_v (wc := [(md 0, .inr (4, [.int (xt), .int (nI mi), .int (nI mo), .int (nI mw), .ref (md 1), .ref (md 2), .ref (md 3), .int (nI ni), .int (nI no), .ref (md 4), .ref (md 5), .ref (md 6), .int (nI n2), .ref (md 7), .ref (md 8), .int (nI nb), .int (nI wd), .ref (md 9), .long (tp), .long (bl), .long (wt), .long (wb)])), (md 7, aJ g 85 bd), (md 9, aI g 5 (fun j => nI (updN c2 many b j))), (md 8, aJ g 5 w2), (md 6, aJ g 13000 s2)]) (wr := []) hP hD hS hA [0, 1, 2, 3, 4] [] rfl rfl rfl rfl (by decide) (fun hPc hDc => rn_V (As := [.int (nI (many + 1)), .int (nI (b + 1))]) (rest := []) ⟨hx, hb, hml, hown, hts⟩ ((c_X4_cho0 l g md xt mi mo mw ni no n2 nb wd tp bl wt wb bd (updN c2 many b) w2 s2 (many + 1) (b + 1) (by omega) (by omega) (by omega) (by omega) (by omega) (by omega) (by omega) (by omega) hc4) _) (cw_X4_choose_84_6_163 hts hN ⟨Nat.le_of_ble_eq_true rfl, Nat.le_of_ble_eq_true rfl⟩) hK hN hPc hDc 0 rfl rfl rfl rfl hl.1 (Nat.le_of_ble_eq_true rfl) dX4_choose_39 ⟨Nat.le_of_ble_eq_true rfl, Nat.le_of_ble_eq_true rfl⟩) ?_
          intro u_5 H locs h_6 hP hD hS
          have hP : va_P g.1 vwCl [(md 0, .inr (4, [.int (xt), .int (nI mi), .int (nI mo), .int (nI mw), .ref (md 1), .ref (md 2), .ref (md 3), .int (nI ni), .int (nI no), .ref (md 4), .ref (md 5), .ref (md 6), .int (nI ((chF bd nb wd (ni + no) 0 (many + 1) (b + 1) ((updN c2 many b), w2, s2, n2)).2.2.2)), .ref (md 7), .ref (md 8), .int (nI nb), .int (nI wd), .ref (md 9), .long (tp), .long (bl), .long (wt), .long (wb)])), (md 7, aJ g 85 bd), (md 9, aI g 5 (fun j => nI (((chF bd nb wd (ni + no) 0 (many + 1) (b + 1) ((updN c2 many b), w2, s2, n2)).1) j))), (md 8, aJ g 5 ((chF bd nb wd (ni + no) 0 (many + 1) (b + 1) ((updN c2 many b), w2, s2, n2)).2.1)), (md 6, aJ g 13000 ((chF bd nb wd (ni + no) 0 (many + 1) (b + 1) ((updN c2 many b), w2, s2, n2)).2.2.1))] H := hP.sub [0, 1, 2, 3, 4] rfl
          have hD : va_D A [(md 0, .inr (4, [.int (xt), .int (nI mi), .int (nI mo), .int (nI mw), .ref (md 1), .ref (md 2), .ref (md 3), .int (nI ni), .int (nI no), .ref (md 4), .ref (md 5), .ref (md 6), .int (nI ((chF bd nb wd (ni + no) 0 (many + 1) (b + 1) ((updN c2 many b), w2, s2, n2)).2.2.2)), .ref (md 7), .ref (md 8), .int (nI nb), .int (nI wd), .ref (md 9), .long (tp), .long (bl), .long (wt), .long (wb)])), (md 7, aJ g 85 bd), (md 9, aI g 5 (fun j => nI (((chF bd nb wd (ni + no) 0 (many + 1) (b + 1) ((updN c2 many b), w2, s2, n2)).1) j))), (md 8, aJ g 5 ((chF bd nb wd (ni + no) 0 (many + 1) (b + 1) ((updN c2 many b), w2, s2, n2)).2.1)), (md 6, aJ g 13000 ((chF bd nb wd (ni + no) 0 (many + 1) (b + 1) ((updN c2 many b), w2, s2, n2)).2.2.1))] := hD.sub [0, 1, 2, 3, 4] rfl rfl
          refine lv_iinc (v := nI (b + 1)) (lv' := [(3, .int (nI (b + 1))), (0, .ref (md 0)), (1, .int (nI many)), (2, .int (nI fr))]) hx hb dX4_choose_42 hl (k := 3) rfl (nI_inc1 b) (by decide) rfl (fun ls hl => ?_)
          refine lv_goto (tgt := 17) hx hb dX4_choose_45 (by decide) ?_
          exact ih_17 (b + 1) ((chF bd nb wd (ni + no) 0 (many + 1) (b + 1) ((updN c2 many b), w2, s2, n2)).1) ((chF bd nb wd (ni + no) 0 (many + 1) (b + 1) ((updN c2 many b), w2, s2, n2)).2.1) ((chF bd nb wd (ni + no) 0 (many + 1) (b + 1) ((updN c2 many b), w2, s2, n2)).2.2.1) ((chF bd nb wd (ni + no) 0 (many + 1) (b + 1) ((updN c2 many b), w2, s2, n2)).2.2.2) (by omega) (by omega) (by omega) hn3 hc3 hv2 _ _ hP hD hS ls (lv_sub hl [1, 2, 3, 0] rfl)
    exact lp_17 (nb - fr + 1) fr ch wy sd ns (by omega) (by omega) (by omega) hns hch rfl _ _ hP hD hS ls (lv_sub hl [1, 2, 3, 0] rfl)
  · skip
    have c_1 := (nI_eq (by omega) (by omega)).mp c_1
    omega
set_option maxHeartbeats 20000000 in
set_option maxRecDepth 100000 in
theorem c_X4_cht2 (l : Launch) (g : Gt) (md : Nat → Nat) (xt : Int32) (mi : Nat) (mo : Nat) (mw : Nat) (ni : Nat) (no : Nat) (ns : Nat) (nb : Nat) (wd : Nat) (tp : Int64) (bl : Int64) (wt : Int64) (wb : Int64) (bd : Nat → Int64) (ch : Nat → Nat) (wy : Nat → Int64) (sd : Nat → Int64) (many : Nat) (fr : Nat) (hm : many + 2 + 1 = wd) (hfr2 : fr ≤ 17) (hns : ns + bnm (nb - fr) 2 ≤ 2600) (hni : ni ≤ 2) (hno : no ≤ 2) (hw2 : 2 ≤ wd) (hwd : wd ≤ 5) (hnb : nb ≤ 17) (hch : ∀ j : Nat, j < many → ch j < 17) : CV l yX4_choose wsX4_choose { frames := 10, cells := 0, slots := 0, locals := 255 } g [.ref (md 0), .int (nI many), .int (nI fr)] [(md 0, .inr (4, [.int (xt), .int (nI mi), .int (nI mo), .int (nI mw), .ref (md 1), .ref (md 2), .ref (md 3), .int (nI ni), .int (nI no), .ref (md 4), .ref (md 5), .ref (md 6), .int (nI ns), .ref (md 7), .ref (md 8), .int (nI nb), .int (nI wd), .ref (md 9), .long (tp), .long (bl), .long (wt), .long (wb)])), (md 7, aJ g 85 bd), (md 9, aI g 5 (fun j => nI (ch j))), (md 8, aJ g 5 wy), (md 6, aJ g 13000 sd)] (fun (zu : Unit) => True) (fun (zu : Unit) => [(md 0, .inr (4, [.int (xt), .int (nI mi), .int (nI mo), .int (nI mw), .ref (md 1), .ref (md 2), .ref (md 3), .int (nI ni), .int (nI no), .ref (md 4), .ref (md 5), .ref (md 6), .int (nI ((chF bd nb wd (ni + no) 2 many fr (ch, wy, sd, ns)).2.2.2)), .ref (md 7), .ref (md 8), .int (nI nb), .int (nI wd), .ref (md 9), .long (tp), .long (bl), .long (wt), .long (wb)])), (md 7, aJ g 85 bd), (md 9, aI g 5 (fun j => nI (((chF bd nb wd (ni + no) 2 many fr (ch, wy, sd, ns)).1) j))), (md 8, aJ g 5 ((chF bd nb wd (ni + no) 2 many fr (ch, wy, sd, ns)).2.1)), (md 6, aJ g 13000 ((chF bd nb wd (ni + no) 2 many fr (ch, wy, sd, ns)).2.2.1))]) 0 0 := by
  refine ent_v (cc := cX4_choose) (maxL := 4) (by decide) rfl (Nat.le_of_ble_eq_true rfl) ?_
  intro p e s m below meth c A args Q hE ret ls hl
  obtain ⟨hx, hb, hml, hown, hts, hnm, hA, hP, hD, hK, hN⟩ := hE
  have hS : va_S A s.heap s.heap [] := va_S.rf
  have hl : lv_has ls 4 [(0, .ref (md 0)), (1, .int (nI many)), (2, .int (nI fr))] := hl
  have hP : va_P g.1 vwCl [(md 0, .inr (4, [.int (xt), .int (nI mi), .int (nI mo), .int (nI mw), .ref (md 1), .ref (md 2), .ref (md 3), .int (nI ni), .int (nI no), .ref (md 4), .ref (md 5), .ref (md 6), .int (nI ns), .ref (md 7), .ref (md 8), .int (nI nb), .int (nI wd), .ref (md 9), .long (tp), .long (bl), .long (wt), .long (wb)])), (md 7, aJ g 85 bd), (md 9, aI g 5 (fun j => nI (ch j))), (md 8, aJ g 5 wy), (md 6, aJ g 13000 sd)] s.heap := hP
  refine lv_iload_n hx hb dX4_choose_0 rfl (lv_at hl 1 rfl) ?_
  refine lv_aload_n hx hb dX4_choose_1 rfl (lv_at hl 0 rfl) ?_
  refine k_get hx hb hts hown hK hP iw_X4_choose_X4 rfl 0 16 fm_X4_choose_70 (by decide) rfl rfl dX4_choose_2 ?_
  refine lv_iconst (v := nI 1) hx hb dX4_choose_5 (by decide) ?_
  refine lv_isub hx hb dX4_choose_6 ?_
  refine k_ei (y := nI (wd - 1)) (pk_sub (by omega)) ?_
  refine lv_icmp_ne (tgt := 15) hx hb dX4_choose_7 (by decide) (fun c_1 => ?_) (fun c_1 => ?_)
  · skip
    have c_1 := mt (nI_eq (by omega) (by omega)).mpr c_1
    refine lv_iload_n hx hb dX4_choose_15 rfl (lv_at hl 2 rfl) ?_
    refine lv_istore_n (lv' := [(3, .int (nI fr)), (0, .ref (md 0)), (1, .int (nI many)), (2, .int (nI fr))]) hx hb dX4_choose_16 rfl hl (by decide) rfl (fun ls hl => ?_)
    have lp_17 : ∀ (n : Nat) (b : Nat) (c2 : Nat → Nat) (w2 : Nat → Int64) (s2 : Nat → Int64) (n2 : Nat), nb - b < n → b ≤ 17 → fr ≤ b → n2 + bnm (nb - b) 2 ≤ 2600 → (∀ j : Nat, j < many → c2 j < 17) → chF bd nb wd (ni + no) 2 many fr (ch, wy, sd, ns) = chG (fun m f z => chF bd nb wd (ni + no) 1 m f z) many b (nb - b) (c2, w2, s2, n2) → ∀ (H : Heap) (locs : List Loc), va_P g.1 vwCl [(md 0, .inr (4, [.int (xt), .int (nI mi), .int (nI mo), .int (nI mw), .ref (md 1), .ref (md 2), .ref (md 3), .int (nI ni), .int (nI no), .ref (md 4), .ref (md 5), .ref (md 6), .int (nI n2), .ref (md 7), .ref (md 8), .int (nI nb), .int (nI wd), .ref (md 9), .long (tp), .long (bl), .long (wt), .long (wb)])), (md 7, aJ g 85 bd), (md 9, aI g 5 (fun j => nI (c2 j))), (md 8, aJ g 5 w2), (md 6, aJ g 13000 s2)] H → va_D A [(md 0, .inr (4, [.int (xt), .int (nI mi), .int (nI mo), .int (nI mw), .ref (md 1), .ref (md 2), .ref (md 3), .int (nI ni), .int (nI no), .ref (md 4), .ref (md 5), .ref (md 6), .int (nI n2), .ref (md 7), .ref (md 8), .int (nI nb), .int (nI wd), .ref (md 9), .long (tp), .long (bl), .long (wt), .long (wb)])), (md 7, aJ g 85 bd), (md 9, aI g 5 (fun j => nI (c2 j))), (md 8, aJ g 5 w2), (md 6, aJ g 13000 s2)] → va_S A s.heap H locs → ∀ ls : Array Slot, lv_has ls 4 [(0, .ref (md 0)), (1, .int (nI many)), (2, .int (nI fr)), (3, .int (nI b))] → W p l e { frames := 10, cells := 0, slots := 0, locals := 255 } s m args below meth c H locs 0 0 Q (F0 m 17 ls []) := by
      intro n
      induction n with
      | zero =>
        intro b c2 w2 s2 n2 hms
        omega
      | succ n ih_17 =>
        intro b c2 w2 s2 n2 hms_17 hb3 hb4 hn2 hc2 hv H locs hP hD hS ls hl
        refine lv_iload_n hx hb dX4_choose_17 rfl (lv_at hl 3 rfl) ?_
        refine lv_aload_n hx hb dX4_choose_18 rfl (lv_at hl 0 rfl) ?_
        refine k_get hx hb hts hown hK hP iw_X4_choose_X4 rfl 0 15 fm_X4_choose_73 (by decide) rfl rfl dX4_choose_19 ?_
        refine lv_icmp_ge (tgt := 48) hx hb dX4_choose_22 (by decide) (fun c_2 => ?_) (fun c_2 => ?_)
        · skip
          have c_2 := (nI_leI (by omega) (by omega)).mp c_2
          have hfin : chF bd nb wd (ni + no) 2 many fr (ch, wy, sd, ns) = (c2, w2, s2, n2) := by rw [hv, show nb - b = 0 by omega]; rfl
          have hP : va_P g.1 vwCl [(md 0, .inr (4, [.int (xt), .int (nI mi), .int (nI mo), .int (nI mw), .ref (md 1), .ref (md 2), .ref (md 3), .int (nI ni), .int (nI no), .ref (md 4), .ref (md 5), .ref (md 6), .int (nI ((chF bd nb wd (ni + no) 2 many fr (ch, wy, sd, ns)).2.2.2)), .ref (md 7), .ref (md 8), .int (nI nb), .int (nI wd), .ref (md 9), .long (tp), .long (bl), .long (wt), .long (wb)])), (md 7, aJ g 85 bd), (md 9, aI g 5 (fun j => nI (((chF bd nb wd (ni + no) 2 many fr (ch, wy, sd, ns)).1) j))), (md 8, aJ g 5 ((chF bd nb wd (ni + no) 2 many fr (ch, wy, sd, ns)).2.1)), (md 6, aJ g 13000 ((chF bd nb wd (ni + no) 2 many fr (ch, wy, sd, ns)).2.2.1))] H := by rw [hfin]; exact hP
          have hD : va_D A [(md 0, .inr (4, [.int (xt), .int (nI mi), .int (nI mo), .int (nI mw), .ref (md 1), .ref (md 2), .ref (md 3), .int (nI ni), .int (nI no), .ref (md 4), .ref (md 5), .ref (md 6), .int (nI ((chF bd nb wd (ni + no) 2 many fr (ch, wy, sd, ns)).2.2.2)), .ref (md 7), .ref (md 8), .int (nI nb), .int (nI wd), .ref (md 9), .long (tp), .long (bl), .long (wt), .long (wb)])), (md 7, aJ g 85 bd), (md 9, aI g 5 (fun j => nI (((chF bd nb wd (ni + no) 2 many fr (ch, wy, sd, ns)).1) j))), (md 8, aJ g 5 ((chF bd nb wd (ni + no) 2 many fr (ch, wy, sd, ns)).2.1)), (md 6, aJ g 13000 ((chF bd nb wd (ni + no) 2 many fr (ch, wy, sd, ns)).2.2.1))] := by rw [hfin]; exact hD
          exact ret dX4_choose_48 () (trivial) hP hD hS
        · skip
          have c_2 := mt (nI_leI (by omega) (by omega)).mpr c_2
          have hbb : bnm (nb - b) 2 = bnm (nb - (b + 1)) 1 + bnm (nb - (b + 1)) 2 := by rw [show nb - b = (nb - (b + 1)) + 1 by omega]; rfl
          have hq3 := chF_ns bd nb wd (ni + no) 1 (many + 1) (b + 1) (updN c2 many b, w2, s2, n2)
          have hn3 : (chF bd nb wd (ni + no) 1 (many + 1) (b + 1) (updN c2 many b, w2, s2, n2)).2.2.2 + bnm (nb - (b + 1)) 2 ≤ 2600 := by simp only at hq3; omega
          have hc4 : ∀ j : Nat, j < many + 1 → updN c2 many b j < 17 := fun j hj => by
            unfold updN
            split
            · omega
            · exact hc2 j (by omega)
          have hc3 : ∀ j : Nat, j < many → (chF bd nb wd (ni + no) 1 (many + 1) (b + 1) (updN c2 many b, w2, s2, n2)).1 j < 17 := fun j hj => by rw [chF_ch bd nb wd (ni + no) 1 (many + 1) (b + 1) _ j (by omega)]; exact hc4 j (by omega)
          have hv2 : chF bd nb wd (ni + no) 2 many fr (ch, wy, sd, ns) = chG (fun m f z => chF bd nb wd (ni + no) 1 m f z) many (b + 1) (nb - (b + 1)) (chF bd nb wd (ni + no) 1 (many + 1) (b + 1) (updN c2 many b, w2, s2, n2)) := by rw [hv, show nb - b = (nb - (b + 1)) + 1 by omega, chG]
          refine lv_aload_n hx hb dX4_choose_25 rfl (lv_at hl 0 rfl) ?_
          refine k_get hx hb hts hown hK hP iw_X4_choose_X4 rfl 0 17 fm_X4_choose_43 (by decide) rfl rfl dX4_choose_26 ?_
          refine lv_iload_n hx hb dX4_choose_29 rfl (lv_at hl 1 rfl) ?_
          refine lv_iload_n hx hb dX4_choose_30 rfl (lv_at hl 3 rfl) ?_
          refine k_iast hx hb hK hP hD hS 2 rfl (by omega) (by omega) dX4_choose_31 (fun H locs hP hD hS => ?_)
          have hP : va_P g.1 vwCl [(md 0, .inr (4, [.int (xt), .int (nI mi), .int (nI mo), .int (nI mw), .ref (md 1), .ref (md 2), .ref (md 3), .int (nI ni), .int (nI no), .ref (md 4), .ref (md 5), .ref (md 6), .int (nI n2), .ref (md 7), .ref (md 8), .int (nI nb), .int (nI wd), .ref (md 9), .long (tp), .long (bl), .long (wt), .long (wb)])), (md 7, aJ g 85 bd), (md 9, aI g 5 (upd (fun j => nI (c2 j)) many (nI b))), (md 8, aJ g 5 w2), (md 6, aJ g 13000 s2)] H := hP
          have hD : va_D A [(md 0, .inr (4, [.int (xt), .int (nI mi), .int (nI mo), .int (nI mw), .ref (md 1), .ref (md 2), .ref (md 3), .int (nI ni), .int (nI no), .ref (md 4), .ref (md 5), .ref (md 6), .int (nI n2), .ref (md 7), .ref (md 8), .int (nI nb), .int (nI wd), .ref (md 9), .long (tp), .long (bl), .long (wt), .long (wb)])), (md 7, aJ g 85 bd), (md 9, aI g 5 (upd (fun j => nI (c2 j)) many (nI b))), (md 8, aJ g 5 w2), (md 6, aJ g 13000 s2)] := hD
          have e_3 : upd (fun j => nI (c2 j)) many (nI b) = fun j => nI (updN c2 many b j) := updN_nI _ _ _
          rw [e_3] at hP hD
          refine lv_aload_n hx hb dX4_choose_32 rfl (lv_at hl 0 rfl) ?_
          refine lv_iload_n hx hb dX4_choose_33 rfl (lv_at hl 1 rfl) ?_
          refine lv_iconst (v := nI 1) hx hb dX4_choose_34 (by decide) ?_
          refine lv_iadd hx hb dX4_choose_35 ?_
          refine k_ei (y := nI (many + 1)) (nI_add _ _) ?_
          refine lv_iload_n hx hb dX4_choose_36 rfl (lv_at hl 3 rfl) ?_
          refine lv_iconst (v := nI 1) hx hb dX4_choose_37 (by decide) ?_
          refine lv_iadd hx hb dX4_choose_38 ?_
          refine k_ei (y := nI (b + 1)) (nI_add _ _) ?_
          refine go_v (wc := [(md 0, .inr (4, [.int (xt), .int (nI mi), .int (nI mo), .int (nI mw), .ref (md 1), .ref (md 2), .ref (md 3), .int (nI ni), .int (nI no), .ref (md 4), .ref (md 5), .ref (md 6), .int (nI n2), .ref (md 7), .ref (md 8), .int (nI nb), .int (nI wd), .ref (md 9), .long (tp), .long (bl), .long (wt), .long (wb)])), (md 7, aJ g 85 bd), (md 9, aI g 5 (fun j => nI (updN c2 many b j))), (md 8, aJ g 5 w2), (md 6, aJ g 13000 s2)]) (wr := []) hP hD hS hA [0, 1, 2, 3, 4] [] rfl rfl rfl rfl (by decide) (fun hPc hDc => rn_V (As := [.int (nI (many + 1)), .int (nI (b + 1))]) (rest := []) ⟨hx, hb, hml, hown, hts⟩ ((c_X4_cho1 l g md xt mi mo mw ni no n2 nb wd tp bl wt wb bd (updN c2 many b) w2 s2 (many + 1) (b + 1) (by omega) (by omega) (by omega) (by omega) (by omega) (by omega) (by omega) (by omega) hc4) _) (cw_X4_choose_84_7_186 hts hN ⟨Nat.le_of_ble_eq_true rfl, Nat.le_of_ble_eq_true rfl⟩) hK hN hPc hDc 0 rfl rfl rfl rfl hl.1 (Nat.le_of_ble_eq_true rfl) dX4_choose_39 ⟨Nat.le_of_ble_eq_true rfl, Nat.le_of_ble_eq_true rfl⟩) ?_
          intro u_5 H locs h_6 hP hD hS
          have hP : va_P g.1 vwCl [(md 0, .inr (4, [.int (xt), .int (nI mi), .int (nI mo), .int (nI mw), .ref (md 1), .ref (md 2), .ref (md 3), .int (nI ni), .int (nI no), .ref (md 4), .ref (md 5), .ref (md 6), .int (nI ((chF bd nb wd (ni + no) 1 (many + 1) (b + 1) ((updN c2 many b), w2, s2, n2)).2.2.2)), .ref (md 7), .ref (md 8), .int (nI nb), .int (nI wd), .ref (md 9), .long (tp), .long (bl), .long (wt), .long (wb)])), (md 7, aJ g 85 bd), (md 9, aI g 5 (fun j => nI (((chF bd nb wd (ni + no) 1 (many + 1) (b + 1) ((updN c2 many b), w2, s2, n2)).1) j))), (md 8, aJ g 5 ((chF bd nb wd (ni + no) 1 (many + 1) (b + 1) ((updN c2 many b), w2, s2, n2)).2.1)), (md 6, aJ g 13000 ((chF bd nb wd (ni + no) 1 (many + 1) (b + 1) ((updN c2 many b), w2, s2, n2)).2.2.1))] H := hP.sub [0, 1, 2, 3, 4] rfl
          have hD : va_D A [(md 0, .inr (4, [.int (xt), .int (nI mi), .int (nI mo), .int (nI mw), .ref (md 1), .ref (md 2), .ref (md 3), .int (nI ni), .int (nI no), .ref (md 4), .ref (md 5), .ref (md 6), .int (nI ((chF bd nb wd (ni + no) 1 (many + 1) (b + 1) ((updN c2 many b), w2, s2, n2)).2.2.2)), .ref (md 7), .ref (md 8), .int (nI nb), .int (nI wd), .ref (md 9), .long (tp), .long (bl), .long (wt), .long (wb)])), (md 7, aJ g 85 bd), (md 9, aI g 5 (fun j => nI (((chF bd nb wd (ni + no) 1 (many + 1) (b + 1) ((updN c2 many b), w2, s2, n2)).1) j))), (md 8, aJ g 5 ((chF bd nb wd (ni + no) 1 (many + 1) (b + 1) ((updN c2 many b), w2, s2, n2)).2.1)), (md 6, aJ g 13000 ((chF bd nb wd (ni + no) 1 (many + 1) (b + 1) ((updN c2 many b), w2, s2, n2)).2.2.1))] := hD.sub [0, 1, 2, 3, 4] rfl rfl
          refine lv_iinc (v := nI (b + 1)) (lv' := [(3, .int (nI (b + 1))), (0, .ref (md 0)), (1, .int (nI many)), (2, .int (nI fr))]) hx hb dX4_choose_42 hl (k := 3) rfl (nI_inc1 b) (by decide) rfl (fun ls hl => ?_)
          refine lv_goto (tgt := 17) hx hb dX4_choose_45 (by decide) ?_
          exact ih_17 (b + 1) ((chF bd nb wd (ni + no) 1 (many + 1) (b + 1) ((updN c2 many b), w2, s2, n2)).1) ((chF bd nb wd (ni + no) 1 (many + 1) (b + 1) ((updN c2 many b), w2, s2, n2)).2.1) ((chF bd nb wd (ni + no) 1 (many + 1) (b + 1) ((updN c2 many b), w2, s2, n2)).2.2.1) ((chF bd nb wd (ni + no) 1 (many + 1) (b + 1) ((updN c2 many b), w2, s2, n2)).2.2.2) (by omega) (by omega) (by omega) hn3 hc3 hv2 _ _ hP hD hS ls (lv_sub hl [1, 2, 3, 0] rfl)
    exact lp_17 (nb - fr + 1) fr ch wy sd ns (by omega) (by omega) (by omega) hns hch rfl _ _ hP hD hS ls (lv_sub hl [1, 2, 3, 0] rfl)
  · skip
    have c_1 := (nI_eq (by omega) (by omega)).mp c_1
    omega
set_option maxHeartbeats 20000000 in
set_option maxRecDepth 100000 in
theorem c_X4_cht3 (l : Launch) (g : Gt) (md : Nat → Nat) (xt : Int32) (mi : Nat) (mo : Nat) (mw : Nat) (ni : Nat) (no : Nat) (ns : Nat) (nb : Nat) (wd : Nat) (tp : Int64) (bl : Int64) (wt : Int64) (wb : Int64) (bd : Nat → Int64) (ch : Nat → Nat) (wy : Nat → Int64) (sd : Nat → Int64) (many : Nat) (fr : Nat) (hm : many + 3 + 1 = wd) (hfr2 : fr ≤ 17) (hns : ns + bnm (nb - fr) 3 ≤ 2600) (hni : ni ≤ 2) (hno : no ≤ 2) (hw2 : 2 ≤ wd) (hwd : wd ≤ 5) (hnb : nb ≤ 17) (hch : ∀ j : Nat, j < many → ch j < 17) : CV l yX4_choose wsX4_choose { frames := 10, cells := 0, slots := 0, locals := 255 } g [.ref (md 0), .int (nI many), .int (nI fr)] [(md 0, .inr (4, [.int (xt), .int (nI mi), .int (nI mo), .int (nI mw), .ref (md 1), .ref (md 2), .ref (md 3), .int (nI ni), .int (nI no), .ref (md 4), .ref (md 5), .ref (md 6), .int (nI ns), .ref (md 7), .ref (md 8), .int (nI nb), .int (nI wd), .ref (md 9), .long (tp), .long (bl), .long (wt), .long (wb)])), (md 7, aJ g 85 bd), (md 9, aI g 5 (fun j => nI (ch j))), (md 8, aJ g 5 wy), (md 6, aJ g 13000 sd)] (fun (zu : Unit) => True) (fun (zu : Unit) => [(md 0, .inr (4, [.int (xt), .int (nI mi), .int (nI mo), .int (nI mw), .ref (md 1), .ref (md 2), .ref (md 3), .int (nI ni), .int (nI no), .ref (md 4), .ref (md 5), .ref (md 6), .int (nI ((chF bd nb wd (ni + no) 3 many fr (ch, wy, sd, ns)).2.2.2)), .ref (md 7), .ref (md 8), .int (nI nb), .int (nI wd), .ref (md 9), .long (tp), .long (bl), .long (wt), .long (wb)])), (md 7, aJ g 85 bd), (md 9, aI g 5 (fun j => nI (((chF bd nb wd (ni + no) 3 many fr (ch, wy, sd, ns)).1) j))), (md 8, aJ g 5 ((chF bd nb wd (ni + no) 3 many fr (ch, wy, sd, ns)).2.1)), (md 6, aJ g 13000 ((chF bd nb wd (ni + no) 3 many fr (ch, wy, sd, ns)).2.2.1))]) 0 0 := by
  refine ent_v (cc := cX4_choose) (maxL := 4) (by decide) rfl (Nat.le_of_ble_eq_true rfl) ?_
  intro p e s m below meth c A args Q hE ret ls hl
  obtain ⟨hx, hb, hml, hown, hts, hnm, hA, hP, hD, hK, hN⟩ := hE
  have hS : va_S A s.heap s.heap [] := va_S.rf
  have hl : lv_has ls 4 [(0, .ref (md 0)), (1, .int (nI many)), (2, .int (nI fr))] := hl
  have hP : va_P g.1 vwCl [(md 0, .inr (4, [.int (xt), .int (nI mi), .int (nI mo), .int (nI mw), .ref (md 1), .ref (md 2), .ref (md 3), .int (nI ni), .int (nI no), .ref (md 4), .ref (md 5), .ref (md 6), .int (nI ns), .ref (md 7), .ref (md 8), .int (nI nb), .int (nI wd), .ref (md 9), .long (tp), .long (bl), .long (wt), .long (wb)])), (md 7, aJ g 85 bd), (md 9, aI g 5 (fun j => nI (ch j))), (md 8, aJ g 5 wy), (md 6, aJ g 13000 sd)] s.heap := hP
  refine lv_iload_n hx hb dX4_choose_0 rfl (lv_at hl 1 rfl) ?_
  refine lv_aload_n hx hb dX4_choose_1 rfl (lv_at hl 0 rfl) ?_
  refine k_get hx hb hts hown hK hP iw_X4_choose_X4 rfl 0 16 fm_X4_choose_70 (by decide) rfl rfl dX4_choose_2 ?_
  refine lv_iconst (v := nI 1) hx hb dX4_choose_5 (by decide) ?_
  refine lv_isub hx hb dX4_choose_6 ?_
  refine k_ei (y := nI (wd - 1)) (pk_sub (by omega)) ?_
  refine lv_icmp_ne (tgt := 15) hx hb dX4_choose_7 (by decide) (fun c_1 => ?_) (fun c_1 => ?_)
  · skip
    have c_1 := mt (nI_eq (by omega) (by omega)).mpr c_1
    refine lv_iload_n hx hb dX4_choose_15 rfl (lv_at hl 2 rfl) ?_
    refine lv_istore_n (lv' := [(3, .int (nI fr)), (0, .ref (md 0)), (1, .int (nI many)), (2, .int (nI fr))]) hx hb dX4_choose_16 rfl hl (by decide) rfl (fun ls hl => ?_)
    have lp_17 : ∀ (n : Nat) (b : Nat) (c2 : Nat → Nat) (w2 : Nat → Int64) (s2 : Nat → Int64) (n2 : Nat), nb - b < n → b ≤ 17 → fr ≤ b → n2 + bnm (nb - b) 3 ≤ 2600 → (∀ j : Nat, j < many → c2 j < 17) → chF bd nb wd (ni + no) 3 many fr (ch, wy, sd, ns) = chG (fun m f z => chF bd nb wd (ni + no) 2 m f z) many b (nb - b) (c2, w2, s2, n2) → ∀ (H : Heap) (locs : List Loc), va_P g.1 vwCl [(md 0, .inr (4, [.int (xt), .int (nI mi), .int (nI mo), .int (nI mw), .ref (md 1), .ref (md 2), .ref (md 3), .int (nI ni), .int (nI no), .ref (md 4), .ref (md 5), .ref (md 6), .int (nI n2), .ref (md 7), .ref (md 8), .int (nI nb), .int (nI wd), .ref (md 9), .long (tp), .long (bl), .long (wt), .long (wb)])), (md 7, aJ g 85 bd), (md 9, aI g 5 (fun j => nI (c2 j))), (md 8, aJ g 5 w2), (md 6, aJ g 13000 s2)] H → va_D A [(md 0, .inr (4, [.int (xt), .int (nI mi), .int (nI mo), .int (nI mw), .ref (md 1), .ref (md 2), .ref (md 3), .int (nI ni), .int (nI no), .ref (md 4), .ref (md 5), .ref (md 6), .int (nI n2), .ref (md 7), .ref (md 8), .int (nI nb), .int (nI wd), .ref (md 9), .long (tp), .long (bl), .long (wt), .long (wb)])), (md 7, aJ g 85 bd), (md 9, aI g 5 (fun j => nI (c2 j))), (md 8, aJ g 5 w2), (md 6, aJ g 13000 s2)] → va_S A s.heap H locs → ∀ ls : Array Slot, lv_has ls 4 [(0, .ref (md 0)), (1, .int (nI many)), (2, .int (nI fr)), (3, .int (nI b))] → W p l e { frames := 10, cells := 0, slots := 0, locals := 255 } s m args below meth c H locs 0 0 Q (F0 m 17 ls []) := by
      intro n
      induction n with
      | zero =>
        intro b c2 w2 s2 n2 hms
        omega
      | succ n ih_17 =>
        intro b c2 w2 s2 n2 hms_17 hb3 hb4 hn2 hc2 hv H locs hP hD hS ls hl
        refine lv_iload_n hx hb dX4_choose_17 rfl (lv_at hl 3 rfl) ?_
        refine lv_aload_n hx hb dX4_choose_18 rfl (lv_at hl 0 rfl) ?_
        refine k_get hx hb hts hown hK hP iw_X4_choose_X4 rfl 0 15 fm_X4_choose_73 (by decide) rfl rfl dX4_choose_19 ?_
        refine lv_icmp_ge (tgt := 48) hx hb dX4_choose_22 (by decide) (fun c_2 => ?_) (fun c_2 => ?_)
        · skip
          have c_2 := (nI_leI (by omega) (by omega)).mp c_2
          have hfin : chF bd nb wd (ni + no) 3 many fr (ch, wy, sd, ns) = (c2, w2, s2, n2) := by rw [hv, show nb - b = 0 by omega]; rfl
          have hP : va_P g.1 vwCl [(md 0, .inr (4, [.int (xt), .int (nI mi), .int (nI mo), .int (nI mw), .ref (md 1), .ref (md 2), .ref (md 3), .int (nI ni), .int (nI no), .ref (md 4), .ref (md 5), .ref (md 6), .int (nI ((chF bd nb wd (ni + no) 3 many fr (ch, wy, sd, ns)).2.2.2)), .ref (md 7), .ref (md 8), .int (nI nb), .int (nI wd), .ref (md 9), .long (tp), .long (bl), .long (wt), .long (wb)])), (md 7, aJ g 85 bd), (md 9, aI g 5 (fun j => nI (((chF bd nb wd (ni + no) 3 many fr (ch, wy, sd, ns)).1) j))), (md 8, aJ g 5 ((chF bd nb wd (ni + no) 3 many fr (ch, wy, sd, ns)).2.1)), (md 6, aJ g 13000 ((chF bd nb wd (ni + no) 3 many fr (ch, wy, sd, ns)).2.2.1))] H := by rw [hfin]; exact hP
          have hD : va_D A [(md 0, .inr (4, [.int (xt), .int (nI mi), .int (nI mo), .int (nI mw), .ref (md 1), .ref (md 2), .ref (md 3), .int (nI ni), .int (nI no), .ref (md 4), .ref (md 5), .ref (md 6), .int (nI ((chF bd nb wd (ni + no) 3 many fr (ch, wy, sd, ns)).2.2.2)), .ref (md 7), .ref (md 8), .int (nI nb), .int (nI wd), .ref (md 9), .long (tp), .long (bl), .long (wt), .long (wb)])), (md 7, aJ g 85 bd), (md 9, aI g 5 (fun j => nI (((chF bd nb wd (ni + no) 3 many fr (ch, wy, sd, ns)).1) j))), (md 8, aJ g 5 ((chF bd nb wd (ni + no) 3 many fr (ch, wy, sd, ns)).2.1)), (md 6, aJ g 13000 ((chF bd nb wd (ni + no) 3 many fr (ch, wy, sd, ns)).2.2.1))] := by rw [hfin]; exact hD
          exact ret dX4_choose_48 () (trivial) hP hD hS
        · skip
          have c_2 := mt (nI_leI (by omega) (by omega)).mpr c_2
          have hbb : bnm (nb - b) 3 = bnm (nb - (b + 1)) 2 + bnm (nb - (b + 1)) 3 := by rw [show nb - b = (nb - (b + 1)) + 1 by omega]; rfl
          have hq3 := chF_ns bd nb wd (ni + no) 2 (many + 1) (b + 1) (updN c2 many b, w2, s2, n2)
          have hn3 : (chF bd nb wd (ni + no) 2 (many + 1) (b + 1) (updN c2 many b, w2, s2, n2)).2.2.2 + bnm (nb - (b + 1)) 3 ≤ 2600 := by simp only at hq3; omega
          have hc4 : ∀ j : Nat, j < many + 1 → updN c2 many b j < 17 := fun j hj => by
            unfold updN
            split
            · omega
            · exact hc2 j (by omega)
          have hc3 : ∀ j : Nat, j < many → (chF bd nb wd (ni + no) 2 (many + 1) (b + 1) (updN c2 many b, w2, s2, n2)).1 j < 17 := fun j hj => by rw [chF_ch bd nb wd (ni + no) 2 (many + 1) (b + 1) _ j (by omega)]; exact hc4 j (by omega)
          have hv2 : chF bd nb wd (ni + no) 3 many fr (ch, wy, sd, ns) = chG (fun m f z => chF bd nb wd (ni + no) 2 m f z) many (b + 1) (nb - (b + 1)) (chF bd nb wd (ni + no) 2 (many + 1) (b + 1) (updN c2 many b, w2, s2, n2)) := by rw [hv, show nb - b = (nb - (b + 1)) + 1 by omega, chG]
          refine lv_aload_n hx hb dX4_choose_25 rfl (lv_at hl 0 rfl) ?_
          refine k_get hx hb hts hown hK hP iw_X4_choose_X4 rfl 0 17 fm_X4_choose_43 (by decide) rfl rfl dX4_choose_26 ?_
          refine lv_iload_n hx hb dX4_choose_29 rfl (lv_at hl 1 rfl) ?_
          refine lv_iload_n hx hb dX4_choose_30 rfl (lv_at hl 3 rfl) ?_
          refine k_iast hx hb hK hP hD hS 2 rfl (by omega) (by omega) dX4_choose_31 (fun H locs hP hD hS => ?_)
          have hP : va_P g.1 vwCl [(md 0, .inr (4, [.int (xt), .int (nI mi), .int (nI mo), .int (nI mw), .ref (md 1), .ref (md 2), .ref (md 3), .int (nI ni), .int (nI no), .ref (md 4), .ref (md 5), .ref (md 6), .int (nI n2), .ref (md 7), .ref (md 8), .int (nI nb), .int (nI wd), .ref (md 9), .long (tp), .long (bl), .long (wt), .long (wb)])), (md 7, aJ g 85 bd), (md 9, aI g 5 (upd (fun j => nI (c2 j)) many (nI b))), (md 8, aJ g 5 w2), (md 6, aJ g 13000 s2)] H := hP
          have hD : va_D A [(md 0, .inr (4, [.int (xt), .int (nI mi), .int (nI mo), .int (nI mw), .ref (md 1), .ref (md 2), .ref (md 3), .int (nI ni), .int (nI no), .ref (md 4), .ref (md 5), .ref (md 6), .int (nI n2), .ref (md 7), .ref (md 8), .int (nI nb), .int (nI wd), .ref (md 9), .long (tp), .long (bl), .long (wt), .long (wb)])), (md 7, aJ g 85 bd), (md 9, aI g 5 (upd (fun j => nI (c2 j)) many (nI b))), (md 8, aJ g 5 w2), (md 6, aJ g 13000 s2)] := hD
          have e_3 : upd (fun j => nI (c2 j)) many (nI b) = fun j => nI (updN c2 many b j) := updN_nI _ _ _
          rw [e_3] at hP hD
          refine lv_aload_n hx hb dX4_choose_32 rfl (lv_at hl 0 rfl) ?_
          refine lv_iload_n hx hb dX4_choose_33 rfl (lv_at hl 1 rfl) ?_
          refine lv_iconst (v := nI 1) hx hb dX4_choose_34 (by decide) ?_
          refine lv_iadd hx hb dX4_choose_35 ?_
          refine k_ei (y := nI (many + 1)) (nI_add _ _) ?_
          refine lv_iload_n hx hb dX4_choose_36 rfl (lv_at hl 3 rfl) ?_
          refine lv_iconst (v := nI 1) hx hb dX4_choose_37 (by decide) ?_
          refine lv_iadd hx hb dX4_choose_38 ?_
          refine k_ei (y := nI (b + 1)) (nI_add _ _) ?_
          refine go_v (wc := [(md 0, .inr (4, [.int (xt), .int (nI mi), .int (nI mo), .int (nI mw), .ref (md 1), .ref (md 2), .ref (md 3), .int (nI ni), .int (nI no), .ref (md 4), .ref (md 5), .ref (md 6), .int (nI n2), .ref (md 7), .ref (md 8), .int (nI nb), .int (nI wd), .ref (md 9), .long (tp), .long (bl), .long (wt), .long (wb)])), (md 7, aJ g 85 bd), (md 9, aI g 5 (fun j => nI (updN c2 many b j))), (md 8, aJ g 5 w2), (md 6, aJ g 13000 s2)]) (wr := []) hP hD hS hA [0, 1, 2, 3, 4] [] rfl rfl rfl rfl (by decide) (fun hPc hDc => rn_V (As := [.int (nI (many + 1)), .int (nI (b + 1))]) (rest := []) ⟨hx, hb, hml, hown, hts⟩ ((c_X4_cho2 l g md xt mi mo mw ni no n2 nb wd tp bl wt wb bd (updN c2 many b) w2 s2 (many + 1) (b + 1) (by omega) (by omega) (by omega) (by omega) (by omega) (by omega) (by omega) (by omega) hc4) _) (cw_X4_choose_84_8_209 hts hN ⟨Nat.le_of_ble_eq_true rfl, Nat.le_of_ble_eq_true rfl⟩) hK hN hPc hDc 0 rfl rfl rfl rfl hl.1 (Nat.le_of_ble_eq_true rfl) dX4_choose_39 ⟨Nat.le_of_ble_eq_true rfl, Nat.le_of_ble_eq_true rfl⟩) ?_
          intro u_5 H locs h_6 hP hD hS
          have hP : va_P g.1 vwCl [(md 0, .inr (4, [.int (xt), .int (nI mi), .int (nI mo), .int (nI mw), .ref (md 1), .ref (md 2), .ref (md 3), .int (nI ni), .int (nI no), .ref (md 4), .ref (md 5), .ref (md 6), .int (nI ((chF bd nb wd (ni + no) 2 (many + 1) (b + 1) ((updN c2 many b), w2, s2, n2)).2.2.2)), .ref (md 7), .ref (md 8), .int (nI nb), .int (nI wd), .ref (md 9), .long (tp), .long (bl), .long (wt), .long (wb)])), (md 7, aJ g 85 bd), (md 9, aI g 5 (fun j => nI (((chF bd nb wd (ni + no) 2 (many + 1) (b + 1) ((updN c2 many b), w2, s2, n2)).1) j))), (md 8, aJ g 5 ((chF bd nb wd (ni + no) 2 (many + 1) (b + 1) ((updN c2 many b), w2, s2, n2)).2.1)), (md 6, aJ g 13000 ((chF bd nb wd (ni + no) 2 (many + 1) (b + 1) ((updN c2 many b), w2, s2, n2)).2.2.1))] H := hP.sub [0, 1, 2, 3, 4] rfl
          have hD : va_D A [(md 0, .inr (4, [.int (xt), .int (nI mi), .int (nI mo), .int (nI mw), .ref (md 1), .ref (md 2), .ref (md 3), .int (nI ni), .int (nI no), .ref (md 4), .ref (md 5), .ref (md 6), .int (nI ((chF bd nb wd (ni + no) 2 (many + 1) (b + 1) ((updN c2 many b), w2, s2, n2)).2.2.2)), .ref (md 7), .ref (md 8), .int (nI nb), .int (nI wd), .ref (md 9), .long (tp), .long (bl), .long (wt), .long (wb)])), (md 7, aJ g 85 bd), (md 9, aI g 5 (fun j => nI (((chF bd nb wd (ni + no) 2 (many + 1) (b + 1) ((updN c2 many b), w2, s2, n2)).1) j))), (md 8, aJ g 5 ((chF bd nb wd (ni + no) 2 (many + 1) (b + 1) ((updN c2 many b), w2, s2, n2)).2.1)), (md 6, aJ g 13000 ((chF bd nb wd (ni + no) 2 (many + 1) (b + 1) ((updN c2 many b), w2, s2, n2)).2.2.1))] := hD.sub [0, 1, 2, 3, 4] rfl rfl
          refine lv_iinc (v := nI (b + 1)) (lv' := [(3, .int (nI (b + 1))), (0, .ref (md 0)), (1, .int (nI many)), (2, .int (nI fr))]) hx hb dX4_choose_42 hl (k := 3) rfl (nI_inc1 b) (by decide) rfl (fun ls hl => ?_)
          refine lv_goto (tgt := 17) hx hb dX4_choose_45 (by decide) ?_
          exact ih_17 (b + 1) ((chF bd nb wd (ni + no) 2 (many + 1) (b + 1) ((updN c2 many b), w2, s2, n2)).1) ((chF bd nb wd (ni + no) 2 (many + 1) (b + 1) ((updN c2 many b), w2, s2, n2)).2.1) ((chF bd nb wd (ni + no) 2 (many + 1) (b + 1) ((updN c2 many b), w2, s2, n2)).2.2.1) ((chF bd nb wd (ni + no) 2 (many + 1) (b + 1) ((updN c2 many b), w2, s2, n2)).2.2.2) (by omega) (by omega) (by omega) hn3 hc3 hv2 _ _ hP hD hS ls (lv_sub hl [1, 2, 3, 0] rfl)
    exact lp_17 (nb - fr + 1) fr ch wy sd ns (by omega) (by omega) (by omega) hns hch rfl _ _ hP hD hS ls (lv_sub hl [1, 2, 3, 0] rfl)
  · skip
    have c_1 := (nI_eq (by omega) (by omega)).mp c_1
    omega
theorem c_X4_choT (l : Launch) (g : Gt) (md : Nat → Nat) (xt : Int32) (mi : Nat) (mo : Nat) (mw : Nat) (ni : Nat) (no : Nat) (ns : Nat) (nb : Nat) (wd : Nat) (tp : Int64) (bl : Int64) (wt : Int64) (wb : Int64) (bd : Nat → Int64) (ch : Nat → Nat) (wy : Nat → Int64) (sd : Nat → Int64) (hn0 : ns = 0) (hni : ni ≤ 2) (hno : no ≤ 2) (hw2 : 2 ≤ wd) (hwd : wd ≤ 5) (hnb : nb ≤ 17) : CV l yX4_choose wsX4_choose { frames := 10, cells := 0, slots := 0, locals := 255 } g [.ref (md 0), .int (nI 0), .int (nI 0)] [(md 0, .inr (4, [.int (xt), .int (nI mi), .int (nI mo), .int (nI mw), .ref (md 1), .ref (md 2), .ref (md 3), .int (nI ni), .int (nI no), .ref (md 4), .ref (md 5), .ref (md 6), .int (nI ns), .ref (md 7), .ref (md 8), .int (nI nb), .int (nI wd), .ref (md 9), .long (tp), .long (bl), .long (wt), .long (wb)])), (md 7, aJ g 85 bd), (md 9, aI g 5 (fun j => nI (ch j))), (md 8, aJ g 5 wy), (md 6, aJ g 13000 sd)] (fun (zu : Unit) => True) (fun (zu : Unit) => [(md 0, .inr (4, [.int (xt), .int (nI mi), .int (nI mo), .int (nI mw), .ref (md 1), .ref (md 2), .ref (md 3), .int (nI ni), .int (nI no), .ref (md 4), .ref (md 5), .ref (md 6), .int (nI ((asF bd nb wd (ni + no) (ch, wy, sd, 0)).2.2.2)), .ref (md 7), .ref (md 8), .int (nI nb), .int (nI wd), .ref (md 9), .long (tp), .long (bl), .long (wt), .long (wb)])), (md 7, aJ g 85 bd), (md 9, aI g 5 (fun j => nI (((asF bd nb wd (ni + no) (ch, wy, sd, 0)).1) j))), (md 8, aJ g 5 ((asF bd nb wd (ni + no) (ch, wy, sd, 0)).2.1)), (md 6, aJ g 13000 ((asF bd nb wd (ni + no) (ch, wy, sd, 0)).2.2.1))]) 0 0 := by
  subst hn0
  rcases (show wd = 2 ∨ wd = 3 ∨ wd = 4 ∨ wd = 5 by omega) with rfl | rfl | rfl | rfl
  · exact c_X4_cht1 l g md xt mi mo mw ni no 0 nb 2 tp bl wt wb bd ch wy sd 0 0 (by omega) (by omega) (by have := bnm_17 1 (nb - 0) (by omega) (by omega); omega) hni hno hw2 hwd hnb (fun j hj => absurd hj (Nat.not_lt_zero j))
  · exact c_X4_cht2 l g md xt mi mo mw ni no 0 nb 3 tp bl wt wb bd ch wy sd 0 0 (by omega) (by omega) (by have := bnm_17 2 (nb - 0) (by omega) (by omega); omega) hni hno hw2 hwd hnb (fun j hj => absurd hj (Nat.not_lt_zero j))
  · exact c_X4_cht3 l g md xt mi mo mw ni no 0 nb 4 tp bl wt wb bd ch wy sd 0 0 (by omega) (by omega) (by have := bnm_17 3 (nb - 0) (by omega) (by omega); omega) hni hno hw2 hwd hnb (fun j hj => absurd hj (Nat.not_lt_zero j))
  · exact c_X4_cho4 l g md xt mi mo mw ni no 0 nb 5 tp bl wt wb bd ch wy sd 0 0 (by omega) (by omega) (by have := bnm_17 4 (nb - 0) (by omega) (by omega); omega) hni hno hw2 hwd hnb (fun j hj => absurd hj (Nat.not_lt_zero j))
theorem hdn_X4_bounds : yX4_bounds.cls ≠ "java/lang/invoke/MethodHandle" ∧ yX4_bounds.cls ≠ "java/lang/invoke/VarHandle" ∧ (parseMethodDescriptor yX4_bounds.desc).map (fun d => d.parameters.length) = some 1 := by decide +kernel
theorem cw_X4_allSides_78_0_0 {R : Room} {s : State} {args : Array Value} (hts : ∀ w ∈ wsX4_allSides, w.before args s = true) (hN : nsW s) (hR : 0 + 1 ≤ R.frames ∧ 8 + (5 + 11) + 0 ≤ R.locals) : CallW R s args RX4 RX4 78 yX4_bounds cX4_bounds 5 none wsX4_bounds { frames := 0, cells := 0, slots := 0, locals := 0 } 0 0 1 := cwV 1 hts gX4_allSides_X4_bounds rfl rfl rfl ⟨rfl, hdn_X4_bounds⟩ hR
theorem iw_X4_allSides_X4 : ∀ w ∈ wsX40, w ∈ wsX4_allSides := fun w h => List.mem_cons_of_mem _ (List.mem_append_right _ h)
theorem fm_X4_allSides_81 : Cond.fieldLink RX4 81 "EdgeBenchModel" "sides" "I" ∈ wsX4_allSides := List.mem_of_getElem? (i := 1) rfl
theorem cw_X4_allSides_84_10_255 {R : Room} {s : State} {args : Array Value} (hts : ∀ w ∈ wsX4_allSides, w.before args s = true) (hN : nsW s) (hR : 10 + 1 ≤ R.frames ∧ 8 + (4 + 11) + 255 ≤ R.locals) : CallW R s args RX4 RX4 84 yX4_choose cX4_choose 4 none wsX4_choose { frames := 10, cells := 0, slots := 0, locals := 255 } 0 0 2 := cwV 2 hts gX4_allSides_X4_choose rfl rfl rfl ⟨rfl, hdn_X4_choose⟩ hR
set_option maxHeartbeats 20000000 in
set_option maxRecDepth 100000 in
theorem c_X4_allSides (l : Launch) (g : Gt) (md : Nat → Nat) (xt : Int32) (mi : Nat) (mo : Nat) (mw : Nat) (ni : Nat) (no : Nat) (ns : Nat) (nb : Nat) (wd : Nat) (tp : Int64) (bl : Int64) (wt : Int64) (wb : Int64) (nu : Nat → Int32) (am : Nat → Int32) (bd : Nat → Int64) (ch : Nat → Nat) (wy : Nat → Int64) (sd : Nat → Int64) (v : Nat) (hv2 : v ≤ 2) (hni : ni ≤ 2) (hno : no ≤ 2) (hni1 : 1 ≤ ni) (hno1 : 1 ≤ no) (hmw : mw ≤ 12) : CV l yX4_allSides wsX4_allSides { frames := 11, cells := 0, slots := 0, locals := 278 } g [.ref (md 0), .int (nI v)] [(md 0, .inr (4, [.int (xt), .int (nI mi), .int (nI mo), .int (nI mw), .ref (md 1), .ref (md 2), .ref (md 3), .int (nI ni), .int (nI no), .ref (md 4), .ref (md 5), .ref (md 6), .int (nI ns), .ref (md 7), .ref (md 8), .int (nI nb), .int (nI wd), .ref (md 9), .long (tp), .long (bl), .long (wt), .long (wb)])), (md 4, aI g 48 nu), (md 5, aZ g 12 am), (md 7, aJ g 85 bd), (md 9, aI g 5 (fun j => nI (ch j))), (md 8, aJ g 5 wy), (md 6, aJ g 13000 sd)] (fun (zu : Unit) => True) (fun (zu : Unit) => [(md 0, .inr (4, [.int (xt), .int (nI mi), .int (nI mo), .int (nI mw), .ref (md 1), .ref (md 2), .ref (md 3), .int (nI ni), .int (nI no), .ref (md 4), .ref (md 5), .ref (md 6), .int (nI ((asF (bnF nu am ni no mw v bd).1 (bnF nu am ni no mw v bd).2 (bnW v (ni + no)) (ni + no) (ch, wy, sd, 0)).2.2.2)), .ref (md 7), .ref (md 8), .int (nI ((bnF nu am ni no mw v bd).2)), .int (nI (bnW v (ni + no))), .ref (md 9), .long (tp), .long (bl), .long (wt), .long (wb)])), (md 4, aI g 48 nu), (md 5, aZ g 12 am), (md 7, aJ g 85 ((bnF nu am ni no mw v bd).1)), (md 9, aI g 5 (fun j => nI (((asF (bnF nu am ni no mw v bd).1 (bnF nu am ni no mw v bd).2 (bnW v (ni + no)) (ni + no) (ch, wy, sd, 0)).1) j))), (md 8, aJ g 5 ((asF (bnF nu am ni no mw v bd).1 (bnF nu am ni no mw v bd).2 (bnW v (ni + no)) (ni + no) (ch, wy, sd, 0)).2.1)), (md 6, aJ g 13000 ((asF (bnF nu am ni no mw v bd).1 (bnF nu am ni no mw v bd).2 (bnW v (ni + no)) (ni + no) (ch, wy, sd, 0)).2.2.1))]) 0 0 := by
  refine ent_v (cc := cX4_allSides) (maxL := 2) (by decide) rfl (Nat.le_of_ble_eq_true rfl) ?_
  intro p e s m below meth c A args Q hE ret ls hl
  obtain ⟨hx, hb, hml, hown, hts, hnm, hA, hP, hD, hK, hN⟩ := hE
  have hS : va_S A s.heap s.heap [] := va_S.rf
  have hl : lv_has ls 2 [(0, .ref (md 0)), (1, .int (nI v))] := hl
  have hP : va_P g.1 vwCl [(md 0, .inr (4, [.int (xt), .int (nI mi), .int (nI mo), .int (nI mw), .ref (md 1), .ref (md 2), .ref (md 3), .int (nI ni), .int (nI no), .ref (md 4), .ref (md 5), .ref (md 6), .int (nI ns), .ref (md 7), .ref (md 8), .int (nI nb), .int (nI wd), .ref (md 9), .long (tp), .long (bl), .long (wt), .long (wb)])), (md 4, aI g 48 nu), (md 5, aZ g 12 am), (md 7, aJ g 85 bd), (md 9, aI g 5 (fun j => nI (ch j))), (md 8, aJ g 5 wy), (md 6, aJ g 13000 sd)] s.heap := hP
  have hWl := bnW_le v (ni + no)
  have hB17 : (bnF nu am ni no mw v bd).2 ≤ 17 := bnF_le hni hno hmw
  refine lv_aload_n hx hb dX4_allSides_0 rfl (lv_at hl 0 rfl) ?_
  refine lv_iload_n hx hb dX4_allSides_1 rfl (lv_at hl 1 rfl) ?_
  refine go_v (wc := [(md 0, .inr (4, [.int (xt), .int (nI mi), .int (nI mo), .int (nI mw), .ref (md 1), .ref (md 2), .ref (md 3), .int (nI ni), .int (nI no), .ref (md 4), .ref (md 5), .ref (md 6), .int (nI ns), .ref (md 7), .ref (md 8), .int (nI nb), .int (nI wd), .ref (md 9), .long (tp), .long (bl), .long (wt), .long (wb)])), (md 4, aI g 48 nu), (md 5, aZ g 12 am), (md 7, aJ g 85 bd)]) (wr := [(md 9, aI g 5 (fun j => nI (ch j))), (md 8, aJ g 5 wy), (md 6, aJ g 13000 sd)]) hP hD hS hA [0, 1, 2, 3] [4, 5, 6] rfl rfl rfl rfl (by decide) (fun hPc hDc => rn_V (As := [.int (nI v)]) (rest := []) ⟨hx, hb, hml, hown, hts⟩ ((c_X4_bounds l g md xt mi mo mw ni no ns nb wd tp bl wt wb nu am bd v (by omega) (by omega) (by omega) (by omega)) _) (cw_X4_allSides_78_0_0 hts hN ⟨Nat.le_of_ble_eq_true rfl, Nat.le_of_ble_eq_true rfl⟩) hK hN hPc hDc 0 rfl rfl rfl rfl hl.1 (Nat.le_of_ble_eq_true rfl) dX4_allSides_2 ⟨Nat.le_of_ble_eq_true rfl, Nat.le_of_ble_eq_true rfl⟩) ?_
  intro u_2 H locs h_3 hP hD hS
  have hP : va_P g.1 vwCl [(md 0, .inr (4, [.int (xt), .int (nI mi), .int (nI mo), .int (nI mw), .ref (md 1), .ref (md 2), .ref (md 3), .int (nI ni), .int (nI no), .ref (md 4), .ref (md 5), .ref (md 6), .int (nI ns), .ref (md 7), .ref (md 8), .int (nI ((bnF nu am ni no mw v bd).2)), .int (nI (bnW v (ni + no))), .ref (md 9), .long (tp), .long (bl), .long (wt), .long (wb)])), (md 4, aI g 48 nu), (md 5, aZ g 12 am), (md 7, aJ g 85 ((bnF nu am ni no mw v bd).1)), (md 9, aI g 5 (fun j => nI (ch j))), (md 8, aJ g 5 wy), (md 6, aJ g 13000 sd)] H := hP.sub [3, 4, 5, 6, 0, 1, 2] rfl
  have hD : va_D A [(md 0, .inr (4, [.int (xt), .int (nI mi), .int (nI mo), .int (nI mw), .ref (md 1), .ref (md 2), .ref (md 3), .int (nI ni), .int (nI no), .ref (md 4), .ref (md 5), .ref (md 6), .int (nI ns), .ref (md 7), .ref (md 8), .int (nI ((bnF nu am ni no mw v bd).2)), .int (nI (bnW v (ni + no))), .ref (md 9), .long (tp), .long (bl), .long (wt), .long (wb)])), (md 4, aI g 48 nu), (md 5, aZ g 12 am), (md 7, aJ g 85 ((bnF nu am ni no mw v bd).1)), (md 9, aI g 5 (fun j => nI (ch j))), (md 8, aJ g 5 wy), (md 6, aJ g 13000 sd)] := hD.sub [3, 4, 5, 6, 0, 1, 2] rfl rfl
  refine lv_aload_n hx hb dX4_allSides_5 rfl (lv_at hl 0 rfl) ?_
  refine lv_iconst (v := nI 0) hx hb dX4_allSides_6 (by decide) ?_
  refine k_put hx hb hts hown hK hP hD hS iw_X4_allSides_X4 rfl tyX4 tyX4_ok nmX4 0 12 fm_X4_allSides_81 (by decide) rfl rfl rfl rfl rfl (Nat.le_of_ble_eq_true rfl) dX4_allSides_7 (fun H locs hP hD hS => ?_)
  have hP : va_P g.1 vwCl [(md 0, .inr (4, [.int (xt), .int (nI mi), .int (nI mo), .int (nI mw), .ref (md 1), .ref (md 2), .ref (md 3), .int (nI ni), .int (nI no), .ref (md 4), .ref (md 5), .ref (md 6), .int (nI 0), .ref (md 7), .ref (md 8), .int (nI ((bnF nu am ni no mw v bd).2)), .int (nI (bnW v (ni + no))), .ref (md 9), .long (tp), .long (bl), .long (wt), .long (wb)])), (md 4, aI g 48 nu), (md 5, aZ g 12 am), (md 7, aJ g 85 ((bnF nu am ni no mw v bd).1)), (md 9, aI g 5 (fun j => nI (ch j))), (md 8, aJ g 5 wy), (md 6, aJ g 13000 sd)] H := hP
  have hD : va_D A [(md 0, .inr (4, [.int (xt), .int (nI mi), .int (nI mo), .int (nI mw), .ref (md 1), .ref (md 2), .ref (md 3), .int (nI ni), .int (nI no), .ref (md 4), .ref (md 5), .ref (md 6), .int (nI 0), .ref (md 7), .ref (md 8), .int (nI ((bnF nu am ni no mw v bd).2)), .int (nI (bnW v (ni + no))), .ref (md 9), .long (tp), .long (bl), .long (wt), .long (wb)])), (md 4, aI g 48 nu), (md 5, aZ g 12 am), (md 7, aJ g 85 ((bnF nu am ni no mw v bd).1)), (md 9, aI g 5 (fun j => nI (ch j))), (md 8, aJ g 5 wy), (md 6, aJ g 13000 sd)] := hD
  refine lv_aload_n hx hb dX4_allSides_10 rfl (lv_at hl 0 rfl) ?_
  refine lv_iconst (v := nI 0) hx hb dX4_allSides_11 (by decide) ?_
  refine lv_iconst (v := nI 0) hx hb dX4_allSides_12 (by decide) ?_
  refine go_v (wc := [(md 0, .inr (4, [.int (xt), .int (nI mi), .int (nI mo), .int (nI mw), .ref (md 1), .ref (md 2), .ref (md 3), .int (nI ni), .int (nI no), .ref (md 4), .ref (md 5), .ref (md 6), .int (nI 0), .ref (md 7), .ref (md 8), .int (nI ((bnF nu am ni no mw v bd).2)), .int (nI (bnW v (ni + no))), .ref (md 9), .long (tp), .long (bl), .long (wt), .long (wb)])), (md 7, aJ g 85 ((bnF nu am ni no mw v bd).1)), (md 9, aI g 5 (fun j => nI (ch j))), (md 8, aJ g 5 wy), (md 6, aJ g 13000 sd)]) (wr := [(md 4, aI g 48 nu), (md 5, aZ g 12 am)]) hP hD hS hA [0, 3, 4, 5, 6] [1, 2] rfl rfl rfl rfl (by decide) (fun hPc hDc => rn_V (As := [.int (nI 0), .int (nI 0)]) (rest := []) ⟨hx, hb, hml, hown, hts⟩ ((c_X4_choT l g md xt mi mo mw ni no 0 ((bnF nu am ni no mw v bd).2) (bnW v (ni + no)) tp bl wt wb ((bnF nu am ni no mw v bd).1) ch wy sd rfl (by omega) (by omega) (by omega) (by omega) hB17) _) (cw_X4_allSides_84_10_255 hts hN ⟨Nat.le_of_ble_eq_true rfl, Nat.le_of_ble_eq_true rfl⟩) hK hN hPc hDc 0 rfl rfl rfl rfl hl.1 (Nat.le_of_ble_eq_true rfl) dX4_allSides_13 ⟨Nat.le_of_ble_eq_true rfl, Nat.le_of_ble_eq_true rfl⟩) ?_
  intro u_5 H locs h_6 hP hD hS
  have hP : va_P g.1 vwCl [(md 0, .inr (4, [.int (xt), .int (nI mi), .int (nI mo), .int (nI mw), .ref (md 1), .ref (md 2), .ref (md 3), .int (nI ni), .int (nI no), .ref (md 4), .ref (md 5), .ref (md 6), .int (nI ((asF ((bnF nu am ni no mw v bd).1) ((bnF nu am ni no mw v bd).2) (bnW v (ni + no)) (ni + no) (ch, wy, sd, 0)).2.2.2)), .ref (md 7), .ref (md 8), .int (nI ((bnF nu am ni no mw v bd).2)), .int (nI (bnW v (ni + no))), .ref (md 9), .long (tp), .long (bl), .long (wt), .long (wb)])), (md 4, aI g 48 nu), (md 5, aZ g 12 am), (md 7, aJ g 85 ((bnF nu am ni no mw v bd).1)), (md 9, aI g 5 (fun j => nI (((asF ((bnF nu am ni no mw v bd).1) ((bnF nu am ni no mw v bd).2) (bnW v (ni + no)) (ni + no) (ch, wy, sd, 0)).1) j))), (md 8, aJ g 5 ((asF ((bnF nu am ni no mw v bd).1) ((bnF nu am ni no mw v bd).2) (bnW v (ni + no)) (ni + no) (ch, wy, sd, 0)).2.1)), (md 6, aJ g 13000 ((asF ((bnF nu am ni no mw v bd).1) ((bnF nu am ni no mw v bd).2) (bnW v (ni + no)) (ni + no) (ch, wy, sd, 0)).2.2.1))] H := hP.sub [2, 0, 1, 3, 4, 5, 6] rfl
  have hD : va_D A [(md 0, .inr (4, [.int (xt), .int (nI mi), .int (nI mo), .int (nI mw), .ref (md 1), .ref (md 2), .ref (md 3), .int (nI ni), .int (nI no), .ref (md 4), .ref (md 5), .ref (md 6), .int (nI ((asF ((bnF nu am ni no mw v bd).1) ((bnF nu am ni no mw v bd).2) (bnW v (ni + no)) (ni + no) (ch, wy, sd, 0)).2.2.2)), .ref (md 7), .ref (md 8), .int (nI ((bnF nu am ni no mw v bd).2)), .int (nI (bnW v (ni + no))), .ref (md 9), .long (tp), .long (bl), .long (wt), .long (wb)])), (md 4, aI g 48 nu), (md 5, aZ g 12 am), (md 7, aJ g 85 ((bnF nu am ni no mw v bd).1)), (md 9, aI g 5 (fun j => nI (((asF ((bnF nu am ni no mw v bd).1) ((bnF nu am ni no mw v bd).2) (bnW v (ni + no)) (ni + no) (ch, wy, sd, 0)).1) j))), (md 8, aJ g 5 ((asF ((bnF nu am ni no mw v bd).1) ((bnF nu am ni no mw v bd).2) (bnW v (ni + no)) (ni + no) (ch, wy, sd, 0)).2.1)), (md 6, aJ g 13000 ((asF ((bnF nu am ni no mw v bd).1) ((bnF nu am ni no mw v bd).2) (bnW v (ni + no)) (ni + no) (ch, wy, sd, 0)).2.2.1))] := hD.sub [2, 0, 1, 3, 4, 5, 6] rfl rfl
  exact ret dX4_allSides_16 () (trivial) hP hD hS
