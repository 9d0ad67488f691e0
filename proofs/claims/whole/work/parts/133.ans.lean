/-! ANSWERS ALIKE: share, size, above, at, count, sides, side, suits -/
section ANSA
theorem ptV_no {x0 x1 : Int64} {wh : Int32} (h : ¬ isI wh (nI 0) (nI 1) = true) : ptV x0 x1 wh = -1 := by
  have hi : isI wh (nI 0) (nI 1) = true ↔ wh = 0 ∨ wh = nI 1 := by
    unfold isI
    rw [decide_eq_true_iff, i32_geN (by decide), i32_leN (by decide), i32_eN (by decide), i32_zer]
    omega
  unfold ptV
  by_cases c : x1 = 0
  · rw [if_pos c]
  · rw [if_neg c, if_neg (fun z => h (hi.mpr (Or.inl z))), if_neg (fun z => h (hi.mpr (Or.inr z)))]
theorem a_share {u : EBS} {x : MS} {v w wh : Int32} {r r' : Int64} (h : ST u x) (hp : shP u v w wh r) (hm : mshP x v w wh r') : r = r' := by
  obtain ⟨t1, t2, t3, -⟩ := ST_td h
  unfold shP at hp
  unfold mshP at hm
  rw [asC_iff h] at hm
  by_cases hc : isVw v = true ∧ eHd u w = true
  · rcases hp with ⟨-, -, x0, x1, T, e⟩ | ⟨q, -⟩
    · rw [t1, t2, t3] at T
      by_cases hi : isI wh (nI 0) (nI 1) = true
      · rcases hm with ⟨-, b, tp, bl, m, e'⟩ | ⟨q, -⟩
        · have f := (tsh_same (ST_rows h hc.2) (held_w h hc.2).2.2.1 T m).1
          rw [e, e', frac_part f, if_pos hi]
        · exact absurd ⟨hc, hi⟩ q
      · rcases hm with ⟨q, -⟩ | ⟨-, e'⟩
        · exact absurd q.2 hi
        · rw [e, e', ptV_no hi]
    · exact absurd hc q
  · rcases hp with ⟨q1, q2, -⟩ | ⟨-, e⟩
    · exact absurd ⟨q1, q2⟩ hc
    · rcases hm with ⟨q, -⟩ | ⟨-, e'⟩
      · exact absurd q.1 hc
      · rw [e, e']
theorem a_size {u : EBS} {x : MS} {w r r' : Int32} (h : ST u x) (hp : szP u w r) (hm : mszP x w r') : r = r' := by
  obtain ⟨t1, t2, t3, -⟩ := ST_td h
  unfold szP eTS at hp
  unfold mszP at hm
  rw [asC_iff h] at hm
  have n0 : wN (nI 0) = 0 := wN_n (by decide)
  have n1 : wN (nI 1) = 1 := wN_n (by decide)
  have n2 : wN (nI 2) = 2 := wN_n (by decide)
  have v0 : isVw (nI 0) = true := by decide
  rw [n0, n1, n2, t1, t2, t3] at hp
  by_cases hc : eHd u w = true
  · have hR := ST_rows h hc
    have hw := (held_w h hc).2.2.1
    rcases hp with ⟨-, x0, x1, y0, y1, T0, T2, hp⟩ | ⟨q, -⟩
    · rcases hm with ⟨-, b0, p0, l0, b2, p2, l2, m0, m2, hm⟩ | ⟨q, -⟩
      · have f0 := (tsh_same hR hw T0 m0).1
        have f2 := (tsh_same hR hw T2 m2).1
        have u02 := frac_uniq f0 f2
        rcases hp with ⟨a, e⟩ | ⟨a, z0, z1, T1, hp⟩
        · rcases hm with ⟨-, e'⟩ | ⟨a', -⟩
          · rw [e, e']
          · exact absurd (u02.mp a) a'
        · rcases hm with ⟨a', -⟩ | ⟨-, b1, p1, l1, m1, hm⟩
          · exact absurd (u02.mpr a') a
          · have f1 := (tsh_same hR hw T1 m1).1
            have u01 := frac_uniq f0 f1
            rcases hp with ⟨c, e⟩ | ⟨c, e⟩ <;> rcases hm with ⟨c', e'⟩ | ⟨c', e'⟩
            · rw [e, e']
            · exact absurd (u01.mp c) c'
            · exact absurd (u01.mpr c') c
            · rw [e, e']
      · exact absurd ⟨v0, hc⟩ q
    · rw [hc] at q; cases q
  · rcases hp with ⟨q, -⟩ | ⟨-, e⟩
    · exact absurd q hc
    · rcases hm with ⟨q, -⟩ | ⟨-, e'⟩
      · exact absurd q.2 hc
      · rw [e, e']
/-- one work taken out of the sums -/
theorem rows_out {nu th nu' am : Nat → Int32} {ri ro mw w : Nat} (hR : rowsOK nu th th nu' am ri ro mw w) : rowsOK nu (upd th w (nI 0)) th nu' (upd am w (nI 0)) ri ro mw w := by
  obtain ⟨h1, h2, h3, h4, h5, h6, ⟨a1, a2, a3⟩, h8, h9, h10⟩ := hR
  have n0 : nI 0 = 0 := rfl
  refine ⟨h1, h2, h3, fun o ho hp => ?_, h5, h6, ⟨a1, fun o ho => ?_, fun o ho hp => ?_⟩, h8, h9, h10⟩
  · by_cases e : o = w
    · rw [e, upd_at] at hp; exact absurd n0 hp
    · rw [upd_ne e] at hp; exact hp
  · by_cases e : o = w
    · rw [e, upd_at, upd_at]
      exact ⟨fun z => absurd n0 z, fun z => absurd n0 z.2⟩
    · rw [upd_ne e, upd_ne e]; exact a2 o ho
  · by_cases e : o = w
    · rw [e, upd_at] at hp; exact absurd n0 hp
    · rw [upd_ne e] at hp; exact a3 o ho hp
theorem a_above {u : EBS} {x : MS} {v w wh : Int32} {r r' : Int64} (h : ST u x) (hp : abP u v w wh r) (hm : mabP x v w wh r') : r = r' := by
  obtain ⟨t1, t2, t3, -⟩ := ST_td h
  unfold abP at hp
  unfold mabP at hm
  rw [asC_iff h] at hm
  by_cases hc : isVw v = true ∧ eHd u w = true
  · rcases hp with ⟨-, -, x0, x1, T, e⟩ | ⟨q, -⟩
    · rw [t1, t2, t3] at T
      by_cases hi : isI wh (nI 0) (nI 1) = true
      · rcases hm with ⟨-, b, tp, bl, m, hm⟩ | ⟨q, -⟩
        · rcases ash_same (rows_out (ST_rows h hc.2)) T m with ⟨-, f1, f2⟩ | ⟨f1, f2, -⟩
          · rcases hm with ⟨-, e'⟩ | ⟨q, -⟩
            · rw [e, e', f2, none_part]
            · exact absurd f1 q
          · rcases hm with ⟨q, -⟩ | ⟨-, e'⟩
            · exact absurd q f1
            · rw [e, e', frac_part f2, if_pos hi]
        · exact absurd ⟨hc, hi⟩ q
      · rcases hm with ⟨q, -⟩ | ⟨-, e'⟩
        · exact absurd q.2 hi
        · rw [e, e', ptV_no hi]
    · exact absurd hc q
  · rcases hp with ⟨q1, q2, -⟩ | ⟨-, e⟩
    · exact absurd ⟨q1, q2⟩ hc
    · rcases hm with ⟨q, -⟩ | ⟨-, e'⟩
      · exact absurd q.1 hc
      · rw [e, e']
theorem isI_inR {k : Int32} {t : Nat} (h1 : 1 ≤ t) (h4 : t ≤ 4) : isI k (nI 0) (nI (t - 1)) = true ↔ inR k t = true := by
  unfold isI inR
  rw [decide_eq_true_iff, decide_eq_true_iff, i32_geN (by decide), i32_leN (by omega)]
  omega
theorem isI_01 (wh : Int32) : isI wh (nI 0) (nI 1) = true ↔ wh = 0 ∨ wh = nI 1 := by
  unfold isI
  rw [decide_eq_true_iff, i32_geN (by decide), i32_leN (by decide), i32_eN (by decide), i32_zer]
  omega
theorem a_at {u : EBS} {x : MS} {w k wh r : Int32} (h : ST u x) (hm : atP x w k wh r) : atV (eLo u) (eHi u) (eBw u) (eBi u + eBo u) w k wh = r := by
  obtain ⟨⟨a1, a2, a3, a4, a5, a6, a7⟩, a8, ⟨b1, b2, b3, b4⟩, ⟨c1, c2, c3⟩, c4, c5, c6, c7⟩ := h
  unfold atV
  unfold atP atC at hm
  rw [isI_inR (by omega) (by omega), isI_01] at hm
  rw [c1, c2, c3]
  by_cases hc : inR w (gMw x) = true ∧ inR k (gMi x + gMo x) = true
  · rw [if_pos hc]
    have q := c4 (wN w) (inR_lt hc.1) (wN k) (inR_lt hc.2)
    rw [q.1, q.2.1]
    by_cases h0 : wh = 0
    · rw [if_pos h0]
      rcases hm with ⟨-, ⟨-, e⟩ | ⟨z, -⟩⟩ | ⟨z, -⟩
      · exact e.symm
      · exact absurd h0 z
      · exact absurd ⟨hc.1, hc.2, Or.inl h0⟩ z
    · rw [if_neg h0]
      by_cases h1 : wh = nI 1
      · rw [if_pos h1]
        rcases hm with ⟨-, ⟨z, -⟩ | ⟨-, e⟩⟩ | ⟨z, -⟩
        · exact absurd z h0
        · exact e.symm
        · exact absurd ⟨hc.1, hc.2, Or.inr h1⟩ z
      · rw [if_neg h1]
        rcases hm with ⟨z, -⟩ | ⟨-, e⟩
        · exact absurd z.2.2 (fun y => y.elim h0 h1)
        · exact e.symm
  · rw [if_neg hc]
    rcases hm with ⟨z, -⟩ | ⟨-, e⟩
    · exact absurd ⟨z.1, z.2.1⟩ hc
    · exact e.symm
theorem cntT_cg {th tr : Nat → Int32} : ∀ (n i : Nat), (∀ j, i ≤ j → j < i + n → th j = tr j) → cntT th i n = cntT tr i n
  | 0, _, _ => rfl
  | n + 1, i, h => by rw [cntT, cntT, h i (Nat.le_refl _) (by omega), cntT_cg n (i + 1) (fun j h1 h2 => h j (by omega) (by omega))]
theorem msI_cg {lo hi th lo' hi' th' : Nat → Int32} {w : Nat} (ht : th w = th' w) : ∀ (n i : Nat), (∀ j, i ≤ j → j < i + n → lo (w * 4 + j) = lo' (w * 4 + j) ∧ hi (w * 4 + j) = hi' (w * 4 + j)) → msI lo hi th w i n = msI lo' hi' th' w i n
  | 0, _, _ => rfl
  | n + 1, i, h => by
    have q := h i (Nat.le_refl _) (by omega)
    rw [msI, msI, ht, q.1, q.2, msI_cg ht n (i + 1) (fun j h1 h2 => h j (by omega) (by omega))]
theorem msO_cg {lo hi th lo' hi' th' : Nat → Int32} {t : Nat} : ∀ (n w : Nat), (∀ o, w ≤ o → o < w + n → th o = th' o ∧ ∀ j, j < t → lo (o * 4 + j) = lo' (o * 4 + j) ∧ hi (o * 4 + j) = hi' (o * 4 + j)) → msO lo hi th t w n = msO lo' hi' th' t w n
  | 0, _, _ => rfl
  | n + 1, w, h => by
    have q := h w (Nat.le_refl _) (by omega)
    rw [msO, msO, msI_cg q.1 t 0 (fun j _ h2 => q.2 j (by omega)), msO_cg n (w + 1) (fun o h1 h2 => h o (by omega) (by omega))]
theorem ST_miss {u : EBS} {x : MS} (h : ST u x) : msO (eLo u) (eHi u) (eTh u) (eBi u + eBo u) 0 (eBw u) = msO (gLo x) (gHi x) (gTr x) (gMi x + gMo x) 0 (gMw x) := by
  obtain ⟨⟨a1, a2, a3, a4, a5, a6, a7⟩, a8, ⟨b1, b2, b3, b4⟩, ⟨c1, c2, c3⟩, c4, c5, c6, c7⟩ := h
  rw [c1, c2, c3]
  exact msO_cg (gMw x) 0 (fun o _ h2 => ⟨c5 o (by omega), fun j hj => ⟨(c4 o (by omega) j hj).1, (c4 o (by omega) j hj).2.1⟩⟩)
theorem ST_cnt {u : EBS} {x : MS} (h : ST u x) : cntT (eTh u) 0 (eBw u) = cntT (gTr x) 0 (gMw x) := by
  obtain ⟨⟨a1, a2, a3, a4, a5, a6, a7⟩, a8, ⟨b1, b2, b3, b4⟩, ⟨c1, c2, c3⟩, c4, c5, c6, c7⟩ := h
  rw [c3]
  exact cntT_cg (gMw x) 0 (fun o _ h2 => c5 o (by omega))
theorem a_count {u : EBS} {x : MS} (h : ST u x) (wh : Int32) : cuV u wh = cuM x wh := by
  have e1 := ST_miss h
  have e2 := ST_cnt h
  obtain ⟨-, -, -, ⟨c1, c2, c3⟩, -⟩ := h
  unfold cuV cuM
  rw [e1, e2, c1, c2, c3]
theorem cntT_pos {th : Nat → Int32} : ∀ (n i : Nat), 0 < cntT th i n ↔ ∃ j, i ≤ j ∧ j < i + n ∧ ¬ th j = 0
  | 0, i => ⟨fun z => absurd z (Nat.lt_irrefl 0), fun ⟨j, h1, h2, _⟩ => by omega⟩
  | n + 1, i => by
    rw [cntT]
    by_cases h : th i = 0
    · rw [if_pos h, Nat.zero_add, cntT_pos n (i + 1)]
      constructor
      · rintro ⟨j, h1, h2, h3⟩
        exact ⟨j, by omega, by omega, h3⟩
      · rintro ⟨j, h1, h2, h3⟩
        by_cases e : j = i
        · rw [e] at h3; exact absurd h h3
        · exact ⟨j, by omega, by omega, h3⟩
    · rw [if_neg h]
      exact ⟨fun _ => ⟨i, Nat.le_refl _, by omega, h⟩, fun _ => by omega⟩
theorem hs_iff {u : EBS} {x : MS} (h : ST u x) (v : Int32) : eHs u v = true ↔ rdC x v := by
  unfold eHs hsB rdC
  rw [ST_cnt h, decide_eq_true_iff, cntT_pos, anB_iff]
  unfold isI
  rw [decide_eq_true_iff, i32_geN (by decide), i32_leN (by decide)]
  constructor
  · rintro ⟨a, c, j, -, j2, j3⟩
    exact ⟨⟨by omega, by omega⟩, j, by omega, j3⟩
  · rintro ⟨⟨a, c⟩, j, j2, j3⟩
    exact ⟨by omega, by omega, j, Nat.zero_le _, by omega, j3⟩
theorem hs_v {v : Int32} {n : Nat} (h : hsB v n = true) : wN v ≤ 2 := by
  have := of_decide_eq_true h
  unfold wN
  omega
theorem ST_lists {u : EBS} {x : MS} {v : Int32} {c : Cn} {ns : Nat} {sd : Nat → Int64} (h : ST u x) (hs : eHs u v = true) (hc : eOK u (wN v) c) (hm : mOKx x (wN v) ns sd) : c.2.2.2.1 = ns ∧ ∀ i, i < ns → (∀ k, k < gMi x + gMo x → c.2.2.2.2.2.1 (i * 5 + k) = sd (i * 5 + k)) ∧ c.2.2.2.2.2.1 (i * 5 + (gMi x + gMo x)) = sd (i * 5 + 4) := by
  obtain ⟨t1, t2, t3, t4, t5⟩ := ST_td h
  have hv := hs_v hs
  have hr := (hs_iff h v).mp hs
  obtain ⟨⟨a1, a2, a3, a4, a5, a6, a7⟩, a8, ⟨b1, b2, b3, b4⟩, ⟨c1, c2, c3⟩, c4, c5, c6, c7⟩ := h
  unfold eOK at hc
  rw [t1, t2, t3] at hc
  refine lists_same b1.1 b1.2 b2.1 b2.2 hv (fun _ => ?_) (small_of (by omega) (Or.inl ⟨by omega, fun w' h1 h2 k hk => ?_⟩)) t5 hc hm
  · obtain ⟨o, o1, o2⟩ := anB_iff.mp hr.2
    exact fstP_of (w := o) (by omega) (by rw [c5 o o1]; exact o2)
  · have hl : w' < gMw x := Classical.byContradiction (fun q => h2 (c6 w' (by omega)))
    have := t4 w' hl k hk
    rw [this.1]
    omega
theorem a_sides {u : EBS} {x : MS} {v r r' : Int32} (h : ST u x) (hp : sdP u v r) (hm : msdP x v r') : r = r' := by
  rcases hp with ⟨q, c, hc, e⟩ | ⟨q, e⟩
  · rcases hm with ⟨-, ns, sd, hm, e'⟩ | ⟨z, -⟩
    · rw [e, e', (ST_lists h q hc hm).1]
    · exact absurd ((hs_iff h v).mp q) z
  · rcases hm with ⟨z, -⟩ | ⟨-, e'⟩
    · rw [(hs_iff h v).mpr z] at q; cases q
    · rw [e, e']
theorem a_side {u : EBS} {x : MS} {v i k r r' : Int32} (h : ST u x) (hp : siP u v i k r) (hm : msiP x v i k r') : r = r' := by
  have hb : eBi u + eBo u = gMi x + gMo x := by rw [h.2.2.2.1.1, h.2.2.2.1.2.1]
  rcases hp with ⟨q, c, hc, hp⟩ | ⟨q, e⟩
  · rcases hm with ⟨-, ns, sd, hm, hm2⟩ | ⟨z, -⟩
    · obtain ⟨l1, l2⟩ := ST_lists h q hc hm
      rw [l1, hb] at hp
      rcases hp with ⟨p1, p2, e⟩ | ⟨p, e⟩
      · rcases hm2 with ⟨-, -, e'⟩ | ⟨z, -⟩
        · rw [e, e']
          have hi := inR_lt p1
          have hk := inR_lt p2
          unfold lst
          by_cases g : wN k = gMi x + gMo x
          · rw [if_pos g, g, (l2 _ hi).2]
          · rw [if_neg g, (l2 _ hi).1 _ (by omega)]
        · exact absurd ⟨p1, p2⟩ z
      · rcases hm2 with ⟨z1, z2, -⟩ | ⟨-, e'⟩
        · exact absurd ⟨z1, z2⟩ p
        · rw [e, e']
    · exact absurd ((hs_iff h v).mp q) z
  · rcases hm with ⟨z, -⟩ | ⟨-, e'⟩
    · rw [(hs_iff h v).mpr z] at q; cases q
    · rw [e, e']
/-- a view of sides: what is known of the cone and the share -/
theorem ST_edge {u : EBS} {x : MS} {v w : Int32} {ns : Nat} {sd : Nat → Int64} {tp bl : Int64} (h : ST u x) (hv : wN v ≤ 2) (hh : eHd u w = true) (hq : mSq x (wN v) (wN w) ns sd tp bl) :
    (∀ x0 x1, eTS u v w x0 x1 → frac x0 x1 tp bl) ∧ ∀ c, eOK u (wN v) c → c.2.2.2.1 = ns ∧ ∀ i, i < ns →
      (sm9 (insW c.2.2.2.2.2.1 (eTd u).2.2.1 i (wN w) (gMi x)) ∧ sm9 (outsW c.2.2.2.2.2.1 (eTd u).2.2.1 i (wN w) (gMi x + gMo x) (gMi x) (gMo x))) ∧
      (∀ w', w' < gMw x → insW sd (plN x) i w' (gMi x) = insW c.2.2.2.2.2.1 (eTd u).2.2.1 i w' (gMi x) ∧ outsW sd (plN x) i w' 4 (gMi x) (gMo x) = outsW c.2.2.2.2.2.1 (eTd u).2.2.1 i w' (gMi x + gMo x) (gMi x) (gMo x)) ∧
      (∀ k, k < gMi x + gMo x → 0 ≤ (sd (i * 5 + k)).toInt ∧ (bt (c.2.2.2.2.2.2.1 i) k = true ↔ (sd (i * 5 + k)).toInt = 0)) ∧
      (∀ w', w' < 12 → ¬ eTh u w' = 0 → (bt (c.2.2.2.2.2.2.1 i) (5 + w') = true ↔ outsW c.2.2.2.2.2.1 (eTd u).2.2.1 i w' (gMi x + gMo x) (gMi x) (gMo x) = insW c.2.2.2.2.2.1 (eTd u).2.2.1 i w' (gMi x))) := by
  obtain ⟨t1, t2, t3, t4, t5⟩ := ST_td h
  have hR := ST_rows h hh
  obtain ⟨hw1, hw2, hw3, -⟩ := held_w h hh
  obtain ⟨hok, e1, e2⟩ := hq
  have hok : mOK (plN x) (plA x) (gMi x) (gMo x) (gMw x) (wN v) ns sd := hok
  refine ⟨fun x0 x1 T => ?_, fun c hc => ?_⟩
  · unfold eTS at T
    rw [t1, t2, t3] at T
    refine (tsh_same (b := bI (shL sd (plN x) (gMi x) (gMo x) (wN w) 0 ns (0, 1)).1) hR hw3 T (Or.inr ⟨hv, tp, bl, ns, sd, Or.inr ⟨?_, hok, rfl, e1, e2⟩⟩)).1
    exact anB_iff.mpr ⟨wN w, ((t5.2.1 (wN w) hw2).mp hw3)⟩
  · unfold eOK at hc
    rw [t1, t2, t3] at hc
    obtain ⟨f1, f2⟩ := edge_facts hR hv (fun _ => fstP_of hw2 hw3) hc hok
    refine ⟨f1, fun i hi => ?_⟩
    obtain ⟨g1, g2, g3, g4, g5⟩ := f2 i hi
    refine ⟨g1 _ hw2 hw3, fun w' h1 => g2 w' (fun k hk => (t4 w' h1 k hk).1), fun k hk => (g3 k hk).2, fun w' h1 h2 => ?_⟩
    rw [(g5 w' h1 h2).2, i64_eq]
theorem isI_02 {v : Int32} (h : isI v (nI 0) (nI 2) = true) : wN v ≤ 2 ∧ isVw v = true := by
  have := of_decide_eq_true h
  rw [i32_geN (by decide), i32_leN (by decide)] at this
  refine ⟨by unfold wN; omega, decide_eq_true ⟨by omega, by omega⟩⟩
theorem su_iff {u : EBS} {x : MS} (h : ST u x) (v w : Int32) : (eHs u v = true ∧ eHd u w = true) ↔ (isI v (nI 0) (nI 2) = true ∧ asC x v w) := by
  rw [hs_iff h, asC_iff h]
  unfold rdC
  constructor
  · rintro ⟨a, c⟩
    exact ⟨a.1, (isI_02 a.1).2, c⟩
  · rintro ⟨a, -, c⟩
    refine ⟨⟨a, ?_⟩, c⟩
    have q := (held_iff h w).mp c
    exact anB_iff.mpr ⟨wN w, inR_lt q.1, q.2.1⟩
theorem a_suits {u : EBS} {x : MS} {v w i r r' : Int32} (h : ST u x) (hp : suiP u v w i r) (hm : msuP x v w i r') : r = r' := by
  obtain ⟨t1, t2, t3, t4, t5⟩ := ST_td h
  unfold suiP at hp
  unfold msuP at hm
  rw [← su_iff h] at hm
  by_cases hc : eHs u v = true ∧ eHd u w = true
  · rcases hp with ⟨-, c, hok, hp⟩ | ⟨q, -⟩
    · rcases hm with ⟨-, ns, sd, tp, bl, hq, hm⟩ | ⟨q, -⟩
      · obtain ⟨F, G⟩ := ST_edge h (hs_v hc.1) hc.2 hq
        obtain ⟨g1, g2⟩ := G c hok
        obtain ⟨hw1, -⟩ := held_w h hc.2
        rw [g1] at hp
        rcases hp with ⟨p1, e⟩ | ⟨p1, p2⟩
        · rcases hm with ⟨-, e'⟩ | ⟨z, -⟩
          · rw [e, e']
          · rw [p1] at z; cases z
        · rcases hm with ⟨z, -⟩ | ⟨-, e'⟩
          · rw [p1] at z; cases z
          · obtain ⟨s1, s2, -⟩ := g2 _ (inR_lt p1)
            rw [e', (s2 _ hw1).1]
            unfold suT at p2
            rw [t1] at p2
            rcases p2 with ⟨p3, e⟩ | ⟨p3, x0, x1, d, T, hd, e⟩
            · rw [e, decide_eq_false p3]
              rfl
            · rw [e, decide_eq_true p3, Bool.true_and]
              obtain ⟨k1, k2⟩ := G d hd
              obtain ⟨r1, r2, -⟩ := k2 _ (inR_lt p1)
              refine congrArg bI ?_
              unfold bstB mbB
              rw [t2, (r2 _ hw1).1, (r2 _ hw1).2, show gMi x + gMo x - gMi x = gMo x by omega]
              exact decide_eq_decide.mpr (frac_best (F x0 x1 T) r1.1 r1.2)
      · exact absurd hc q
    · exact absurd hc q
  · rcases hp with ⟨q, -⟩ | ⟨-, e⟩
    · exact absurd q hc
    · rcases hm with ⟨q, -⟩ | ⟨-, e'⟩
      · exact absurd q hc
      · rw [e, e']
end ANSA
