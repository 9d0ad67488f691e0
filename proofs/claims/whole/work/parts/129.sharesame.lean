/-! SHARES ARE THE SAME -/
section SHSAME
theorem smallM_sub {pt pt0 nu : Nat → Int32} {v t : Nat} (h : ∀ w, w < 12 → ¬ pt w = 0 → ¬ pt0 w = 0) (hM : smallM pt0 nu v t) : smallM pt nu v t := by
  obtain ⟨M, h1, h2, h3, h4⟩ := hM
  exact ⟨M, h1, h2, h3, fun w w1 w2 => h4 w w1 (h w w1 w2)⟩
theorem share_same {nu pt pt0 nu' am : Nat → Int32} {ri ro mw v ns w : Nat} {c : Cn} {sd : Nat → Int64} (hri : 1 ≤ ri) (hri2 : ri ≤ 2) (hro : 1 ≤ ro) (hro2 : ro ≤ 2) (hv : v ≤ 2) (hv2 : v = 2 → ∃ f, fstP pt 0 12 = some f) (hM : smallM pt0 nu v (ri + ro)) (hsub : ∀ w, w < 12 → ¬ pt w = 0 → ¬ pt0 w = 0) (hw : w < 12) (hw0 : ¬ pt0 w = 0) (ha : alike nu pt nu' am mw (ri + ro)) (haw : ∀ k, k < ri + ro → nu (w * 4 + k) = nu' (w * 4 + k)) (hnn : ∀ k, k < ri + ro → 0 ≤ (nu (w * 4 + k)).toInt) (hnu0 : ∀ w', w' < 12 → ¬ pt w' = 0 → ∀ k, k < ri → 0 ≤ (nu (w' * 4 + k)).toInt) {k0 : Nat} (hk0 : k0 < ri) (hk1 : 0 < (nu (w * 4 + k0)).toInt) (h : cnOK nu pt ri ro v c) (hm : mOK nu' am ri ro mw v ns sd) :
    ((∃ j, j < ns ∧ (insW c.2.2.2.2.2.1 nu j w ri).toInt = 0 ∧ 0 < (outsW c.2.2.2.2.2.1 nu j w (ri + ro) ri ro).toInt) ∧ shF c.2.2.2.2.2.1 nu w ri (ri + ro) 0 c.2.2.2.1 (0, 0) = (0, 0) ∧ (shL sd nu' ri ro w 0 ns (0, 1)).1 = false) ∨
    ((shL sd nu' ri ro w 0 ns (0, 1)).1 = true ∧ RB (shF c.2.2.2.2.2.1 nu w ri (ri + ro) 0 c.2.2.2.1 (0, 0)) (shL sd nu' ri ro w 0 ns (0, 1)).2 ∧ sm9 (shF c.2.2.2.2.2.1 nu w ri (ri + ro) 0 c.2.2.2.1 (0, 0)).1 ∧ sm9 (shF c.2.2.2.2.2.1 nu w ri (ri + ro) 0 c.2.2.2.1 (0, 0)).2 ∧ 0 < (shF c.2.2.2.2.2.1 nu w ri (ri + ro) 0 c.2.2.2.1 (0, 0)).2.toInt ∧ 0 ≤ (shF c.2.2.2.2.2.1 nu w ri (ri + ro) 0 c.2.2.2.1 (0, 0)).1.toInt) := by
  have hM2 := smallM_sub hsub hM
  obtain ⟨I, hI, hp, hD, -⟩ := cnOK_dd hri hri2 hro hro2 hv hv2 hM2 h
  obtain ⟨l1, l2⟩ := lists_same hri hri2 hro hro2 hv hv2 hM2 ha h hm
  obtain ⟨ray, hray⟩ : ∃ ray, ray = c.2.2.2.2.2.1 := ⟨_, rfl⟩
  obtain ⟨tg, htg⟩ : ∃ tg, tg = c.2.2.2.2.2.2.1 := ⟨_, rfl⟩
  rw [← hray] at l2 ⊢
  rw [l1, ← hray, ← htg] at hD
  rw [l1]
  obtain ⟨t, ht⟩ : ∃ t, t = ri + ro := ⟨_, rfl⟩
  have hro' : ro = t - ri := by omega
  rw [← ht] at hM hI hp hD l2 haw hnn ⊢
  have hW := bnW_le v t
  have hok : ∀ i, i < ns → ∀ k, k ≤ t → (vc ray i k).natAbs ≤ 100000000 := DDI_okR (st := (ray, tg)) (by omega) (by omega) rfl (fun i hi => (hI i).mp hi) (by rw [ht]; exact hM2) hD
  obtain ⟨M, hM1, hM4, hMB, hMn⟩ := hM
  obtain ⟨d1, -, -, d4, d5⟩ := hD
  obtain ⟨n, hn⟩ : ∃ n, n = bnW v t := ⟨_, rfl⟩
  rw [← hn] at hM1 hMB hp d1 d4 d5 hW
  have hnt : n = t ∨ n = t + 1 := by omega
  have d1 : ∀ i, i < ns → Ext (List.range n) (bdV nu ri t) I (vc ray i) ∧ gl (vc ray i) (List.range n) = 1 := d1
  have d4 : ∀ x, Ext (List.range n) (bdV nu ri t) I x → ∃ i, i < ns ∧ par2 (List.range n) (vc ray i) x := d4
  have d5 : n = t → ∀ i, i < ns → ray (i * 5 + t) = 0 := d5
  have hz : ∀ i, i < ns → n = t → vc ray i t = 0 := fun i hi e => by
    have := d5 e i hi
    show (ray (i * 5 + t)).toInt = 0
    rw [this]
    rfl
  have hpr : ∀ i, i < ns → ∀ j, j < t → (vc ray i j * (nu (w * 4 + j)).toInt).natAbs ≤ 100000000 := fun i hi j hj => by
    have e := ext_small (List.nodup_range (n := n)) M (fun q hq c hc => bdV_M (pt := pt) (by omega) (by omega) (by omega) hM1 (fun w w1 w2 => hMn w w1 (hsub w w1 w2)) (by
      rcases (hI q).mp hq with (z | z) | z
      · exact Or.inl (by omega)
      · refine Or.inl ?_
        rw [hn, z.1, z.2]
        show t < t + 1
        omega
      · exact Or.inr z) (List.mem_range.mp hc)) (d1 i hi).1 (d1 i hi).2 (List.mem_range.mpr (show j < n by omega))
    rw [List.length_range] at e
    rw [Int.natAbs_mul]
    exact Nat.le_trans (Nat.mul_le_mul_left _ (hMn w hw hw0 j hj)) (Nat.le_trans e hMB)
  have hs := fun i hi => sums_edge (nu := nu) (w := w) (ki := ri) (show ri ≤ t by omega) (show t ≤ 4 by omega) hnt (hok i hi t (Nat.le_refl _)) (hz i hi) (hpr i hi)
  rw [hro']
  rcases sh_both (ray := ray) (sd := sd) (nu := nu) (nu' := nu') (w := w) (ki := ri) (kt := t) (no := t - ri) (m := ns) (fun i hi => insW_cg ri (fun j hj => (l2 i hi).1 j (by omega)) (fun j hj => haw j (by omega))) (fun i hi => outsW_cg (l2 i hi).2 (t - ri) (fun j hj => (l2 i hi).1 j (by omega)) (fun j hj => haw j (by omega))) (fun i hi => (hs i hi).1) (fun i hi => (hs i hi).2.1) ns 0 (0, 0) (0, 1) (by omega) (Or.inl ⟨rfl, rfl⟩) (by unfold sm9; decide) (by unfold sm9; decide) with ⟨⟨j, -, j2, j3⟩, e1, e2⟩ | ⟨c1, c2, c3, c4, c5, -, c7⟩
  · exact Or.inl ⟨⟨j, j2, j3⟩, e1, e2⟩
  · refine Or.inr ⟨c2, c3, c4, c5, ?_⟩
    -- things are no less than 0
    have hth : ∀ e, Ext (List.range n) (bdV nu ri t) I e → ∀ j, j < t → 0 ≤ e j := fun e he j hj => by
      have q := he.1 j ((hI j).mpr (Or.inl (Or.inl hj)))
      have q2 : dot (List.range n) (bdV nu ri t j) e = dot (List.range n) (dl j) e := dot_congr (fun k _ => by
        unfold bdV dl
        rw [if_pos (by omega), if_pos hj]) (fun _ _ => rfl)
      rw [q2, dot_dl List.nodup_range (List.mem_range.mpr (by omega))] at q
      exact q
    have hdl : ∀ r : Nat → Int, dot (List.range n) r (dl k0) = r k0 := fun r => by
      rw [dot_comm, dot_dl List.nodup_range (List.mem_range.mpr (by omega))]
    obtain ⟨e, e1, e2, e3⟩ := some_ge hp (alp nu w ri) (bet nu w ri t) (fun e he => by
      rw [alp_dot (by omega)]
      exact lsum_nn (fun j hj => by
        have := List.mem_range.mp hj
        exact Int.mul_nonneg (hth e he j (by omega)) (hnn j (by omega)))) (x := dl k0) (fun i hi => by
      rw [hdl]
      unfold bdV
      rcases (hI i).mp hi with (z | z) | ⟨w', w1, w2, w3⟩
      · rw [if_pos (by omega)]
        by_cases e : k0 = i
        · rw [if_pos e, if_pos z]; decide
        · rw [if_neg e]; decide
      · rw [if_pos (by omega), if_neg (by omega)]; decide
      · rw [w3, if_neg (by omega), if_pos hk0, show 5 + w' - 5 = w' by omega]
        exact hnu0 w' w1 w2 k0 hk0) ⟨k0, List.mem_range.mpr (by omega), by unfold dl; rw [if_pos rfl]; decide⟩ (by
      rw [hdl]; unfold alp; rw [if_pos hk0]; exact hk1) (by
      rw [hdl]; unfold bet; rw [if_pos hk0]; exact Int.le_refl _) (fun e he h0 => by
      obtain ⟨i, i1, i2⟩ := d4 e he
      have q := hs i i1
      have z1 := par2_dot he.2.1 (par2_symm i2) h0
      have z2 := c1 i (Nat.zero_le _) i1 (by rw [q.2.2.1]; exact z1)
      rw [q.2.2.2] at z2
      refine Classical.byContradiction (fun hn0 => ?_)
      have := par2_side hp he.1 he.2.1 (d1 i i1).1.1 (par2_symm i2) (bet nu w ri t) (by omega)
      have z3 : dot (List.range n) (bet nu w ri t) (vc ray i) = 0 := by omega
      have := par2_dot (d1 i i1).1.2.1 i2 z3
      omega)
    obtain ⟨i, i1, i2⟩ := d4 e e1
    have q := hs i i1
    have z1 := par2_side hp e1.1 e1.2.1 (d1 i i1).1.1 (par2_symm i2) (alp nu w ri) e2
    have z2 : 0 < dot (List.range n) (alp nu w ri) (vc ray i) := by
      refine Classical.byContradiction (fun q2 => ?_)
      have := par2_dot (d1 i i1).1.2.1 i2 (show dot (List.range n) (alp nu w ri) (vc ray i) = 0 by omega)
      omega
    have z3 : 0 ≤ dot (List.range n) (bet nu w ri t) (vc ray i) := by
      by_cases q3 : 0 < dot (List.range n) (bet nu w ri t) e
      · exact par2_side hp e1.1 e1.2.1 (d1 i i1).1.1 (par2_symm i2) _ q3
      · rw [par2_dot e1.2.1 (par2_symm i2) (show dot (List.range n) (bet nu w ri t) e = 0 by omega)]
        exact Int.le_refl _
    obtain ⟨f1, f2⟩ := c7 i (Nat.zero_le _) i1 (by rw [q.2.2.1]; exact z2)
    rw [q.2.2.1, q.2.2.2] at f2
    refine ⟨f1, ?_⟩
    refine Classical.byContradiction (fun q4 => ?_)
    have g1 := Int.mul_nonneg z3 (show 0 ≤ (shF ray nu w ri t 0 ns (0, 0)).2.toInt by omega)
    have g2 := Int.mul_pos (show 0 < -(shF ray nu w ri t 0 ns (0, 0)).1.toInt by omega) z2
    rw [Int.neg_mul] at g2
    omega
end SHSAME
