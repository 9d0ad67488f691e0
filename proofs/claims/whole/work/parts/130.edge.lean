/-! WHAT IS KNOWN OF THE EDGES, FOR THE ANSWERS -/
section EDGE
/-- the rows of both, for a work that is held against them -/
def rowsOK (nu pt pt0 nu' am : Nat → Int32) (ri ro mw w : Nat) : Prop :=
  (1 ≤ ri ∧ ri ≤ 2) ∧ (1 ≤ ro ∧ ro ≤ 2) ∧ (∀ v, v ≤ 2 → smallM pt0 nu v (ri + ro)) ∧ (∀ w, w < 12 → ¬ pt w = 0 → ¬ pt0 w = 0) ∧ w < 12 ∧ ¬ pt0 w = 0 ∧ alike nu pt nu' am mw (ri + ro) ∧ (∀ k, k < ri + ro → nu (w * 4 + k) = nu' (w * 4 + k)) ∧ (∀ w', w' < 12 → ¬ pt0 w' = 0 → ∀ k, k < ri + ro → 0 ≤ (nu (w' * 4 + k)).toInt ∧ (nu (w' * 4 + k)).toInt ≤ 1800) ∧ ∃ k, k < ri ∧ 0 < (nu (w * 4 + k)).toInt
theorem edge_facts {nu pt pt0 nu' am : Nat → Int32} {ri ro mw v ns w : Nat} {c : Cn} {sd : Nat → Int64} (hR : rowsOK nu pt pt0 nu' am ri ro mw w) (hv : v ≤ 2) (hv2 : v = 2 → ∃ f, fstP pt 0 12 = some f) (h : cnOK nu pt ri ro v c) (hm : mOK nu' am ri ro mw v ns sd) :
    c.2.2.2.1 = ns ∧ ∀ i, i < ns →
      (∀ w', w' < 12 → ¬ pt0 w' = 0 → sm9 (insW c.2.2.2.2.2.1 nu i w' ri) ∧ sm9 (outsW c.2.2.2.2.2.1 nu i w' (ri + ro) ri ro)) ∧
      (∀ w', (∀ k, k < ri + ro → nu (w' * 4 + k) = nu' (w' * 4 + k)) → insW sd nu' i w' ri = insW c.2.2.2.2.2.1 nu i w' ri ∧ outsW sd nu' i w' 4 ri ro = outsW c.2.2.2.2.2.1 nu i w' (ri + ro) ri ro) ∧
      (∀ k, k < ri + ro → c.2.2.2.2.2.1 (i * 5 + k) = sd (i * 5 + k) ∧ 0 ≤ (sd (i * 5 + k)).toInt ∧ (bt (c.2.2.2.2.2.2.1 i) k = true ↔ (sd (i * 5 + k)).toInt = 0)) ∧
      c.2.2.2.2.2.1 (i * 5 + (ri + ro)) = sd (i * 5 + 4) ∧
      (∀ w', w' < 12 → ¬ pt w' = 0 → (outsW c.2.2.2.2.2.1 nu i w' (ri + ro) ri ro).toInt ≤ (insW c.2.2.2.2.2.1 nu i w' ri).toInt ∧ (bt (c.2.2.2.2.2.2.1 i) (5 + w') = true ↔ (outsW c.2.2.2.2.2.1 nu i w' (ri + ro) ri ro).toInt = (insW c.2.2.2.2.2.1 nu i w' ri).toInt)) := by
  obtain ⟨⟨hri, hri2⟩, ⟨hro, hro2⟩, hM0, hsub, hw, hw0, ha, haw, hnn, -⟩ := hR
  have hM := hM0 v hv
  have hM2 := smallM_sub hsub hM
  obtain ⟨I, hI, hp, hD, -⟩ := cnOK_dd hri hri2 hro hro2 hv hv2 hM2 h
  obtain ⟨l1, l2⟩ := lists_same hri hri2 hro hro2 hv hv2 hM2 ha h hm
  obtain ⟨ray, hray⟩ : ∃ ray, ray = c.2.2.2.2.2.1 := ⟨_, rfl⟩
  obtain ⟨tg, htg⟩ : ∃ tg, tg = c.2.2.2.2.2.2.1 := ⟨_, rfl⟩
  rw [← hray] at l2 ⊢
  rw [← htg]
  rw [l1, ← hray, ← htg] at hD
  refine ⟨l1, ?_⟩
  obtain ⟨t, ht⟩ : ∃ t, t = ri + ro := ⟨_, rfl⟩
  have hro' : ro = t - ri := by omega
  rw [← ht] at hM hI hp hD l2 haw hnn ⊢
  have hW := bnW_le v t
  have hok : ∀ i, i < ns → ∀ k, k ≤ t → (vc ray i k).natAbs ≤ 100000000 := DDI_okR (st := (ray, tg)) (by omega) (by omega) rfl (fun i hi => (hI i).mp hi) (by rw [ht]; exact hM2) hD
  obtain ⟨M, hM1, hM4, hMB, hMn⟩ := hM
  obtain ⟨d1, d2, -, d4, d5⟩ := hD
  obtain ⟨n, hn⟩ : ∃ n, n = bnW v t := ⟨_, rfl⟩
  rw [← hn] at hM1 hMB hp d1 d2 d4 d5 hW
  have hnt : n = t ∨ n = t + 1 := by omega
  have d1 : ∀ i, i < ns → Ext (List.range n) (bdV nu ri t) I (vc ray i) ∧ gl (vc ray i) (List.range n) = 1 := d1
  have d2 : ∀ i, i < ns → ∀ j, j < 32 → (bt (tg i) j = true ↔ (j ∈ I ∧ dot (List.range n) (bdV nu ri t j) (vc ray i) = 0)) := d2
  have d5 : n = t → ∀ i, i < ns → ray (i * 5 + t) = 0 := d5
  have hz : ∀ i, i < ns → n = t → vc ray i t = 0 := fun i hi e => by
    have := d5 e i hi
    show (ray (i * 5 + t)).toInt = 0
    rw [this]
    rfl
  have hpr : ∀ w', w' < 12 → ¬ pt0 w' = 0 → ∀ i, i < ns → ∀ j, j < t → (vc ray i j * (nu (w' * 4 + j)).toInt).natAbs ≤ 100000000 := fun w' hw' hw0' i hi j hj => by
    have e := ext_small (List.nodup_range (n := n)) M (fun q hq c hc => bdV_M (pt := pt) (by omega) (by omega) (by omega) hM1 (fun w w1 w2 => hMn w w1 (hsub w w1 w2)) (by
      rcases (hI q).mp hq with (z | z) | z
      · exact Or.inl (by omega)
      · refine Or.inl ?_
        rw [hn, z.1, z.2]
        show t < t + 1
        omega
      · exact Or.inr z) (List.mem_range.mp hc)) (d1 i hi).1 (d1 i hi).2 (List.mem_range.mpr (show j < n by omega))
    rw [List.length_range] at e
    rw [Int.natAbs_mul]
    exact Nat.le_trans (Nat.mul_le_mul_left _ (hMn w' hw' hw0' j hj)) (Nat.le_trans e hMB)
  have hs := fun w' hw' hw0' i hi => sums_edge (nu := nu) (w := w') (ki := ri) (show ri ≤ t by omega) (show t ≤ 4 by omega) hnt (hok i hi t (Nat.le_refl _)) (hz i hi) (hpr w' hw' hw0' i hi)
  have hth : ∀ j, j < t → ∀ x, dot (List.range n) (bdV nu ri t j) x = x j := fun j hj x => by
    have q2 : dot (List.range n) (bdV nu ri t j) x = dot (List.range n) (dl j) x := dot_congr (fun k _ => by
      unfold bdV dl
      rw [if_pos (by omega), if_pos hj]) (fun _ _ => rfl)
    rw [q2, dot_dl List.nodup_range (List.mem_range.mpr (by omega))]
  rw [hro']
  intro i hi
  refine ⟨fun w' h1 h2 => ⟨(hs w' h1 h2 i hi).1, (hs w' h1 h2 i hi).2.1⟩, fun w' h1 => ⟨insW_cg ri (fun j hj => (l2 i hi).1 j (by omega)) (fun j hj => h1 j (by omega)), outsW_cg (l2 i hi).2 (t - ri) (fun j hj => (l2 i hi).1 j (by omega)) (fun j hj => h1 j (by omega))⟩, fun k hk => ?_, (l2 i hi).2, fun w' h1 h2 => ?_⟩
  · have e := (l2 i hi).1 k hk
    have q1 := (d1 i hi).1.1 k ((hI k).mpr (Or.inl (Or.inl hk)))
    have q2 := d2 i hi k (by omega)
    rw [hth k hk] at q1 q2
    have q3 : vc ray i k = (sd (i * 5 + k)).toInt := congrArg Int64.toInt e
    rw [q3] at q1 q2
    refine ⟨e, q1, q2.trans ⟨fun z => z.2, fun z => ⟨(hI k).mpr (Or.inl (Or.inl hk)), z⟩⟩⟩
  · have hin : 5 + w' ∈ I := (hI _).mpr (Or.inr ⟨w', h1, h2, rfl⟩)
    have q1 := (d1 i hi).1.1 (5 + w') hin
    have q2 := d2 i hi (5 + w') (by omega)
    have hq := hs w' h1 (hsub w' h1 h2) i hi
    have q3 : dot (List.range n) (bdV nu ri t (5 + w')) (vc ray i) = (insW ray nu i w' ri).toInt - (outsW ray nu i w' t ri (t - ri)).toInt := by
      rw [hq.2.2.1, hq.2.2.2]
      have e1 : dot (List.range n) (bdV nu ri t (5 + w')) (vc ray i) = dot (List.range n) (fun k => 1 * alp nu w' ri k + (-1) * bet nu w' ri t k) (vc ray i) := dot_congr (fun k hk => by
        have := List.mem_range.mp hk
        show bdV nu ri t (5 + w') k = 1 * alp nu w' ri k + (-1) * bet nu w' ri t k
        unfold bdV alp bet
        rw [if_neg (by omega), show 5 + w' - 5 = w' by omega]
        by_cases c1 : k < ri
        · rw [if_pos c1, if_pos c1, if_pos c1]; omega
        · rw [if_neg c1, if_neg c1, if_neg c1]
          by_cases c2 : k < t
          · rw [if_pos c2, if_pos c2]; omega
          · rw [if_neg c2, if_neg c2]; omega) (fun _ _ => rfl)
      rw [e1, dot_linl]
      omega
    rw [q3] at q1 q2
    exact ⟨by omega, q2.trans ⟨fun z => by have := z.2; omega, fun z => ⟨hin, by omega⟩⟩⟩
/-- a share, as the class and as the reference have it -/
def frac (x0 x1 tp bl : Int64) : Prop := 0 < bl.toInt ∧ 0 ≤ tp.toInt ∧ sm9 tp ∧ sm9 bl ∧ x0 = tp / cmD tp bl ∧ x1 = bl / cmD tp bl
theorem cmD_dvd {tp bl : Int64} (hb : 0 < bl.toInt) (h1 : sm9 tp) (h2 : sm9 bl) : 0 < (cmD tp bl).toInt ∧ (cmD tp bl).toInt ∣ tp.toInt ∧ (cmD tp bl).toInt ∣ bl.toInt ∧ (cmD tp bl).toInt = Nat.gcd tp.toInt.natAbs bl.toInt.natAbs := by
  unfold sm9 at h1 h2
  have hc := cmD_int (a := tp) (c := bl) (by omega) (by omega)
  refine ⟨?_, ?_, ?_, hc⟩
  · rw [hc]
    have := Nat.gcd_pos_of_pos_right tp.toInt.natAbs (show 0 < bl.toInt.natAbs by omega)
    omega
  · rw [hc]
    exact Int.ofNat_dvd_left.mpr (Nat.gcd_dvd_left _ _)
  · rw [hc]
    exact Int.ofNat_dvd_left.mpr (Nat.gcd_dvd_right _ _)
theorem frac_int {x0 x1 tp bl : Int64} (h : frac x0 x1 tp bl) : ∃ g : Int, 0 < g ∧ x0.toInt * g = tp.toInt ∧ x1.toInt * g = bl.toInt ∧ sm9 x0 ∧ sm9 x1 ∧ 0 < x1.toInt ∧ 0 ≤ x0.toInt ∧ g = Nat.gcd tp.toInt.natAbs bl.toInt.natAbs := by
  obtain ⟨hb, ht, s1, s2, e0, e1⟩ := h
  obtain ⟨g0, g1, g2, g3⟩ := cmD_dvd hb s1 s2
  have b1 := s1
  have b2 := s2
  unfold sm9 at b1 b2
  have d1 := div_toInt (x := tp) (d := cmD tp bl) g0 (by omega) g1
  have d2 := div_toInt (x := bl) (d := cmD tp bl) g0 (by omega) g2
  rw [← e0] at d1
  rw [← e1] at d2
  refine ⟨(cmD tp bl).toInt, g0, d1.1, d2.1, ?_, ?_, ?_, ?_, g3⟩
  · unfold sm9; omega
  · unfold sm9; omega
  · refine Classical.byContradiction (fun q => ?_)
    have := Int.mul_nonneg (show 0 ≤ -x1.toInt by omega) (show 0 ≤ (cmD tp bl).toInt by omega)
    rw [Int.neg_mul] at this
    omega
  · refine Classical.byContradiction (fun q => ?_)
    have := Int.mul_pos (show 0 < -x0.toInt by omega) g0
    rw [Int.neg_mul] at this
    omega
theorem frac_best {x0 x1 tp bl a y : Int64} (h : frac x0 x1 tp bl) (ha : sm9 a) (hy : sm9 y) : y * x1 = a * x0 ↔ y * bl = tp * a := by
  obtain ⟨g, g0, e0, e1, s0, s1, -, -, -⟩ := frac_int h
  obtain ⟨-, -, t1, t2, -, -⟩ := h
  rw [eq9 hy s1 ha s0, eq9 hy t2 t1 ha, ← e0, ← e1]
  constructor
  · intro z
    have : y.toInt * (x1.toInt * g) = (y.toInt * x1.toInt) * g := by grind
    rw [this, z]
    grind
  · intro z
    have : (y.toInt * x1.toInt) * g = (a.toInt * x0.toInt) * g := by grind
    exact Int.eq_of_mul_eq_mul_right (by omega) this
theorem frac_one {x0 x1 tp bl : Int64} (h : frac x0 x1 tp bl) : x0 = x1 ↔ tp = bl := by
  obtain ⟨g, g0, e0, e1, -⟩ := frac_int h
  rw [i64_eq, i64_eq, ← e0, ← e1]
  constructor
  · intro z; rw [z]
  · intro z; exact Int.eq_of_mul_eq_mul_right (by omega) z
theorem low_uniq {a c d e : Nat} (hb : 0 < c) (hd : 0 < e) (h : a * e = d * c) : a / Nat.gcd a c = d / Nat.gcd d e ∧ c / Nat.gcd a c = e / Nat.gcd d e := by
  have hg : 0 < Nat.gcd a c := Nat.gcd_pos_of_pos_right _ hb
  have hh : 0 < Nat.gcd d e := Nat.gcd_pos_of_pos_right _ hd
  have k1 : Nat.gcd a c * e = Nat.gcd d e * c := by
    rw [← Nat.gcd_mul_right, ← Nat.gcd_mul_right, h, Nat.mul_comm c e]
  obtain ⟨a', ha'⟩ := Nat.gcd_dvd_left a c
  obtain ⟨c', hc'⟩ := Nat.gcd_dvd_right a c
  obtain ⟨d', hd'⟩ := Nat.gcd_dvd_left d e
  obtain ⟨e', he'⟩ := Nat.gcd_dvd_right d e
  obtain ⟨g, hge⟩ : ∃ g, g = Nat.gcd a c := ⟨_, rfl⟩
  obtain ⟨f, hfe⟩ : ∃ f, f = Nat.gcd d e := ⟨_, rfl⟩
  rw [← hge] at hg k1 ha' hc' ⊢
  rw [← hfe] at hh k1 hd' he' ⊢
  have q2 : c' = e' := by
    rw [hc', he'] at k1
    have k2 : (g * f) * e' = (g * f) * c' := by grind
    exact (Nat.eq_of_mul_eq_mul_left (Nat.mul_pos hg hh) k2).symm
  have q1 : a' = d' := by
    have hc0 : 0 < c' := by
      refine Nat.pos_of_ne_zero (fun z => ?_)
      rw [z, Nat.mul_zero] at hc'
      omega
    rw [ha', hd', hc', he', ← q2] at h
    have k3 : (g * f * c') * a' = (g * f * c') * d' := by grind
    exact Nat.eq_of_mul_eq_mul_left (Nat.mul_pos (Nat.mul_pos hg hh) hc0) k3
  rw [ha', hc', hd', he', Nat.mul_div_cancel_left _ hg, Nat.mul_div_cancel_left _ hg, Nat.mul_div_cancel_left _ hh, Nat.mul_div_cancel_left _ hh]
  exact ⟨q1, q2⟩
theorem frac_nat {x0 x1 tp bl : Int64} (h : frac x0 x1 tp bl) : x0.toInt = ((tp.toInt.natAbs / Nat.gcd tp.toInt.natAbs bl.toInt.natAbs : Nat) : Int) ∧ x1.toInt = ((bl.toInt.natAbs / Nat.gcd tp.toInt.natAbs bl.toInt.natAbs : Nat) : Int) := by
  obtain ⟨g, g0, e0, e1, -, -, p1, p0, eg⟩ := frac_int h
  obtain ⟨hb, ht, -⟩ := h
  obtain ⟨G, hG⟩ : ∃ G, G = Nat.gcd tp.toInt.natAbs bl.toInt.natAbs := ⟨_, rfl⟩
  rw [← hG] at eg ⊢
  obtain ⟨y0, h0⟩ : ∃ y0 : Nat, x0.toInt = y0 := ⟨x0.toInt.natAbs, by omega⟩
  obtain ⟨y1, h1⟩ : ∃ y1 : Nat, x1.toInt = y1 := ⟨x1.toInt.natAbs, by omega⟩
  have f0 : tp.toInt.natAbs = y0 * G := by rw [← e0, h0, eg, Int.natAbs_mul, Int.natAbs_natCast, Int.natAbs_natCast]
  have f1 : bl.toInt.natAbs = y1 * G := by rw [← e1, h1, eg, Int.natAbs_mul, Int.natAbs_natCast, Int.natAbs_natCast]
  have hG0 : 0 < G := by omega
  rw [f0, f1, Nat.mul_div_cancel _ hG0, Nat.mul_div_cancel _ hG0]
  exact ⟨h0, h1⟩
theorem frac_uniq {x0 x1 tp bl y0 y1 tp' bl' : Int64} (h : frac x0 x1 tp bl) (h' : frac y0 y1 tp' bl') : (x0 = y0 ∧ x1 = y1) ↔ tp * bl' = tp' * bl := by
  obtain ⟨n0, n1⟩ := frac_nat h
  obtain ⟨m0, m1⟩ := frac_nat h'
  obtain ⟨g, g0, e0, e1, -⟩ := frac_int h
  obtain ⟨f, f0, k0, k1, -⟩ := frac_int h'
  obtain ⟨hb, ht, s1, s2, -⟩ := h
  obtain ⟨hb', ht', s1', s2', -⟩ := h'
  rw [eq9 s1 s2' s1' s2, i64_eq, i64_eq]
  constructor
  · intro z
    rw [← e0, ← e1, ← k0, ← k1, z.1, z.2]
    grind
  · intro z
    obtain ⟨a, ha⟩ : ∃ a : Nat, tp.toInt = a := ⟨tp.toInt.natAbs, by omega⟩
    obtain ⟨c, hc⟩ : ∃ c : Nat, bl.toInt = c := ⟨bl.toInt.natAbs, by omega⟩
    obtain ⟨d, hd⟩ : ∃ d : Nat, tp'.toInt = d := ⟨tp'.toInt.natAbs, by omega⟩
    obtain ⟨e, he⟩ : ∃ e : Nat, bl'.toInt = e := ⟨bl'.toInt.natAbs, by omega⟩
    rw [ha, hc, Int.natAbs_natCast, Int.natAbs_natCast] at n0 n1
    rw [hd, he, Int.natAbs_natCast, Int.natAbs_natCast] at m0 m1
    rw [ha, he, hd, hc] at z
    have z' : a * e = d * c := by exact_mod_cast z
    have q := low_uniq (a := a) (c := c) (d := d) (e := e) (by omega) (by omega) z'
    rw [n0, n1, m0, m1, q.1, q.2]
    exact ⟨rfl, rfl⟩
theorem frac_part {x0 x1 tp bl : Int64} (h : frac x0 x1 tp bl) (wh : Int32) : ptV x0 x1 wh = if isI wh (nI 0) (nI 1) = true then ptM tp bl wh else -1 := by
  obtain ⟨g, g0, e0, e1, s0, s1, p1, -⟩ := frac_int h
  obtain ⟨-, -, -, -, q0, q1⟩ := h
  unfold ptV ptM
  rw [if_neg (fun z => by have := (zer9 _).mp z; omega), q0, q1]
  have hi : isI wh (nI 0) (nI 1) = true ↔ wh = 0 ∨ wh = nI 1 := by
    unfold isI
    rw [decide_eq_true_iff, i32_geN (by decide), i32_leN (by decide), i32_eN (by decide)]
    have : wh = 0 ↔ wh.toInt = 0 := i32_eq wh 0
    rw [this]
    omega
  by_cases c0 : wh = 0
  · rw [if_pos c0, if_pos (hi.mpr (Or.inl c0)), if_pos c0]
  · rw [if_neg c0, if_neg c0]
    by_cases c1 : wh = nI 1
    · rw [if_pos c1, if_pos (hi.mpr (Or.inr c1))]
    · rw [if_neg c1, if_neg (fun z => (hi.mp z).elim c0 c1)]
theorem none_part (x0 : Int64) (wh : Int32) : ptV x0 0 wh = -1 := by
  unfold ptV
  rw [if_pos rfl]
theorem tell_same {nu pt pt0 nu' am : Nat → Int32} {ri ro mw v ns w : Nat} {c : Cn} {sd : Nat → Int64} (hR : rowsOK nu pt pt0 nu' am ri ro mw w) (hv : v ≤ 2) (hv2 : v = 2 → ∃ f, fstP pt 0 12 = some f) (h : cnOK nu pt ri ro v c) (hm : mOK nu' am ri ro mw v ns sd) :
    (pt w = 0 ∧ (shL sd nu' ri ro w 0 ns (0, 1)).1 = false ∧ frB (shF c.2.2.2.2.2.1 nu w ri (ri + ro) 0 c.2.2.2.1 (0, 0)).1 (shF c.2.2.2.2.2.1 nu w ri (ri + ro) 0 c.2.2.2.1 (0, 0)).2 = 0) ∨
    ((shL sd nu' ri ro w 0 ns (0, 1)).1 = true ∧ frac (frT (shF c.2.2.2.2.2.1 nu w ri (ri + ro) 0 c.2.2.2.1 (0, 0)).1 (shF c.2.2.2.2.2.1 nu w ri (ri + ro) 0 c.2.2.2.1 (0, 0)).2) (frB (shF c.2.2.2.2.2.1 nu w ri (ri + ro) 0 c.2.2.2.1 (0, 0)).1 (shF c.2.2.2.2.2.1 nu w ri (ri + ro) 0 c.2.2.2.1 (0, 0)).2) (shL sd nu' ri ro w 0 ns (0, 1)).2.1 (shL sd nu' ri ro w 0 ns (0, 1)).2.2) := by
  have hE := edge_facts hR hv hv2 h hm
  obtain ⟨⟨hri, hri2⟩, ⟨hro, hro2⟩, hM0, hsub, hw, hw0, ha, haw, hnn, k0, hk0, hk1⟩ := hR
  rcases share_same hri hri2 hro hro2 hv hv2 (hM0 v hv) hsub hw hw0 ha haw (fun k hk => (hnn w hw hw0 k hk).1) (fun w' h1 h2 k hk => (hnn w' h1 (hsub w' h1 h2) k (by omega)).1) hk0 hk1 h hm with ⟨⟨j, j1, j2, j3⟩, e1, e2⟩ | ⟨c1, c2, c3, c4, c5, c6⟩
  · refine Or.inl ⟨?_, e2, ?_⟩
    · refine Classical.byContradiction (fun q => ?_)
      have := ((hE.2 j j1).2.2.2.2 w hw q).1
      omega
    · rw [e1]
      decide
  · refine Or.inr ⟨c1, ?_⟩
    obtain ⟨l1, l2⟩ := low_terms c2 c3 c4 c5 c6
    obtain ⟨p, hp⟩ : ∃ p, p = shF c.2.2.2.2.2.1 nu w ri (ri + ro) 0 c.2.2.2.1 (0, 0) := ⟨_, rfl⟩
    obtain ⟨q, hq⟩ : ∃ q, q = (shL sd nu' ri ro w 0 ns (0, 1)).2 := ⟨_, rfl⟩
    rw [← hp, ← hq] at c2 l1 l2
    rw [← hp] at c3 c4 c5 c6
    rw [← hp, ← hq]
    have hq4 : 0 < q.2.toInt ∧ 0 ≤ q.1.toInt ∧ sm9 q.1 ∧ sm9 q.2 := by
      rcases c2 with ⟨a, -⟩ | ⟨-, -, e⟩ | ⟨b1, b2, e⟩
      · rw [a] at c5; exact absurd c5 (by decide)
      · rw [e]
        exact ⟨by decide, by decide, by unfold sm9; decide, by unfold sm9; decide⟩
      · rw [e]
        exact ⟨b2, by omega, c3, c4⟩
    exact ⟨hq4.1, hq4.2.1, hq4.2.2.1, hq4.2.2.2, l1, l2⟩
end EDGE
