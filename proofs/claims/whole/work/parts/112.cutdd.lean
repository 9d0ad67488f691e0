/-! ONE CUT, DONE -/
section CUTDD
theorem nodup_mp {β γ : Type} {f : β → γ} : ∀ {P : List β}, P.Nodup → (∀ a ∈ P, ∀ c ∈ P, f a = f c → a = c) → (P.map f).Nodup
  | [], _, _ => List.nodup_nil
  | p :: P, hn, h => by
    have hn' := List.nodup_cons.mp hn
    rw [List.map_cons]
    refine List.nodup_cons.mpr ⟨fun q => ?_, nodup_mp hn'.2 (fun a ha c hc => h a (List.mem_cons_of_mem _ ha) c (List.mem_cons_of_mem _ hc))⟩
    obtain ⟨a, ha, e⟩ := List.mem_map.mp q
    exact hn'.1 ((h a (List.mem_cons_of_mem _ ha) p List.mem_cons_self e) ▸ ha)
theorem nd_inj {β : Type} : ∀ {l : List β}, l.Nodup → ∀ {i j : Nat} {x : β}, l[i]? = some x → l[j]? = some x → i = j
  | [], _, _, _, _, h, _ => by simp at h
  | a :: l, hn, i, j, x, hi, hj => by
    have hn' := List.nodup_cons.mp hn
    cases i with
    | zero => cases j with
      | zero => rfl
      | succ j =>
        have e1 : a = x := by simpa using hi
        have e2 : l[j]? = some x := by simpa using hj
        exact absurd (List.mem_of_getElem? e2) (e1 ▸ hn'.1)
    | succ i => cases j with
      | zero =>
        have e1 : a = x := by simpa using hj
        have e2 : l[i]? = some x := by simpa using hi
        exact absurd (List.mem_of_getElem? e2) (e1 ▸ hn'.1)
      | succ j =>
        have e1 : l[i]? = some x := by simpa using hi
        have e2 : l[j]? = some x := by simpa using hj
        rw [nd_inj hn'.2 e1 e2]
theorem gl_last {f : Nat → Int} {t : Nat} (h : f t = 0) : gl f (List.range (t + 1)) = gl f (List.range t) := by
  refine Nat.dvd_antisymm (dvd_gl (fun c hc => gl_dvd (List.mem_range.mpr (by have := List.mem_range.mp hc; omega)))) (dvd_gl (fun c hc => ?_))
  by_cases e : c = t
  · rw [e, h]; exact Nat.dvd_zero _
  · exact gl_dvd (List.mem_range.mpr (by have := List.mem_range.mp hc; omega))
/-- a joined row, times its divisor, is the point between the two -/
theorem jnR_int {t n : Nat} {ray sl : Nat → Int64} {v i : Nat} (hn : n = t ∨ n = t + 1) {hv hi : Int} (h1 : (sl v).toInt = hv) (h2 : (sl i).toInt = hi) (b1 : hv.natAbs ≤ 500000000) (b2 : hi.natAbs ≤ 500000000) (r1 : ∀ k, k ≤ t → (vc ray v k).natAbs ≤ 100000000) (r2 : ∀ k, k ≤ t → (vc ray i k).natAbs ≤ 100000000) (hz : n = t → vc ray v t = 0 ∧ vc ray i t = 0) (hnz : nz (List.range n) (fun k => hv * vc ray i k + -hi * vc ray v k)) :
    ∃ g : Nat, 0 < g ∧ g = gl (fun k => hv * vc ray i k + -hi * vc ray v k) (List.range n) ∧ ∀ k, k ≤ t → hv * vc ray i k + -hi * vc ray v k = (g : Int) * (jnR t ray sl v i k).toInt := by
  have hG : ∀ k, k ≤ t → (jnG ray sl v i k).toInt = hv * vc ray i k + -hi * vc ray v k := fun k hk => by
    have m1 : (hv * vc ray i k).natAbs ≤ 500000000 * 100000000 := by rw [Int.natAbs_mul]; exact Nat.mul_le_mul b1 (r2 k hk)
    have m2 : (hi * vc ray v k).natAbs ≤ 500000000 * 100000000 := by rw [Int.natAbs_mul]; exact Nat.mul_le_mul b2 (r1 k hk)
    have e1 : (sl v * ray (i * 5 + k)).toInt = hv * vc ray i k := i64_mul h1 rfl (by omega) (by omega)
    have e2 : (sl i * ray (v * 5 + k)).toInt = hi * vc ray v k := i64_mul h2 rfl (by omega) (by omega)
    unfold jnG
    rw [i64_sub e1 e2 (by omega) (by omega)]
    grind
  have hGb : ∀ k, k ≤ t → -(2 ^ 63) < (jnG ray sl v i k).toInt := fun k hk => by
    rw [hG k hk]
    have m1 : (hv * vc ray i k).natAbs ≤ 500000000 * 100000000 := by rw [Int.natAbs_mul]; exact Nat.mul_le_mul b1 (r2 k hk)
    have m2 : (hi * vc ray v k).natAbs ≤ 500000000 * 100000000 := by rw [Int.natAbs_mul]; exact Nat.mul_le_mul b2 (r1 k hk)
    have e : -hi * vc ray v k = -(hi * vc ray v k) := by grind
    omega
  obtain ⟨F, hF⟩ : ∃ F : Nat → Int64, F = fun k => if k ≤ t then jnG ray sl v i k else 0 := ⟨_, rfl⟩
  have hFk : ∀ k, k ≤ t → F k = jnG ray sl v i k := fun k hk => by rw [hF]; exact if_pos hk
  have hFb : ∀ k, -(2 ^ 63) < (F k).toInt := fun k => by
    by_cases hk : k ≤ t
    · rw [hFk k hk]; exact hGb k hk
    · rw [hF]
      show -(2 ^ 63) < (if k ≤ t then jnG ray sl v i k else 0).toInt
      rw [if_neg hk]
      decide
  have hdv : (jnD (jnG ray sl v i) 0 (t + 1) 0).toInt = gl (fun k => hv * vc ray i k + -hi * vc ray v k) (List.range (t + 1)) := by
    rw [jnD_cg (G := F) (t + 1) 0 0 (fun k hk => (hFk k (by omega)).symm), jnD_gl F hFb (t + 1) 0 0 (by decide)]
    rw [show (0 : Int64).toInt.natAbs = 0 from rfl, Nat.gcd_zero_left]
    congr 1
    refine gl_congr (fun c hc => ?_)
    have := List.mem_range.mp hc
    rw [Nat.zero_add, hFk c (by omega), hG c (by omega)]
  have hgl : gl (fun k => hv * vc ray i k + -hi * vc ray v k) (List.range (t + 1)) = gl (fun k => hv * vc ray i k + -hi * vc ray v k) (List.range n) := by
    rcases hn with e | e
    · rw [e]
      exact gl_last (by have := hz e; rw [this.1, this.2]; omega)
    · rw [e]
  rw [hgl] at hdv
  obtain ⟨g, hg⟩ : ∃ g, g = gl (fun k => hv * vc ray i k + -hi * vc ray v k) (List.range n) := ⟨_, rfl⟩
  have hg0 : 0 < g := by
    refine Nat.pos_of_ne_zero (fun q => ?_)
    obtain ⟨c, hc, h0⟩ := hnz
    exact h0 (gl_zero (by rw [← hg]; exact q) c hc)
  rw [← hg] at hdv
  refine ⟨g, hg0, hg, fun k hk => ?_⟩
  have hdvd : (g : Int) ∣ (jnG ray sl v i k).toInt := by
    rw [hG k hk]
    have : g ∣ (hv * vc ray i k + -hi * vc ray v k).natAbs := by
      by_cases hkn : k < n
      · rw [hg]; exact gl_dvd (x := fun k => hv * vc ray i k + -hi * vc ray v k) (List.mem_range.mpr hkn)
      · have hkt : k = t ∧ n = t := by omega
        rw [hkt.1, (hz hkt.2).1, (hz hkt.2).2]
        simp
    exact Int.ofNat_dvd_left.mpr this
  unfold jnR dvL
  by_cases h1g : 1 < jnD (jnG ray sl v i) 0 (t + 1) 0
  · rw [if_pos h1g]
    have hd := div_toInt (x := jnG ray sl v i k) (d := jnD (jnG ray sl v i) 0 (t + 1) 0) (by rw [hdv]; omega) (hGb k hk) (by rw [hdv]; exact hdvd)
    rw [hdv, hG k hk] at hd
    rw [← hd.1]
    exact Int.mul_comm _ _
  · rw [if_neg h1g]
    rw [i64_lt, hdv] at h1g
    have h1g : ¬ (1 : Int) < g := h1g
    have : g = 1 := by omega
    rw [this, hG k hk]
    simp
theorem par2_cg {cs : List Nat} {x x' y y' : Nat → Int} (h1 : ∀ k ∈ cs, x k = x' k) (h2 : ∀ k ∈ cs, y k = y' k) (h : par2 cs x y) : par2 cs x' y' := fun i hi j hj => by
  rw [← h1 i hi, ← h1 j hj, ← h2 i hi, ← h2 j hj]
  exact h i hi j hj
theorem cut_dd {t n ki kf w : Nat} {nu : Nat → Int32} {I D J : List Nat} {st : CS} {sl : Nat → Int64} (ht : t ≤ 4) (hn2 : 2 ≤ n) (hn : n = t ∨ n = t + 1) (hki : ki ≤ t) (hkf : kf + 2 = n)
    (hI : ∀ i ∈ I, i < 17) (hIn : I.Nodup) (hp : Ptd (List.range n) (bdV nu ki t) I) (hw : w < 12) (hk0 : 5 + w ∉ I)
    (hJ : J.Pairwise (· < ·)) (hJl : J.length ≤ 16) (hIJ : ∀ i ∈ I, i ∈ J) (hDJ : ∀ i ∈ D, i ∈ J) (hDI : ∀ i ∈ D, i ∉ I) (hDn : D.Nodup) (hDl : D.length + n = 5)
    (M : Nat → Nat) (hM : ∀ i ∈ (5 + w) :: I, ∀ c, c < n → (bdV nu ki t i c).natAbs ≤ M c) (hM1 : ∀ c, c < n → 1 ≤ M c) (hMB : fcN n * prd M (List.range n) ≤ 100000000)
    (hD : DDI t n (bdV nu ki t) I st) (hsl : ∀ r, r < st.1 → sl r = slk st.2.1 nu w ki t r) : DDI t n (bdV nu ki t) ((5 + w) :: I) (cutF nu w ki t kf sl st) := by
  obtain ⟨b, hbe⟩ : ∃ b, b = bdV nu ki t := ⟨_, rfl⟩
  obtain ⟨cs, hcs⟩ : ∃ cs, cs = List.range n := ⟨_, rfl⟩
  have hcn : cs.Nodup := by rw [hcs]; exact List.nodup_range
  have hcl : cs.length = n := by rw [hcs, List.length_range]
  have hcm : ∀ {k : Nat}, k ∈ cs ↔ k < n := by intro k; rw [hcs]; exact List.mem_range
  have hD0 := hD
  obtain ⟨d1, d2, d3, d4, d5⟩ := hD
  have hDI' := hD0
  rw [← hbe] at d1 d2 d4 hM hDI' hp
  rw [← hcs] at d1 d2 d3 d4 hp hMB
  have hsm : ∀ r, r < st.1 → ∀ k, k < n → (vc st.2.1 r k).natAbs * M k ≤ 100000000 := fun r hr k hk => by
    have := ext_small hcn M (fun i hi c hc => hM i (List.mem_cons_of_mem _ hi) c (hcm.mp hc)) (d1 r hr).1 (d1 r hr).2 (hcm.mpr hk)
    rw [hcl] at this
    omega
  have hray : ∀ r, r < st.1 → ∀ k, k ≤ t → (vc st.2.1 r k).natAbs ≤ 100000000 := fun r hr k hk => by
    by_cases hkn : k < n
    · have h1 := hsm r hr k hkn
      have h2 : (vc st.2.1 r k).natAbs * 1 ≤ (vc st.2.1 r k).natAbs * M k := Nat.mul_le_mul_left _ (hM1 k hkn)
      omega
    · have e : k = t ∧ n = t := by omega
      unfold vc
      rw [e.1, d5 e.2 r hr]
      decide
  have hzt : n = t → ∀ r, r < st.1 → vc st.2.1 r t = 0 := fun e r hr => by
    unfold vc
    rw [d5 e r hr]
    rfl
  obtain ⟨h, hh⟩ : ∃ h : Nat → Int, h = fun r => dot cs (b (5 + w)) (vc st.2.1 r) := ⟨_, rfl⟩
  have hslv : ∀ r, r < st.1 → (sl r).toInt = h r ∧ (h r).natAbs ≤ 500000000 := fun r hr => by
    have := slk_int (ray := st.2.1) (nu := nu) (r := r) (w := w) (ki := ki) (t := t) (n := n) (B := 100000000) (by decide) hki ht hn (hray r hr t (Nat.le_refl _)) (fun e => hzt e r hr) (fun j hj => by
      have hjn : j < n := by omega
      have h1 := hsm r hr j hjn
      have h2 := hM (5 + w) List.mem_cons_self j hjn
      have h3 : (nu (w * 4 + j)).toInt.natAbs ≤ M j := by
        rw [hbe] at h2
        unfold bdV at h2
        rw [if_neg (by omega), show 5 + w - 5 = w by omega] at h2
        split at h2
        · exact h2
        · first | omega | (rw [if_pos (by omega)] at h2; omega)
      rw [Int.natAbs_mul]
      exact Nat.le_trans (Nat.mul_le_mul_left _ h3) h1)
    rw [hsl r hr, hh]
    show _ = dot cs (b (5 + w)) (vc st.2.1 r) ∧ (dot cs (b (5 + w)) (vc st.2.1 r)).natAbs ≤ 500000000
    rw [hcs, hbe]
    exact ⟨this.1, by omega⟩
  have hpos : ∀ r, r < st.1 → (0 < sl r ↔ 0 < h r) := fun r hr => by rw [i64_lt, (hslv r hr).1]; exact Iff.rfl
  have hneg : ∀ r, r < st.1 → (sl r < 0 ↔ h r < 0) := fun r hr => by rw [i64_lt, (hslv r hr).1]; exact Iff.rfl
  have hzer : ∀ r, r < st.1 → (sl r = 0 ↔ h r = 0) := fun r hr => by rw [i64_eq, (hslv r hr).1]; exact Iff.rfl
  -- the pairs
  obtain ⟨P, hPe⟩ : ∃ P, P = prO kf sl st.2.2 st.1 0 st.1 := ⟨_, rfl⟩
  have hP : ∀ p, p ∈ P ↔ (p.1 < st.1 ∧ p.2 < st.1 ∧ 0 < h p.1 ∧ h p.2 < 0 ∧ Adj cs b I (vc st.2.1 p.1) (vc st.2.1 p.2)) := fun p => by
    rw [hPe, prO_mem]
    constructor
    · rintro ⟨-, a2, a3, a4, a5, a6⟩
      have q1 : p.1 < st.1 := by omega
      have q3 := (hpos p.1 q1).mp a3
      have q4 := (hneg p.2 a4).mp a5
      have q5 := (nb_adj hI hIn (by rw [← hcs]; exact hp) hDI' hkf (by omega) q1 a4 (fun e => by rw [e] at q3; omega)).mp a6
      rw [← hcs] at q5
      exact ⟨q1, a4, q3, q4, q5⟩
    · rintro ⟨q1, q2, q3, q4, q5⟩
      rw [hcs] at q5
      exact ⟨Nat.zero_le _, by omega, (hpos p.1 q1).mpr q3, q2, (hneg p.2 q2).mpr q4, (nb_adj hI hIn (by rw [← hcs]; exact hp) hDI' hkf (by omega) q1 q2 (fun e => by rw [e] at q3; omega)).mpr q5⟩
  have hPn : P.Nodup := by rw [hPe]; exact prO_nd _ _
  obtain ⟨Y, hY⟩ : ∃ Y : Nat × Nat → Nat → Int, Y = fun p k => (jnR t st.2.1 sl p.1 p.2 k).toInt := ⟨_, rfl⟩
  have hmid : ∀ p ∈ P, mid cs (b (5 + w)) (vc st.2.1 p.1) (vc st.2.1 p.2) = fun k => h p.1 * vc st.2.1 p.2 k + -(h p.2) * vc st.2.1 p.1 k := fun p _ => by rw [hh]
  have hYg : ∀ p ∈ P, ∃ g : Nat, 0 < g ∧ g = gl (mid cs (b (5 + w)) (vc st.2.1 p.1) (vc st.2.1 p.2)) cs ∧ ∀ k, k ≤ t → mid cs (b (5 + w)) (vc st.2.1 p.1) (vc st.2.1 p.2) k = (g : Int) * Y p k := fun p hp' => by
    obtain ⟨q1, q2, q3, q4, q5⟩ := (hP p).mp hp'
    have hnz : nz cs (mid cs (b (5 + w)) (vc st.2.1 p.1) (vc st.2.1 p.2)) := mid_nz (not_par hp (d1 p.1 q1).1 (d1 p.2 q2).1 (by rw [hh] at q3; exact q3) (by rw [hh] at q4; exact q4)) (by rw [hh] at q3; exact q3)
    rw [hmid p hp'] at hnz ⊢
    rw [hcs] at hnz ⊢
    rw [hY]
    exact jnR_int hn (hslv p.1 q1).1 (hslv p.2 q2).1 (hslv p.1 q1).2 (hslv p.2 q2).2 (hray p.1 q1) (hray p.2 q2) (fun e => ⟨hzt e p.1 q1, hzt e p.2 q2⟩) hnz
  have hYx : ∀ p ∈ P, Ext cs b ((5 + w) :: I) (Y p) ∧ gl (Y p) cs = 1 ∧ dot cs (b (5 + w)) (Y p) = 0 ∧ par2 cs (mid cs (b (5 + w)) (vc st.2.1 p.1) (vc st.2.1 p.2)) (Y p) := fun p hp' => by
    obtain ⟨q1, q2, q3, q4, q5⟩ := (hP p).mp hp'
    obtain ⟨g, g0, ge, hg⟩ := hYg p hp'
    have hgc : ∀ k ∈ cs, mid cs (b (5 + w)) (vc st.2.1 p.1) (vc st.2.1 p.2) k = (g : Int) * Y p k := fun k hk => hg k (by have := hcm.mp hk; omega)
    have hmx := mid_ext (k := 5 + w) hp (d1 p.1 q1).1 (d1 p.2 q2).1 (by rw [hh] at q3; exact q3) (by rw [hh] at q4; exact q4) q5
    have hpar := par2_scale (cs := cs) (show (g : Int) ≠ 0 by omega) hgc
    refine ⟨ext_scale (by omega) hgc hmx, ?_, par2_dot hmx.2.1 hpar (by rw [mid_dot]; grind), hpar⟩
    have e1 : gl (mid cs (b (5 + w)) (vc st.2.1 p.1) (vc st.2.1 p.2)) cs = gl (fun k => (g : Int) * Y p k) cs := gl_congr (fun k hk => by rw [hgc k hk])
    rw [gl_mul, ← ge, Int.natAbs_natCast] at e1
    exact (Nat.eq_of_mul_eq_mul_left g0 (by rw [Nat.mul_one]; exact e1)).symm
  -- tight at a joined row: at both
  have hYt : ∀ p ∈ P, ∀ i ∈ I, dot cs (b i) (Y p) = 0 ↔ (dot cs (b i) (vc st.2.1 p.1) = 0 ∧ dot cs (b i) (vc st.2.1 p.2) = 0) := fun p hp' i hi => by
    obtain ⟨q1, q2, q3, q4, q5⟩ := (hP p).mp hp'
    have hx := hYx p hp'
    have hmx := mid_ext (k := 5 + w) hp (d1 p.1 q1).1 (d1 p.2 q2).1 (by rw [hh] at q3; exact q3) (by rw [hh] at q4; exact q4) q5
    constructor
    · intro h0
      exact mid_tight (d1 p.1 q1).1.1 (d1 p.2 q2).1.1 (by rw [hh] at q3; exact q3) (by rw [hh] at q4; exact q4) hi (par2_dot hx.1.2.1 (par2_symm hx.2.2.2) h0)
    · rintro ⟨e1, e2⟩
      exact par2_dot hmx.2.1 hx.2.2.2 (by rw [mid_dot, e1, e2]; omega)
  have hYd : ∀ p ∈ P, ∀ q ∈ P, p ≠ q → ¬ par2 cs (Y p) (Y q) := fun p hp' q hq' hne hpar => by
    obtain ⟨p1, p2, p3, p4, p5⟩ := (hP p).mp hp'
    obtain ⟨q1, q2, q3, q4, q5⟩ := (hP q).mp hq'
    have hs : ∀ i ∈ I, dot cs (b i) (vc st.2.1 p.1) = 0 → dot cs (b i) (vc st.2.1 p.2) = 0 → dot cs (b i) (vc st.2.1 q.1) = 0 ∧ dot cs (b i) (vc st.2.1 q.2) = 0 := fun i hi e1 e2 => (hYt q hq' i hi).mp (par2_dot (hYx p hp').1.2.1 hpar ((hYt p hp' i hi).mpr ⟨e1, e2⟩))
    have hsame : ∀ r s, r < st.1 → s < st.1 → par2 cs (vc st.2.1 r) (vc st.2.1 s) → r = s := fun r s hr hs' hq => Classical.byContradiction (fun z => d3 r hr s hs' z hq)
    have e1 : q.1 = p.1 := by
      rcases p5 _ (d1 q.1 q1).1 (fun i hi a c => (hs i hi a c).1) with z | z
      · exact (hsame _ _ p1 q1 z).symm
      · have := hsame _ _ p2 q1 z
        rw [← this] at q3
        omega
    have e2 : q.2 = p.2 := by
      rcases p5 _ (d1 q.2 q2).1 (fun i hi a c => (hs i hi a c).2) with z | z
      · have := hsame _ _ p1 q2 z
        rw [← this] at q4
        omega
      · exact (hsame _ _ p2 q2 z).symm
    exact hne (Prod.ext e1.symm e2.symm)
  -- room
  have hold : st.1 ≤ 116 := by
    have hL : ((List.range st.1).map (vc st.2.1)).Nodup := nodup_mp List.nodup_range (fun a ha c hc e => Classical.byContradiction (fun z => d3 a (List.mem_range.mp ha) c (List.mem_range.mp hc) z (by rw [e]; exact par2_refl _ _)))
    have := many_old (b := b) hcn hp hJ hJl hIJ hDJ hDI hDn (by rw [hcl]; exact hDl) hL (fun v hv => by
      obtain ⟨r, hr, rfl⟩ := List.mem_map.mp hv
      exact (d1 r (List.mem_range.mp hr)).1) (fun v hv u hu hne => by
      obtain ⟨r, hr, rfl⟩ := List.mem_map.mp hv
      obtain ⟨s, hs, rfl⟩ := List.mem_map.mp hu
      exact d3 r (List.mem_range.mp hr) s (List.mem_range.mp hs) (fun e => hne (by rw [e])))
    rw [List.length_map, List.length_range] at this
    exact this
  have hnew : P.length ≤ 28 := by
    by_cases hP0 : P = []
    · rw [hP0]; exact Nat.zero_le _
    · obtain ⟨p0, hp0⟩ := List.exists_mem_of_ne_nil P hP0
      have hq := (hP p0).mp hp0
      have hL : (P.map Y).Nodup := nodup_mp hPn (fun a ha c hc e => Classical.byContradiction (fun z => hYd a ha c hc z (by rw [e]; exact par2_refl _ _)))
      have := many_new (b := b) (k := 5 + w) hcn hp hk0 hJl hIJ hDJ hDI hDn (by rw [hcl]; exact hDl) (by rw [hcl]; exact hn2) (r := vc st.2.1 p0.1) (by have := hq.2.2.1; rw [hh] at this; have this : 0 < dot cs (b (5 + w)) (vc st.2.1 p0.1) := this; omega) hL (fun v hv => by
        obtain ⟨p, hp', rfl⟩ := List.mem_map.mp hv
        exact ⟨(hYx p hp').1, (hYx p hp').2.2.1⟩) (fun v hv u hu hne => by
        obtain ⟨p, hp', rfl⟩ := List.mem_map.mp hv
        obtain ⟨q, hq', rfl⟩ := List.mem_map.mp hu
        exact hYd p hp' q hq' (fun e => hne (by rw [e])))
      rw [List.length_map] at this
      exact this
  -- the machine's rows
  obtain ⟨s1, hs1⟩ : ∃ s1, s1 = jnF t sl (bdW w) P st := ⟨_, rfl⟩
  have hct : ctO t kf sl (bdW w) st.1 0 st.1 st = s1 := by
    rw [hs1, hPe]
    exact ctO_jn ht st.1 0 st (by omega) (Nat.le_refl _) (fun _ _ => rfl)
  have hkeep := jnF_keep (sl := sl) (bd := bdW w) ht P st
  have hjn := jnF_new (sl := sl) (bd := bdW w) ht st P st (fun p hp' => ⟨((hP p).mp hp').1, ((hP p).mp hp').2.1⟩) (Nat.le_refl _) (fun i hi => ⟨fun k _ => rfl, rfl⟩) (by omega)
  rw [← hs1] at hkeep hjn
  have hcut : cutF nu w ki t kf sl st = cmL t sl (bdW w) st.1 0 s1.1 (0, s1.2) := by
    unfold cutF
    rw [hct]
  have hcm := cmL_kp (sl := sl) (bd := bdW w) (old := st.1) ht s1 s1.1 0 (0, s1.2) [] rfl (Nat.le_refl _) (fun e j q => by simp at q) (fun i _ => ⟨fun k _ => rfl, rfl⟩)
  rw [← hcut, List.nil_append] at hcm
  obtain ⟨F, hF⟩ : ∃ F, F = cutF nu w ki t kf sl st := ⟨_, rfl⟩
  obtain ⟨K, hK⟩ : ∃ K, K = kpL sl st.1 0 s1.1 := ⟨_, rfl⟩
  rw [← hF] at hcm ⊢
  rw [← hK] at hcm
  have hKm : ∀ j, j ∈ K ↔ (j < s1.1 ∧ ¬ (j < st.1 ∧ sl j < 0)) := fun j => by
    rw [hK, kpL_mem]
    constructor
    · rintro ⟨-, a, c⟩; exact ⟨by omega, c⟩
    · rintro ⟨a, c⟩; exact ⟨Nat.zero_le _, by omega, c⟩
  have hKn : K.Nodup := by rw [hK]; exact (kpL_lt _ _).imp (fun q => Nat.ne_of_lt q)
  -- where a row comes from
  have hsrc : ∀ j, j ∈ K → (j < st.1 ∧ 0 ≤ h j ∧ (∀ k, k ≤ t → s1.2.1 (j * 5 + k) = st.2.1 (j * 5 + k)) ∧ s1.2.2 j = st.2.2 j) ∨ (∃ p, st.1 ≤ j ∧ P[j - st.1]? = some p ∧ p ∈ P ∧ (∀ k, k ≤ t → (s1.2.1 (j * 5 + k)).toInt = Y p k) ∧ s1.2.2 j = (st.2.2 p.1 &&& st.2.2 p.2) ||| bdW w) := fun j hj => by
    have hj' := (hKm j).mp hj
    by_cases hjo : j < st.1
    · left
      have hk := hkeep.2 j hjo
      refine ⟨hjo, ?_, hk.1, hk.2⟩
      have : ¬ h j < 0 := fun z => hj'.2 ⟨hjo, (hneg j hjo).mpr z⟩
      omega
    · right
      have hlt : j - st.1 < P.length := by omega
      have hp' : P[j - st.1]? = some P[j - st.1] := List.getElem?_eq_getElem hlt
      have := hjn.2 (j - st.1) _ hp'
      rw [show st.1 + (j - st.1) = j by omega] at this
      refine ⟨_, by omega, hp', List.getElem_mem hlt, fun k hk => ?_, this.2⟩
      rw [this.1 k hk, hY]
  have hget : ∀ e, e < F.1 → ∃ j, K[e]? = some j ∧ j ∈ K ∧ (∀ k, k ≤ t → F.2.1 (e * 5 + k) = s1.2.1 (j * 5 + k)) ∧ F.2.2 e = cmB sl (bdW w) st.1 j (s1.2.2 j) := fun e he => by
    have hlt : e < K.length := by rw [← hcm.1]; exact he
    have hq : K[e]? = some K[e] := List.getElem?_eq_getElem hlt
    have := hcm.2 e _ hq
    exact ⟨_, hq, List.getElem_mem hlt, this.1, this.2⟩
  obtain ⟨X, hX⟩ : ∃ X : Nat → Nat → Int, X = fun j k => (s1.2.1 (j * 5 + k)).toInt := ⟨_, rfl⟩
  have hFX : ∀ e j, (∀ k, k ≤ t → F.2.1 (e * 5 + k) = s1.2.1 (j * 5 + k)) → ∀ k ∈ cs, vc F.2.1 e k = X j k := fun e j q k hk => by
    rw [hX]
    unfold vc
    rw [q k (by rw [hcs] at hk; have := List.mem_range.mp hk; omega)]
  have hcsk : ∀ k ∈ cs, k ≤ t := fun k hk => by rw [hcs] at hk; have := List.mem_range.mp hk; omega
  have hX1 : ∀ j, j < st.1 → (∀ k, k ≤ t → s1.2.1 (j * 5 + k) = st.2.1 (j * 5 + k)) → ∀ k ∈ cs, vc st.2.1 j k = X j k := fun j _ q k hk => by
    rw [hX]
    show (st.2.1 (j * 5 + k)).toInt = (s1.2.1 (j * 5 + k)).toInt
    rw [q k (hcsk k hk)]
  -- the five of it, for sources
  have hXE : ∀ j ∈ K, Ext cs b ((5 + w) :: I) (X j) ∧ gl (X j) cs = 1 := fun j hj => by
    rcases hsrc j hj with ⟨a1, a2, a3, -⟩ | ⟨p, -, -, a2, a3, -⟩
    · have hag := hX1 j a1 a3
      refine ⟨ext_scale (g := 1) (by decide) (fun k hk => by rw [Int.one_mul]; exact hag k hk) (keep_ext (d1 j a1).1 (by rw [hh] at a2; exact a2)), ?_⟩
      rw [← (d1 j a1).2]
      exact gl_congr (fun k hk => by rw [hag k hk])
    · have hx := hYx p a2
      have hag : ∀ k ∈ cs, Y p k = X j k := fun k hk => by rw [hX]; exact (a3 k (hcsk k hk)).symm
      refine ⟨ext_scale (g := 1) (by decide) (fun k hk => by rw [Int.one_mul]; exact hag k hk) hx.1, ?_⟩
      rw [← hx.2.1]
      exact gl_congr (fun k hk => by rw [hag k hk])
  unfold DDI
  rw [← hcs, ← hbe]
  refine ⟨fun e he => ?_, fun e he j hj => ?_, fun e he e' he' hne => ?_, fun x hx => ?_, fun hnt e he => ?_⟩
  · obtain ⟨j, -, hj, q, -⟩ := hget e he
    have hag := hFX e j q
    have hxe := hXE j hj
    refine ⟨ext_scale (g := 1) (by decide) (fun k hk => by rw [Int.one_mul]; exact (hag k hk).symm) hxe.1, ?_⟩
    rw [← hxe.2]
    exact gl_congr (fun k hk => by rw [hag k hk])
  · obtain ⟨i, -, hi, q, qm⟩ := hget e he
    have hag := hFX e i q
    have hdd : ∀ u, dot cs u (vc F.2.1 e) = dot cs u (X i) := fun u => dot_congr (fun _ _ => rfl) hag
    rw [qm, hdd]
    rcases hsrc i hi with ⟨a1, a2, a3, a4⟩ | ⟨p, a0, -, a2, a3, a4⟩
    · have hag1 := hX1 i a1 a3
      have hd1 : ∀ u, dot cs u (X i) = dot cs u (vc st.2.1 i) := fun u => dot_congr (fun _ _ => rfl) (fun k hk => (hag1 k hk).symm)
      rw [hd1, a4]
      have hm := d2 i a1 j hj
      unfold cmB
      by_cases hz : sl i = 0
      · rw [if_pos ⟨a1, hz⟩, b_or, Bool.or_eq_true, hm, b_bdW hw hj, decide_eq_true_eq, List.mem_cons]
        have h0 := (hzer i a1).mp hz
        rw [hh] at h0
        have h0 : dot cs (b (5 + w)) (vc st.2.1 i) = 0 := h0
        constructor
        · rintro (⟨z1, z2⟩ | z)
          · exact ⟨Or.inr z1, z2⟩
          · exact ⟨Or.inl z, by rw [z]; exact h0⟩
        · rintro ⟨z1 | z1, z2⟩
          · exact Or.inr z1
          · exact Or.inl ⟨z1, z2⟩
      · rw [if_neg (fun z => hz z.2), hm, List.mem_cons]
        have h0 : ¬ dot cs (b (5 + w)) (vc st.2.1 i) = 0 := fun z => hz ((hzer i a1).mpr (by rw [hh]; exact z))
        constructor
        · rintro ⟨z1, z2⟩; exact ⟨Or.inr z1, z2⟩
        · rintro ⟨z1 | z1, z2⟩
          · rw [z1] at z2; exact absurd z2 h0
          · exact ⟨z1, z2⟩
    · have hd1 : ∀ u, dot cs u (X i) = dot cs u (Y p) := fun u => dot_congr (fun _ _ => rfl) (fun k hk => by rw [hX]; exact a3 k (hcsk k hk))
      have hpp := (hP p).mp a2
      unfold cmB
      rw [if_neg (by omega), hd1, a4, b_or, b_and, Bool.or_eq_true, Bool.and_eq_true, d2 p.1 hpp.1 j hj, d2 p.2 hpp.2.1 j hj, b_bdW hw hj, decide_eq_true_eq, List.mem_cons]
      constructor
      · rintro (⟨⟨z1, z2⟩, -, z3⟩ | z)
        · exact ⟨Or.inr z1, (hYt p a2 j z1).mpr ⟨z2, z3⟩⟩
        · exact ⟨Or.inl z, by rw [z]; exact (hYx p a2).2.2.1⟩
      · rintro ⟨z1 | z1, z2⟩
        · exact Or.inr z1
        · have := (hYt p a2 j z1).mp z2
          exact Or.inl ⟨⟨z1, this.1⟩, z1, this.2⟩
  · obtain ⟨j, k1, hj, q, -⟩ := hget e he
    obtain ⟨j', k2, hj', q', -⟩ := hget e' he'
    have hjne : j ≠ j' := fun z => by
      subst z
      exact hne (nd_inj hKn k1 k2)
    intro hpar
    have hpar : par2 cs (X j) (X j') := par2_cg (hFX e j q) (hFX e' j' q') hpar
    rcases hsrc j hj with ⟨a1, a2, a3, a4⟩ | ⟨p, a0, a1, a2, a3, a4⟩
    · have hag1 := hX1 j a1 a3
      rcases hsrc j' hj' with ⟨c1, c2, c3, c4⟩ | ⟨p', c0, c1, c2, c3, c4⟩
      · exact d3 j a1 j' c1 hjne (par2_cg (fun k hk => (hag1 k hk).symm) (fun k hk => (hX1 j' c1 c3 k hk).symm) hpar)
      · have hp2 : par2 cs (Y p') (vc st.2.1 j) := par2_symm (par2_cg (fun k hk => (hag1 k hk).symm) (fun k hk => by rw [hX]; exact c3 k (hcsk k hk)) hpar)
        have hpp := (hP p').mp c2
        have hy := hYx p' c2
        have h0 : dot cs (b (5 + w)) (vc st.2.1 j) = 0 := par2_dot hy.1.2.1 hp2 hy.2.2.1
        rcases hpp.2.2.2.2 _ (d1 j a1).1 (fun i hi z1 z2 => par2_dot hy.1.2.1 hp2 ((hYt p' c2 i hi).mpr ⟨z1, z2⟩)) with z | z
        · have := par2_dot (d1 j a1).1.2.1 (par2_symm z) h0
          have q3 := hpp.2.2.1
          rw [hh] at q3
          have q3 : 0 < dot cs (b (5 + w)) (vc st.2.1 p'.1) := q3
          omega
        · have := par2_dot (d1 j a1).1.2.1 (par2_symm z) h0
          have q3 := hpp.2.2.2.1
          rw [hh] at q3
          have q3 : dot cs (b (5 + w)) (vc st.2.1 p'.2) < 0 := q3
          omega
    · rcases hsrc j' hj' with ⟨c1, c2, c3, c4⟩ | ⟨p', c0, c1, c2, c3, c4⟩
      · have hag1 := hX1 j' c1 c3
        have hp2 : par2 cs (Y p) (vc st.2.1 j') := par2_cg (fun k hk => by rw [hX]; exact a3 k (hcsk k hk)) (fun k hk => (hag1 k hk).symm) hpar
        have hpp := (hP p).mp a2
        have hy := hYx p a2
        have h0 : dot cs (b (5 + w)) (vc st.2.1 j') = 0 := par2_dot hy.1.2.1 hp2 hy.2.2.1
        rcases hpp.2.2.2.2 _ (d1 j' c1).1 (fun i hi z1 z2 => par2_dot hy.1.2.1 hp2 ((hYt p a2 i hi).mpr ⟨z1, z2⟩)) with z | z
        · have := par2_dot (d1 j' c1).1.2.1 (par2_symm z) h0
          have q3 := hpp.2.2.1
          rw [hh] at q3
          have q3 : 0 < dot cs (b (5 + w)) (vc st.2.1 p.1) := q3
          omega
        · have := par2_dot (d1 j' c1).1.2.1 (par2_symm z) h0
          have q3 := hpp.2.2.2.1
          rw [hh] at q3
          have q3 : dot cs (b (5 + w)) (vc st.2.1 p.2) < 0 := q3
          omega
      · have hpne : p ≠ p' := fun z => by
          subst z
          have := nd_inj hPn a1 c1
          omega
        exact hYd p a2 p' c2 hpne (par2_cg (fun k hk => by rw [hX]; exact a3 k (hcsk k hk)) (fun k hk => by rw [hX]; exact c3 k (hcsk k hk)) hpar)
  · -- complete
    have hfind : ∀ j ∈ K, par2 cs (X j) x → ∃ i, i < F.1 ∧ par2 cs (vc F.2.1 i) x := fun j hj hpar => by
      obtain ⟨e, he, hee⟩ := List.getElem_of_mem hj
      have hq : K[e]? = some j := by rw [List.getElem?_eq_getElem he, hee]
      have := hcm.2 e j hq
      exact ⟨e, by rw [hcm.1]; exact he, par2_cg (fun k hk => (hFX e j this.1 k hk).symm) (fun _ _ => rfl) hpar⟩
    rcases ext_cases hp hx with hxI | ⟨hx0, r, s, hr, hs, h1, h2, hadj, hpm⟩
    · obtain ⟨i, hi, hpi⟩ := d4 x hxI
      have hge : 0 ≤ h i := by
        rw [hh]
        show 0 ≤ dot cs (b (5 + w)) (vc st.2.1 i)
        have hx0 := hx.1 (5 + w) List.mem_cons_self
        rcases Int.lt_or_eq_of_le hx0 with z | z
        · exact par2_side hp hxI.1 hx.2.1 (d1 i hi).1.1 (par2_symm hpi) _ z
        · rw [par2_dot hx.2.1 (par2_symm hpi) z.symm]
          exact Int.le_refl _
      have hik : i ∈ K := (hKm i).mpr ⟨by omega, fun z => by have := (hneg i hi).mp z.2; omega⟩
      have hk := hkeep.2 i hi
      exact hfind i hik (par2_cg (hX1 i hi hk.1) (fun _ _ => rfl) hpi)
    · obtain ⟨v, hv, hpv⟩ := d4 r hr
      obtain ⟨i, hi, hpi⟩ := d4 s hs
      have hvp : 0 < h v := by
        rw [hh]
        show 0 < dot cs (b (5 + w)) (vc st.2.1 v)
        have a := par2_side hp hr.1 hr.2.1 (d1 v hv).1.1 (par2_symm hpv) _ h1
        rcases Int.lt_or_eq_of_le a with z | z
        · exact z
        · have := par2_dot (d1 v hv).1.2.1 hpv z.symm
          omega
      have hin : h i < 0 := by
        rw [hh]
        show dot cs (b (5 + w)) (vc st.2.1 i) < 0
        refine Classical.byContradiction (fun z => ?_)
        rcases Int.lt_or_eq_of_le (show 0 ≤ dot cs (b (5 + w)) (vc st.2.1 i) by omega) with y | y
        · have := par2_side hp (d1 i hi).1.1 (d1 i hi).1.2.1 hs.1 hpi _ y
          omega
        · have := par2_dot (d1 i hi).1.2.1 hpi y.symm
          omega
      have hadj2 : Adj cs b I (vc st.2.1 v) (vc st.2.1 i) := fun e he hse => by
        rcases hadj e he (fun k hk z1 z2 => hse k hk (par2_dot hr.2.1 (par2_symm hpv) z1) (par2_dot hs.2.1 (par2_symm hpi) z2)) with z | z
        · exact Or.inl (par2_trans hr.2.1 hpv z)
        · exact Or.inr (par2_trans hs.2.1 hpi z)
      have hpP : (v, i) ∈ P := (hP (v, i)).mpr ⟨hv, hi, hvp, hin, hadj2⟩
      obtain ⟨e, he, hee⟩ := List.getElem_of_mem hpP
      have hjK : st.1 + e ∈ K := (hKm _).mpr ⟨by rw [hjn.1]; omega, fun z => by omega⟩
      have hq : P[e]? = some (v, i) := by rw [List.getElem?_eq_getElem he, hee]
      have hrow := (hjn.2 e (v, i) hq).1
      refine hfind _ hjK ?_
      have hy := hYx (v, i) hpP
      have hpar1 : par2 cs (Y (v, i)) x := par2_trans (mid_nz (not_par hp (d1 v hv).1 (d1 i hi).1 (by rw [hh] at hvp; exact hvp) (by rw [hh] at hin; exact hin)) (by rw [hh] at hvp; exact hvp)) (par2_symm hy.2.2.2) (par2_trans (mid_nz (not_par hp hr hs h1 h2) h1) (mid_par hcn hpv hpi (by rw [hh] at hvp; have hvp : 0 < dot cs (b (5 + w)) (vc st.2.1 v) := hvp; omega) (by rw [hh] at hin; have hin : dot cs (b (5 + w)) (vc st.2.1 i) < 0 := hin; omega)) hpm)
      refine par2_cg (fun k hk => ?_) (fun _ _ => rfl) hpar1
      rw [hX, hY]
      show _ = (s1.2.1 ((st.1 + e) * 5 + k)).toInt
      rw [hrow k (hcsk k hk)]
  · obtain ⟨j, -, hj, q, -⟩ := hget e he
    rw [q t (Nat.le_refl _)]
    rcases hsrc j hj with ⟨a1, a2, a3, a4⟩ | ⟨p, a0, a1, a2, a3, a4⟩
    · rw [a3 t (Nat.le_refl _)]
      exact d5 hnt j a1
    · obtain ⟨g, g0, -, hg⟩ := hYg p a2
      have hpp := (hP p).mp a2
      have e1 := hg t (Nat.le_refl _)
      rw [hmid p a2] at e1
      have e1 : h p.1 * vc st.2.1 p.2 t + -(h p.2) * vc st.2.1 p.1 t = (g : Int) * Y p t := e1
      rw [hzt hnt p.1 hpp.1, hzt hnt p.2 hpp.2.1] at e1
      have e2 : (g : Int) * Y p t = 0 := by omega
      have e3 : Y p t = 0 := (Int.mul_eq_zero.mp e2).elim (fun z => by omega) id
      rw [i64_eq, a3 t (Nat.le_refl _), e3]
      rfl
end CUTDD
