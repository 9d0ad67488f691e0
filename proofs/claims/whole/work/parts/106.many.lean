/-! HOW MANY EDGES: the cone of the class -/
section MANY
variable {cs : List Nat} {b : Nat → Nat → Int}
def insN (x : Nat) : List Nat → List Nat
  | [] => [x]
  | y :: l => if x ≤ y then x :: y :: l else y :: insN x l
def srtN : List Nat → List Nat
  | [] => []
  | x :: l => insN x (srtN l)
theorem insN_perm (x : Nat) : ∀ l : List Nat, (insN x l).Perm (x :: l)
  | [] => List.Perm.refl _
  | y :: l => by
    rw [insN]
    split
    · exact List.Perm.refl _
    · exact ((insN_perm x l).cons y).trans (List.Perm.swap x y l)
theorem srtN_perm : ∀ l : List Nat, (srtN l).Perm l
  | [] => List.Perm.refl _
  | x :: l => (insN_perm x (srtN l)).trans ((srtN_perm l).cons x)
theorem insN_le (x : Nat) : ∀ l : List Nat, l.Pairwise (· ≤ ·) → (insN x l).Pairwise (· ≤ ·)
  | [], _ => List.pairwise_singleton _ _
  | y :: l, h => by
    have h' := List.pairwise_cons.mp h
    rw [insN]
    split
    · rename_i hxy
      refine List.pairwise_cons.mpr ⟨fun z hz => ?_, h⟩
      rcases List.mem_cons.mp hz with e | e
      · omega
      · have := h'.1 z e; omega
    · rename_i hxy
      refine List.pairwise_cons.mpr ⟨fun z hz => ?_, insN_le x l h'.2⟩
      rcases List.mem_cons.mp ((insN_perm x l).mem_iff.mp hz) with e | e
      · omega
      · exact h'.1 z e
theorem srtN_le : ∀ l : List Nat, (srtN l).Pairwise (· ≤ ·)
  | [] => List.Pairwise.nil
  | x :: l => insN_le x _ (srtN_le l)
theorem srtN_lt {l : List Nat} (h : l.Nodup) : (srtN l).Pairwise (· < ·) := by
  have h1 := srtN_le l
  have h2 : (srtN l).Nodup := (srtN_perm l).nodup_iff.mpr h
  exact (List.Pairwise.and h1 h2).imp (fun {a c} q => by have := q.1; have := q.2; omega)
theorem lsum_perm {f : Nat → Int} {l m : List Nat} (h : l.Perm m) : lsum f l = lsum f m := by
  induction h with
  | nil => rfl
  | cons x _ ih => rw [lsum, lsum, ih]
  | swap x y l => rw [lsum, lsum, lsum, lsum]; omega
  | trans _ _ h1 h2 => exact h1.trans h2
theorem lsum_append (f : Nat → Int) : ∀ l m : List Nat, lsum f (l ++ m) = lsum f l + lsum f m
  | [], m => by rw [List.nil_append, lsum]; omega
  | x :: l, m => by rw [List.cons_append, lsum, lsum, lsum_append f l m]; omega
/-- indices of rows -/
theorem idx_of {S : List Nat} : ∀ {ts : List (Nat → Int)}, (∀ t ∈ ts, t ∈ S.map b) → ∃ l : List Nat, l.map b = ts ∧ ∀ i ∈ l, i ∈ S
  | [], _ => ⟨[], rfl, fun _ q => (by cases q)⟩
  | t :: ts, h => by
    obtain ⟨l, h1, h2⟩ := idx_of (ts := ts) (fun u hu => h u (List.mem_cons_of_mem _ hu))
    obtain ⟨i, hi, e⟩ := List.mem_map.mp (h t List.mem_cons_self)
    exact ⟨i :: l, by rw [List.map_cons, h1, e], fun j hj => (List.mem_cons.mp hj).elim (fun q => q ▸ hi) (h2 j)⟩
theorem nodup_of_map {l : List Nat} (h : (l.map b).Nodup) : l.Nodup := by
  induction l with
  | nil => exact List.nodup_nil
  | cons x l ih =>
    rw [List.map_cons] at h
    have h' := List.nodup_cons.mp h
    exact List.nodup_cons.mpr ⟨fun q => h'.1 (List.mem_map_of_mem q), ih h'.2⟩
theorem crs_perm {l m : List (Nat → Int)} (h : l.Perm m) (hz : nz cs (crs l cs)) : nz cs (crs m cs) := by
  obtain ⟨c, hc, h0⟩ := hz
  obtain ⟨σ, -, h2⟩ := det_perm (h.cons (dl c))
  refine ⟨c, hc, fun q => h0 ?_⟩
  show det (dl c :: l) cs = 0
  rw [h2]
  have q : det (dl c :: m) cs = 0 := q
  rw [q, Int.mul_zero]
/-- an edge lies on n - 1 bounds that fix its line, told in order -/
theorem ext_basis (hn : cs.Nodup) {I : List Nat} {x : Nat → Int} (hx : Ext cs b I x) : ∃ S : List Nat, S.length + 1 = cs.length ∧ S.Pairwise (· < ·) ∧ (∀ i ∈ S, i ∈ I ∧ dot cs (b i) x = 0) ∧ nz cs (crs (S.map b) cs) := by
  obtain ⟨ts, l1, l2, l3, l4⟩ := crs_basis hn (T := (I.filter (fun i => decide (dot cs (b i) x = 0))).map b) hx.2.1 (fun t ht => by
    obtain ⟨i, hi, rfl⟩ := List.mem_map.mp ht
    exact of_decide_eq_true (List.mem_filter.mp hi).2) (fun y hy => hx.2.2 y (fun i hi h0 => hy (b i) (List.mem_map_of_mem (List.mem_filter.mpr ⟨hi, decide_eq_true h0⟩))))
  obtain ⟨l, e, hl⟩ := idx_of l2
  subst e
  have hp := srtN_perm l
  refine ⟨srtN l, by rw [hp.length_eq]; simpa using l1, srtN_lt (nodup_of_map l3), fun i hi => ?_, crs_perm (hp.symm.map b) l4⟩
  have := List.mem_filter.mp (hl i (hp.mem_iff.mp hi))
  exact ⟨this.1, of_decide_eq_true this.2⟩
theorem basis_line (hn : cs.Nodup) {S : List Nat} {x : Nat → Int} (hl : S.length + 1 = cs.length) (hz : nz cs (crs (S.map b) cs)) (hx : ∀ i ∈ S, dot cs (b i) x = 0) {y : Nat → Int} (hy : ∀ i ∈ S, dot cs (b i) y = 0) : par2 cs x y := by
  have key : ∀ z, (∀ i ∈ S, dot cs (b i) z = 0) → par2 cs (crs (S.map b) cs) z := fun z hz i hi j hj => by
    have := crs_line (rs := S.map b) (by simpa using hl) hn (y := z) (fun r hr => by
      obtain ⟨k, hk, rfl⟩ := List.mem_map.mp hr
      exact hz k hk) hi hj
    grind
  exact par2_trans hz (par2_symm (key x hx)) (key y hy)
/-- a row that is 0 on the line is a sum of the bounds -/
theorem basis_span (hn : cs.Nodup) {S : List Nat} {x r : Nat → Int} (hl : S.length + 1 = cs.length) (hz : nz cs (crs (S.map b) cs)) (hx : ∀ i ∈ S, dot cs (b i) x = 0) (hxz : nz cs x) (hr : dot cs r x = 0) : Spn cs (S.map b) r := by
  rcases fred cs (S.map b) r with q | ⟨y, h1, h2⟩
  · exact q
  · exact absurd (par2_dot hxz (basis_line hn hl hz hx (fun i hi => h1 (b i) (List.mem_map_of_mem hi))) hr) h2
theorem Spn_mu : ∀ {S : List Nat} {r : Nat → Int}, S.Nodup → Spn cs (S.map b) r → ∃ (m : Int) (μ : Nat → Int), 0 < m ∧ ∀ w, m * dot cs r w = lsum (fun i => μ i * dot cs (b i) w) S
  | [], r, _, h => ⟨1, fun _ => 0, by decide, fun w => by rw [dot_zl h]; rfl⟩
  | i :: S, r, hn, h => by
    have hn' := List.nodup_cons.mp hn
    obtain ⟨m, k, hm, h⟩ := h
    obtain ⟨m2, μ, hm2, e⟩ := Spn_mu hn'.2 h
    have key : ∀ σ : Int, 0 < σ * m → ∃ (m : Int) (μ : Nat → Int), 0 < m ∧ ∀ w, m * dot cs r w = lsum (fun i => μ i * dot cs (b i) w) (i :: S) := fun σ hσ => by
      refine ⟨m2 * (σ * m), fun j => if j = i then -(σ * m2 * k) else σ * μ j, Int.mul_pos hm2 hσ, fun w => ?_⟩
      rw [lsum]
      have e1 := e w
      rw [dot_lcl] at e1
      have e2 : lsum (fun j => (if j = i then -(σ * m2 * k) else σ * μ j) * dot cs (b j) w) S = σ * lsum (fun j => μ j * dot cs (b j) w) S := by
        have e3 := lsum_lin (fun j => μ j * dot cs (b j) w) (fun _ => 0) σ 0 S
        rw [lsum_zero, Int.mul_zero, Int.add_zero] at e3
        rw [← e3]
        refine lsum_congr (fun j hj => ?_)
        rw [if_neg (show ¬ j = i from fun q => hn'.1 (q ▸ hj))]
        grind
      have e4 : (fun j => if j = i then -(σ * m2 * k) else σ * μ j) i = -(σ * m2 * k) := if_pos rfl
      rw [e2, ← e1, e4]
      grind
    by_cases h0 : 0 < m
    · exact key 1 (by omega)
    · exact key (-1) (by omega)
/-- a functional that tells all edges of a list apart -/
theorem sepV : ∀ (D : List (Nat → Int)), (∀ d ∈ D, nz cs d) → ∃ c : Nat → Int, ∀ d ∈ D, dot cs c d ≠ 0
  | [], _ => ⟨fun _ => 0, fun _ q => (by cases q)⟩
  | d :: D, h => by
    obtain ⟨c, hc⟩ := sepV D (fun e he => h e (List.mem_cons_of_mem _ he))
    by_cases h0 : dot cs c d = 0
    · have hbig : ∀ D : List (Nat → Int), ∃ N : Int, 0 < N ∧ ∀ e ∈ D, -N < dot cs d e ∧ dot cs d e < N := fun D => by
        induction D with
        | nil => exact ⟨1, by decide, fun _ q => (by cases q)⟩
        | cons e D ih =>
          obtain ⟨N, h1, h2⟩ := ih
          refine ⟨N + (dot cs d e).natAbs + 1, by omega, fun f hf => ?_⟩
          rcases List.mem_cons.mp hf with q | q
          · rw [q]; omega
          · have := h2 f q; omega
      obtain ⟨N, hN, hNb⟩ := hbig D
      refine ⟨lc N c 1 d, fun e he => ?_⟩
      rw [dot_lcl]
      rcases List.mem_cons.mp he with q | q
      · rw [q, h0]
        have := dot_self (h d List.mem_cons_self)
        omega
      · have h1 := hc e q
        have h2 := hNb e q
        intro z
        rcases Int.lt_or_gt_of_ne h1 with y | y
        · have : N * dot cs c e ≤ N * (-1) := Int.mul_le_mul_of_nonneg_left (by omega) (by omega)
          omega
        · have : N * 1 ≤ N * dot cs c e := Int.mul_le_mul_of_nonneg_left (by omega) (by omega)
          omega
    · exact ⟨c, fun e he => (List.mem_cons.mp he).elim (fun q => q ▸ h0) (hc e)⟩
/-- a height: positive on the cone -/
def sumB (b : Nat → Nat → Int) : List Nat → Nat → Int
  | [] => fun _ => 0
  | i :: I => lc 1 (b i) 1 (sumB b I)
theorem sumB_dot (x : Nat → Int) : ∀ I : List Nat, dot cs (sumB b I) x = lsum (fun i => dot cs (b i) x) I
  | [] => dot_zl (fun _ _ => rfl)
  | i :: I => by rw [sumB, dot_lcl, sumB_dot x I, lsum]; omega
theorem sumB_pos {I : List Nat} (hp : Ptd cs b I) {x : Nat → Int} (hx : inC cs b I x) (hz : nz cs x) : 0 < dot cs (sumB b I) x := by
  rw [sumB_dot]
  obtain ⟨i, hi, h⟩ := Ext_some hp hx hz
  exact lsum_pos hx ⟨i, hi, by omega⟩
theorem four_of {l : List Nat} (h : l.length = 4) : ∃ a b c d, l = [a, b, c, d] := by
  match l, h with
  | [a, b, c, d], _ => exact ⟨a, b, c, d, rfl⟩
theorem three_of {l : List Nat} (h : l.length = 3) : ∃ a b c, l = [a, b, c] := by
  match l, h with
  | [a, b, c], _ => exact ⟨a, b, c, rfl⟩
/-- the bounds' values; indices that are no bounds count as tight -/
def btv (cs : List Nat) (b : Nat → Nat → Int) (I : List Nat) (i : Nat) (v : Nat → Int) : Int := if i ∈ I then dot cs (b i) v else 0
theorem seps {I : List Nat} (hp : Ptd cs b I) {L : List (Nat → Int)} (hE : ∀ v ∈ L, inC cs b I v ∧ nz cs v) (hd : ∀ v ∈ L, ∀ w ∈ L, v ≠ w → ¬ par2 cs v w) : ∃ C : Nat → Int, ∀ v ∈ L, ∀ w ∈ L, v ≠ w → kap (fun z => dot cs C z) (fun z => dot cs (sumB b I) z) v w ≠ 0 := by
  obtain ⟨D, hD⟩ : ∃ D : List (Nat → Int), D = (L.flatMap (fun v => L.map (fun w => lc (dot cs (sumB b I) v) w (-(dot cs (sumB b I) w)) v))).filter (fun d => @decide (nz cs d) (Classical.propDecidable _)) := ⟨_, rfl⟩
  obtain ⟨C, hC⟩ := sepV (cs := cs) D (fun d hd => by rw [hD] at hd; exact @of_decide_eq_true _ (Classical.propDecidable _) (List.mem_filter.mp hd).2)
  refine ⟨C, fun v hv w hw hne => ?_⟩
  have hgv := sumB_pos hp (hE v hv).1 (hE v hv).2
  have h := hC (lc (dot cs (sumB b I) v) w (-(dot cs (sumB b I) w)) v) (by
    rw [hD]
    refine List.mem_filter.mpr ⟨List.mem_flatMap.mpr ⟨v, hv, List.mem_map.mpr ⟨w, hw, rfl⟩⟩, @decide_eq_true _ (Classical.propDecidable _) (Classical.byContradiction (fun q => hd v hv w hw hne (fun i hi j hj => ?_)))⟩
    have e1 : dot cs (sumB b I) v * w i + -(dot cs (sumB b I) w) * v i = 0 := not_nz q i hi
    have e2 : dot cs (sumB b I) v * w j + -(dot cs (sumB b I) w) * v j = 0 := not_nz q j hj
    have : dot cs (sumB b I) v * (v i * w j) = dot cs (sumB b I) v * (v j * w i) := by grind
    exact Int.eq_of_mul_eq_mul_left (by omega) this)
  intro q
  apply h
  rw [dot_lc]
  unfold kap at q
  grind
theorem kap_dot (C G v w : Nat → Int) : kap (fun z => dot cs C z) (fun z => dot cs G z) v w = dot cs (lc (dot cs G v) C (-(dot cs C v)) G) w := by
  rw [dot_lcl]
  unfold kap
  grind
theorem many_old (hn : cs.Nodup) {I D J : List Nat} (hp : Ptd cs b I) (hJ : J.Pairwise (· < ·)) (hJl : J.length ≤ 16) (hIJ : ∀ i ∈ I, i ∈ J) (hDJ : ∀ i ∈ D, i ∈ J) (hDI : ∀ i ∈ D, i ∉ I) (hDn : D.Nodup) (hDl : D.length + cs.length = 5)
    {L : List (Nat → Int)} (hL : L.Nodup) (hE : ∀ v ∈ L, Ext cs b I v) (hd : ∀ v ∈ L, ∀ w ∈ L, v ≠ w → ¬ par2 cs v w) : L.length ≤ 116 := by
  obtain ⟨C, hC⟩ := seps hp (fun v hv => ⟨(hE v hv).1, (hE v hv).2.1⟩) hd
  refine cap4 (c := fun z => dot cs C z) (g := fun z => dot cs (sumB b I) z) (bt := btv cs b I) hJ hJl hL (fun v hv => sumB_pos hp (hE v hv).1 (hE v hv).2.1) hC (fun i _ v hv => ?_) (fun v hv => ?_)
  · unfold btv
    split
    · rename_i h; exact (hE v hv).1 i h
    · exact Int.le_refl _
  · obtain ⟨S, l1, l2, l3, l4⟩ := ext_basis hn (hE v hv)
    have hSn : S.Nodup := l2.imp (fun h => Nat.ne_of_lt h)
    obtain ⟨m, μ, hm, e⟩ := Spn_mu hSn (basis_span hn l1 l4 (fun i hi => (l3 i hi).2) (hE v hv).2.1 (r := lc (dot cs (sumB b I) v) C (-(dot cs C v)) (sumB b I)) (by rw [dot_lcl]; grind))
    have hnd : (S ++ D).Nodup := List.nodup_append.mpr ⟨hSn, hDn, fun i hi j hj q => hDI j hj (q ▸ (l3 i hi).1)⟩
    have hpm := srtN_perm (S ++ D)
    obtain ⟨p1, p2, p3, p4, h4⟩ := four_of (l := srtN (S ++ D)) (by rw [hpm.length_eq, List.length_append]; omega)
    have hlt := srtN_lt hnd
    rw [h4] at hlt hpm
    have hmem : ∀ i ∈ [p1, p2, p3, p4], i ∈ J ∧ btv cs b I i v = 0 := fun i hi => by
      rcases List.mem_append.mp (hpm.mem_iff.mp hi) with q | q
      · exact ⟨hIJ i (l3 i q).1, by unfold btv; rw [if_pos (l3 i q).1]; exact (l3 i q).2⟩
      · exact ⟨hDJ i q, by unfold btv; rw [if_neg (hDI i q)]⟩
    simp only [List.pairwise_cons, List.mem_cons, List.not_mem_nil, or_false] at hlt
    have q1 := hmem p1 (by simp)
    have q2 := hmem p2 (by simp)
    have q3 := hmem p3 (by simp)
    have q4 := hmem p4 (by simp)
    refine ⟨p1, p2, p3, p4, ⟨hlt.1 p2 (Or.inl rfl), hlt.2.1 p3 (Or.inl rfl), hlt.2.2.1 p4 rfl⟩, ⟨q1.1, q2.1, q3.1, q4.1⟩, ⟨q1.2, q2.2, q3.2, q4.2⟩, m, μ p1, μ p2, μ p3, μ p4, hm, fun w _ => ?_⟩
    rw [kap_dot, e w]
    have e1 : lsum (fun i => μ i * dot cs (b i) w) S = lsum (fun i => μ i * btv cs b I i w) S := lsum_congr (fun i hi => by unfold btv; rw [if_pos (l3 i hi).1])
    have e2 : lsum (fun i => μ i * btv cs b I i w) D = 0 := lsum_z (fun i hi => by unfold btv; rw [if_neg (hDI i hi), Int.mul_zero])
    have e3 := lsum_perm (f := fun i => μ i * btv cs b I i w) hpm
    rw [lsum_append, e2, ← e1, Int.add_zero] at e3
    rw [← e3]
    simp only [lsum]
    omega
theorem many_new (hn : cs.Nodup) {I D J : List Nat} {k : Nat} (hp : Ptd cs b I) (hkI : k ∉ I) (hJl : J.length ≤ 16) (hIJ : ∀ i ∈ I, i ∈ J) (hDJ : ∀ i ∈ D, i ∈ J) (hDI : ∀ i ∈ D, i ∉ I) (hDn : D.Nodup) (hDl : D.length + cs.length = 5) (h2 : 2 ≤ cs.length) {r : Nat → Int} (hr : dot cs (b k) r ≠ 0)
    {L : List (Nat → Int)} (hL : L.Nodup) (hE : ∀ v ∈ L, Ext cs b (k :: I) v ∧ dot cs (b k) v = 0) (hd : ∀ v ∈ L, ∀ w ∈ L, v ≠ w → ¬ par2 cs v w) : L.length ≤ 28 := by
  have hin : ∀ v ∈ L, inC cs b I v := fun v hv i hi => (hE v hv).1.1 i (List.mem_cons_of_mem _ hi)
  obtain ⟨C, hC⟩ := seps hp (fun v hv => ⟨hin v hv, (hE v hv).1.2.1⟩) hd
  refine cap3 (c := fun z => dot cs C z) (g := fun z => dot cs (sumB b I) z) (bt := btv cs b I) hJl hL (fun v hv => sumB_pos hp (hin v hv) (hE v hv).1.2.1) hC (fun i _ v hv => ?_) (fun v hv => ?_)
  · unfold btv
    split
    · rename_i h; exact hin v hv i h
    · exact Int.le_refl _
  · obtain ⟨S, l1, l2, l3, l4⟩ := ext_basis hn (hE v hv).1
    have hSn : S.Nodup := l2.imp (fun h => Nat.ne_of_lt h)
    obtain ⟨m, μ, hm, e⟩ := Spn_mu hSn (basis_span hn l1 l4 (fun i hi => (l3 i hi).2) (hE v hv).1.2.1 (r := lc (dot cs (sumB b I) v) C (-(dot cs C v)) (sumB b I)) (by rw [dot_lcl]; grind))
    -- n - 2 bounds of I do on the plane
    have key : ∃ (S' : List Nat) (m' : Int) (μ' : Nat → Int), S'.length + 2 = cs.length ∧ S'.Nodup ∧ (∀ i ∈ S', i ∈ I ∧ dot cs (b i) v = 0) ∧ 0 < m' ∧ ∀ w, dot cs (b k) w = 0 → m' * dot cs (lc (dot cs (sumB b I) v) C (-(dot cs C v)) (sumB b I)) w = lsum (fun i => μ' i * dot cs (b i) w) S' := by
      by_cases hk : k ∈ S
      · obtain ⟨A, B, rfl⟩ := List.append_of_mem hk
        have hp1 : (A ++ k :: B).Perm (k :: (A ++ B)) := List.perm_middle
        have hn1 := List.nodup_cons.mp (hp1.nodup_iff.mp hSn)
        refine ⟨A ++ B, m, μ, by simp at l1 ⊢; omega, hn1.2, fun i hi => ?_, hm, fun w hw => ?_⟩
        · have h3 := l3 i (hp1.mem_iff.mpr (List.mem_cons_of_mem _ hi))
          refine ⟨(List.mem_cons.mp h3.1).elim (fun q => absurd (q ▸ hi) hn1.1) id, h3.2⟩
        · rw [e w, lsum_perm hp1, lsum, hw, Int.mul_zero, Int.zero_add]
      · obtain ⟨m2, ν, hm2, e2⟩ := Spn_mu hSn (basis_span hn l1 l4 (fun i hi => (l3 i hi).2) (hE v hv).1.2.1 (r := b k) (hE v hv).2)
        have hex : ∃ i ∈ S, ν i ≠ 0 := Classical.byContradiction (fun q => by
          have h0 := e2 r
          rw [lsum_z (fun i hi => by rw [Classical.byContradiction (fun z => q ⟨i, hi, z⟩), Int.zero_mul])] at h0
          exact (Int.mul_eq_zero.mp h0).elim (fun z => by omega) hr)
        obtain ⟨i0, hi0, hν⟩ := hex
        obtain ⟨A, B, rfl⟩ := List.append_of_mem hi0
        have hp1 : (A ++ i0 :: B).Perm (i0 :: (A ++ B)) := List.perm_middle
        have hn1 := List.nodup_cons.mp (hp1.nodup_iff.mp hSn)
        have fin : ∀ σ : Int, 0 < σ * ν i0 → ∃ (S' : List Nat) (m' : Int) (μ' : Nat → Int), S'.length + 2 = cs.length ∧ S'.Nodup ∧ (∀ i ∈ S', i ∈ I ∧ dot cs (b i) v = 0) ∧ 0 < m' ∧ ∀ w, dot cs (b k) w = 0 → m' * dot cs (lc (dot cs (sumB b I) v) C (-(dot cs C v)) (sumB b I)) w = lsum (fun i => μ' i * dot cs (b i) w) S' := fun σ hσ => by
          refine ⟨A ++ B, m * (σ * ν i0), fun i => (σ * ν i0) * μ i + (-(σ * μ i0)) * ν i, by simp at l1 ⊢; omega, hn1.2, fun i hi => ?_, Int.mul_pos hm hσ, fun w hw => ?_⟩
          · have h3 := l3 i (hp1.mem_iff.mpr (List.mem_cons_of_mem _ hi))
            exact ⟨(List.mem_cons.mp h3.1).elim (fun q => absurd (hp1.mem_iff.mpr (List.mem_cons_of_mem _ (q ▸ hi))) hk) id, h3.2⟩
          · have a1 := e w
            have a2 := e2 w
            rw [lsum_perm hp1, lsum] at a1 a2
            rw [hw, Int.mul_zero] at a2
            have a3 : lsum (fun i => ((σ * ν i0) * μ i + (-(σ * μ i0)) * ν i) * dot cs (b i) w) (A ++ B) = (σ * ν i0) * lsum (fun i => μ i * dot cs (b i) w) (A ++ B) + (-(σ * μ i0)) * lsum (fun i => ν i * dot cs (b i) w) (A ++ B) := by
              rw [← lsum_lin]
              exact lsum_congr (fun i _ => by grind)
            rw [a3]
            grind
        by_cases h0 : 0 < ν i0
        · exact fin 1 (by omega)
        · exact fin (-1) (by omega)
    obtain ⟨S', m', μ', s1, s2, s3, hm', e'⟩ := key
    have hnd : (S' ++ D).Nodup := List.nodup_append.mpr ⟨s2, hDn, fun i hi j hj q => hDI j hj (q ▸ (s3 i hi).1)⟩
    have hpm := srtN_perm (S' ++ D)
    obtain ⟨p1, p2, p3, h4⟩ := three_of (l := srtN (S' ++ D)) (by rw [hpm.length_eq, List.length_append]; omega)
    have hlt := srtN_lt hnd
    rw [h4] at hlt hpm
    have hmem : ∀ i ∈ [p1, p2, p3], i ∈ J ∧ btv cs b I i v = 0 := fun i hi => by
      rcases List.mem_append.mp (hpm.mem_iff.mp hi) with q | q
      · exact ⟨hIJ i (s3 i q).1, by unfold btv; rw [if_pos (s3 i q).1]; exact (s3 i q).2⟩
      · exact ⟨hDJ i q, by unfold btv; rw [if_neg (hDI i q)]⟩
    simp only [List.pairwise_cons, List.mem_cons, List.not_mem_nil, or_false] at hlt
    have q1 := hmem p1 (by simp)
    have q2 := hmem p2 (by simp)
    have q3 := hmem p3 (by simp)
    refine ⟨p1, p2, p3, ⟨hlt.1 p2 (Or.inl rfl), hlt.2.1 p3 rfl⟩, ⟨q1.1, q2.1, q3.1⟩, ⟨q1.2, q2.2, q3.2⟩, m', μ' p1, μ' p2, μ' p3, hm', fun w hw => ?_⟩
    rw [kap_dot, e' w (hE w hw).2]
    have e1 : lsum (fun i => μ' i * dot cs (b i) w) S' = lsum (fun i => μ' i * btv cs b I i w) S' := lsum_congr (fun i hi => by unfold btv; rw [if_pos (s3 i hi).1])
    have e2 : lsum (fun i => μ' i * btv cs b I i w) D = 0 := lsum_z (fun i hi => by unfold btv; rw [if_neg (hDI i hi), Int.mul_zero])
    have e3 := lsum_perm (f := fun i => μ' i * btv cs b I i w) hpm
    rw [lsum_append, e2, ← e1, Int.add_zero] at e3
    rw [← e3]
    simp only [lsum]
    omega
end MANY
