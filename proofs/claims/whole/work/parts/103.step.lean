/-! ONE BOUND MORE: edges that are kept, and edges between neighbours -/
section STEP
variable {cs : List Nat} {b : Nat → Nat → Int}
/-- what is tight at both is tight at the third -/
def sh3 (cs : List Nat) (b : Nat → Nat → Int) (I : List Nat) (r s y : Nat → Int) : Prop := ∀ i ∈ I, dot cs (b i) r = 0 → dot cs (b i) s = 0 → dot cs (b i) y = 0
def Adj (cs : List Nat) (b : Nat → Nat → Int) (I : List Nat) (r s : Nat → Int) : Prop := ∀ e, Ext cs b I e → sh3 cs b I r s e → par2 cs r e ∨ par2 cs s e
def span2 (cs : List Nat) (r s y : Nat → Int) : Prop := ∃ m a c : Int, m ≠ 0 ∧ ∀ k ∈ cs, m * y k = a * r k + c * s k
theorem par2_dots {x y : Nat → Int} (h : par2 cs x y) (u v : Nat → Int) : dot cs u x * dot cs v y = dot cs u y * dot cs v x := by
  by_cases hx : nz cs x
  · obtain ⟨p, hp, h0⟩ := hx
    have e : ∀ r : Nat → Int, x p * dot cs r y = y p * dot cs r x := fun r => by
      have e3 : dot cs r (lc (x p) y 0 y) = dot cs r (lc (y p) x 0 x) := dot_congr (fun _ _ => rfl) (fun d hd => by
        have := h p hp d hd
        show x p * y d + 0 * y d = y p * x d + 0 * x d
        grind)
      rw [dot_lc, dot_lc] at e3
      omega
    have e1 := e u
    have e2 := e v
    have : x p * (dot cs u x * dot cs v y) = x p * (dot cs u y * dot cs v x) := by grind
    exact Int.eq_of_mul_eq_mul_left h0 this
  · rw [dot_zr (r := u) (not_nz hx), dot_zr (r := v) (not_nz hx)]
    omega
theorem Ext_some {I : List Nat} (hp : Ptd cs b I) {x : Nat → Int} (hx : inC cs b I x) (hz : nz cs x) : ∃ i ∈ I, 0 < dot cs (b i) x := by
  refine Classical.byContradiction (fun q => ?_)
  obtain ⟨c, hc, h0⟩ := hz
  refine h0 (hp x (fun i hi => ?_) c hc)
  have h1 := hx i hi
  have h2 : ¬ 0 < dot cs (b i) x := fun z => q ⟨i, hi, z⟩
  omega
/-- two edges on one line lie on the same side of every plane -/
theorem par2_side {I : List Nat} (hp : Ptd cs b I) {r s : Nat → Int} (hr : inC cs b I r) (hzr : nz cs r) (hs : inC cs b I s) (h : par2 cs r s) (u : Nat → Int) (hu : 0 < dot cs u r) : 0 ≤ dot cs u s := by
  obtain ⟨i, hi, hpos⟩ := Ext_some hp hr hzr
  have e := par2_dots h (b i) u
  have h1 := hs i hi
  have h2 : 0 ≤ dot cs (b i) s * dot cs u r := Int.mul_nonneg h1 (by omega)
  refine Classical.byContradiction (fun q => ?_)
  have := Int.mul_neg_of_pos_of_neg hpos (show dot cs u s < 0 by omega)
  omega
theorem bigN (f : Nat → Int) : ∀ I : List Nat, ∃ N : Int, 0 < N ∧ ∀ i ∈ I, -N ≤ f i ∧ f i ≤ N
  | [] => ⟨1, by decide, fun _ h => (by cases h)⟩
  | k :: I => by
    obtain ⟨N, h0, h⟩ := bigN f I
    refine ⟨N + (f k).natAbs, by omega, fun i hi => ?_⟩
    rcases List.mem_cons.mp hi with e | e
    · rw [e]; omega
    · have := h i e; omega
theorem adj_span {I : List Nat} (hp : Ptd cs b I) {r s : Nat → Int} (hr : Ext cs b I r) (hs : Ext cs b I s) (ha : Adj cs b I r s) {y : Nat → Int} (hy : sh3 cs b I r s y) : span2 cs r s y := by
  obtain ⟨N, hN0, hN⟩ := bigN (fun i => dot cs (b i) y) I
  obtain ⟨z, hz⟩ : ∃ z, z = lc 1 (lc N r N s) 1 y := ⟨_, rfl⟩
  have hzd : ∀ i, dot cs (b i) z = N * dot cs (b i) r + N * dot cs (b i) s + dot cs (b i) y := fun i => by
    rw [hz, dot_lc, dot_lc]
    omega
  have fin : span2 cs r s z → span2 cs r s y := fun ⟨m, a, c, hm, h⟩ => ⟨m, a - m * N, c - m * N, hm, fun k hk => by
    have e := h k hk
    rw [hz] at e
    have e : m * (1 * (N * r k + N * s k) + 1 * y k) = a * r k + c * s k := e
    grind⟩
  by_cases hnz : nz cs z
  · refine fin (mink hp (span2 cs r s) ?_ ?_ _ z (Nat.le_refl _) (fun i hi => ?_) hnz (fun e he ht => ?_))
    · rintro u v a c _ _ ⟨m1, a1, c1, hm1, h1⟩ ⟨m2, a2, c2, hm2, h2⟩
      refine ⟨m1 * m2, m2 * a * a1 + m1 * c * a2, m2 * a * c1 + m1 * c * c2, fun q => (Int.mul_eq_zero.mp q).elim hm1 hm2, fun k hk => ?_⟩
      have e1 := h1 k hk
      have e2 := h2 k hk
      show m1 * m2 * (a * u k + c * v k) = _
      grind
    · rintro u v a ha0 he ⟨m, a1, c1, hm, h1⟩
      refine ⟨m * a, a1, c1, fun q => (Int.mul_eq_zero.mp q).elim hm (fun q => by omega), fun k hk => ?_⟩
      have e1 := h1 k hk
      rw [he k hk] at e1
      grind
    · rw [hzd]
      have h1 := hr.1 i hi
      have h2 := hs.1 i hi
      have h3 := hN i hi
      by_cases e1 : dot cs (b i) r = 0
      · by_cases e2 : dot cs (b i) s = 0
        · rw [e1, e2, hy i hi e1 e2]; omega
        · have : N * 1 ≤ N * dot cs (b i) s := Int.mul_le_mul_of_nonneg_left (by omega) (by omega)
          rw [e1]; omega
      · have : N * 1 ≤ N * dot cs (b i) r := Int.mul_le_mul_of_nonneg_left (by omega) (by omega)
        have : 0 ≤ N * dot cs (b i) s := Int.mul_nonneg (by omega) h2
        omega
    · have hsh : sh3 cs b I r s e := fun i hi h1 h2 => ht i hi (by rw [hzd, h1, h2, hy i hi h1 h2]; omega)
      rcases ha e he hsh with q | q
      · obtain ⟨p, hp1, hp0⟩ := hr.2.1
        exact ⟨r p, e p, 0, hp0, fun k hk => by have := q p hp1 k hk; grind⟩
      · obtain ⟨p, hp1, hp0⟩ := hs.2.1
        exact ⟨s p, 0, e p, hp0, fun k hk => by have := q p hp1 k hk; grind⟩
  · refine fin ⟨1, 0, 0, by decide, fun k hk => ?_⟩
    have := not_nz hnz k hk
    omega
/-- an edge in the plane of two edges is one of them -/
theorem span_ext {I : List Nat} {r s e : Nat → Int} (hr : Ext cs b I r) (hs : Ext cs b I s) (hn : ¬ par2 cs r s) (he : Ext cs b I e) (h : span2 cs r s e) : par2 cs r e ∨ par2 cs s e := by
  have key : ∀ m a c : Int, 0 < m → (∀ k ∈ cs, m * e k = a * r k + c * s k) → par2 cs r e ∨ par2 cs s e := by
    intro m a c hm h
    have hd : ∀ u : Nat → Int, m * dot cs u e = a * dot cs u r + c * dot cs u s := fun u => by
      have h1 : dot cs u (lc m e 0 e) = dot cs u (lc a r c s) := dot_congr (fun _ _ => rfl) (fun k hk => by
        show m * e k + 0 * e k = a * r k + c * s k
        have := h k hk
        omega)
      rw [dot_lc, dot_lc] at h1
      omega
    by_cases ha : a < 0
    · refine absurd (par2_symm (hs.2.2 r (fun i hi h0 => ?_))) hn
      have e1 := hd (b i)
      rw [h0] at e1
      have h1 := hr.1 i hi
      have h2 := he.1 i hi
      have h3 : 0 ≤ m * dot cs (b i) e := Int.mul_nonneg (by omega) h2
      have h4 : a * dot cs (b i) r ≤ 0 := by
        have := Int.mul_nonneg (show 0 ≤ -a by omega) h1
        have e : -a * dot cs (b i) r = -(a * dot cs (b i) r) := by grind
        omega
      have h5 : a * dot cs (b i) r = 0 := by omega
      exact (Int.mul_eq_zero.mp h5).elim (fun q => by omega) id
    · by_cases hc : c < 0
      · refine absurd (hr.2.2 s (fun i hi h0 => ?_)) hn
        have e1 := hd (b i)
        rw [h0] at e1
        have h1 := hs.1 i hi
        have h2 := he.1 i hi
        have h3 : 0 ≤ m * dot cs (b i) e := Int.mul_nonneg (by omega) h2
        have h4 : c * dot cs (b i) s ≤ 0 := by
          have := Int.mul_nonneg (show 0 ≤ -c by omega) h1
          have e : -c * dot cs (b i) s = -(c * dot cs (b i) s) := by grind
          omega
        have h5 : c * dot cs (b i) s = 0 := by omega
        exact (Int.mul_eq_zero.mp h5).elim (fun q => by omega) id
      · by_cases ha0 : a = 0
        · obtain ⟨p, hp1, hp0⟩ := hs.2.1
          refine Or.inr (fun i hi j hj => ?_)
          have e1 := h i hi
          have e2 := h j hj
          rw [ha0] at e1 e2
          have : m * (s i * e j) = m * (s j * e i) := by grind
          exact Int.eq_of_mul_eq_mul_left (by omega) this
        · refine Or.inl (par2_symm (he.2.2 r (fun i hi h0 => ?_)))
          have e1 := hd (b i)
          rw [h0] at e1
          have h1 := hr.1 i hi
          have h2 := hs.1 i hi
          have h3 : 0 ≤ a * dot cs (b i) r := Int.mul_nonneg (by omega) h1
          have h4 : 0 ≤ c * dot cs (b i) s := Int.mul_nonneg (by omega) h2
          have h5 : a * dot cs (b i) r = 0 := by omega
          exact (Int.mul_eq_zero.mp h5).elim (fun q => absurd q ha0) id
  obtain ⟨m, a, c, hm, h⟩ := h
  by_cases h0 : 0 < m
  · exact key m a c h0 h
  · exact key (-m) (-a) (-c) (by omega) (fun k hk => by have := h k hk; grind)
/-- the point between two edges on a plane -/
abbrev mid (cs : List Nat) (h r s : Nat → Int) : Nat → Int := lc (dot cs h r) s (-(dot cs h s)) r
theorem mid_dot (h r s u : Nat → Int) : dot cs u (mid cs h r s) = dot cs h r * dot cs u s + -(dot cs h s) * dot cs u r := dot_lc cs u s r _ _
theorem not_par {I : List Nat} (hp : Ptd cs b I) {r s h : Nat → Int} (hr : Ext cs b I r) (hs : Ext cs b I s) (h1 : 0 < dot cs h r) (h2 : dot cs h s < 0) : ¬ par2 cs r s := fun q => by
  have := par2_side hp hr.1 hr.2.1 hs.1 q h h1
  omega
theorem mid_nz {r s h : Nat → Int} (hn : ¬ par2 cs r s) (h1 : 0 < dot cs h r) : nz cs (mid cs h r s) := by
  refine Classical.byContradiction (fun q => hn (fun i hi j hj => ?_))
  have e1 : dot cs h r * s i + -(dot cs h s) * r i = 0 := not_nz q i hi
  have e2 : dot cs h r * s j + -(dot cs h s) * r j = 0 := not_nz q j hj
  have : dot cs h r * (r i * s j) = dot cs h r * (r j * s i) := by grind
  exact Int.eq_of_mul_eq_mul_left (by omega) this
theorem mid_ext {I : List Nat} {k : Nat} (hp : Ptd cs b I) {r s : Nat → Int} (hr : Ext cs b I r) (hs : Ext cs b I s) (h1 : 0 < dot cs (b k) r) (h2 : dot cs (b k) s < 0) (ha : Adj cs b I r s) : Ext cs b (k :: I) (mid cs (b k) r s) := by
  have hn := not_par hp hr hs h1 h2
  refine ⟨fun i hi => ?_, mid_nz hn h1, fun y hy => ?_⟩
  · rw [mid_dot]
    rcases List.mem_cons.mp hi with e | e
    · rw [e]
      have : dot cs (b k) r * dot cs (b k) s + -(dot cs (b k) s) * dot cs (b k) r = 0 := by grind
      omega
    · have a1 := Int.mul_nonneg (show 0 ≤ dot cs (b k) r by omega) (hs.1 i e)
      have a2 := Int.mul_nonneg (show 0 ≤ -(dot cs (b k) s) by omega) (hr.1 i e)
      omega
  · obtain ⟨m, a, c, hm, h⟩ := adj_span hp hr hs ha (y := y) (fun i hi e1 e2 => hy i (List.mem_cons_of_mem _ hi) (by rw [mid_dot, e1, e2]; omega))
    have hk : dot cs (b k) y = 0 := hy k List.mem_cons_self (by rw [mid_dot]; grind)
    have hk2 : a * dot cs (b k) r + c * dot cs (b k) s = 0 := by
      have e3 : dot cs (b k) (lc m y 0 y) = dot cs (b k) (lc a r c s) := dot_congr (fun _ _ => rfl) (fun d hd => by
        show m * y d + 0 * y d = a * r d + c * s d
        have := h d hd
        omega)
      rw [dot_lc, dot_lc, hk] at e3
      omega
    intro i hi j hj
    have e1 := h i hi
    have e2 := h j hj
    have : m * ((dot cs (b k) r * s i + -(dot cs (b k) s) * r i) * y j) = m * ((dot cs (b k) r * s j + -(dot cs (b k) s) * r j) * y i) := by grind
    exact Int.eq_of_mul_eq_mul_left hm this
theorem keep_ext {I : List Nat} {k : Nat} {r : Nat → Int} (hr : Ext cs b I r) (h : 0 ≤ dot cs (b k) r) : Ext cs b (k :: I) r :=
  ⟨fun i hi => (List.mem_cons.mp hi).elim (fun e => e ▸ h) (hr.1 i), hr.2.1, fun y hy => hr.2.2 y (fun i hi h0 => hy i (List.mem_cons_of_mem _ hi) h0)⟩
/-- every edge of the cone with one bound more is one of these -/
theorem ext_cases {I : List Nat} {k : Nat} (hp : Ptd cs b I) {x : Nat → Int} (hx : Ext cs b (k :: I) x) : Ext cs b I x ∨ (dot cs (b k) x = 0 ∧ ∃ r s, Ext cs b I r ∧ Ext cs b I s ∧ 0 < dot cs (b k) r ∧ dot cs (b k) s < 0 ∧ Adj cs b I r s ∧ par2 cs (mid cs (b k) r s) x) := by
  by_cases hI : Ext cs b I x
  · exact Or.inl hI
  · have hxI : inC cs b I x := fun i hi => hx.1 i (List.mem_cons_of_mem _ hi)
    have hk0 : dot cs (b k) x = 0 := by
      refine Classical.byContradiction (fun q => hI ⟨hxI, hx.2.1, fun y hy => hx.2.2 y (fun i hi h0 => ?_)⟩)
      rcases List.mem_cons.mp hi with e | e
      · rw [e] at h0; exact absurd h0 q
      · exact hy i e h0
    refine Or.inr ⟨hk0, ?_⟩
    -- an edge on either side
    have side : ∀ σ : Int, (σ = 1 ∨ σ = -1) → ∃ r, Ext cs b I r ∧ tgt cs b I x r ∧ 0 < σ * dot cs (b k) r := by
      intro σ hσ
      have hσ0 : σ ≠ 0 := by rcases hσ with e | e <;> rw [e] <;> decide
      refine Classical.byContradiction (fun q => hI ?_)
      have hno : ∀ r, Ext cs b I r → tgt cs b I x r → σ * dot cs (b k) r ≤ 0 := fun r h1 h2 => Int.not_lt.mp (fun z => q ⟨r, h1, h2, z⟩)
      have hΦ := mink hp (fun z => σ * dot cs (b k) z ≤ 0 ∧ (dot cs (b k) z = 0 → par2 cs x z ∧ ∃ e, Ext cs b I e ∧ tgt cs b I x e ∧ dot cs (b k) e = 0)) (by
        rintro u v a c ha hc ⟨u1, u2⟩ ⟨v1, v2⟩
        have e1 := Int.mul_nonneg (show 0 ≤ a by omega) (show 0 ≤ -(σ * dot cs (b k) u) by omega)
        have e2 := Int.mul_nonneg (show 0 ≤ c by omega) (show 0 ≤ -(σ * dot cs (b k) v) by omega)
        have e3 : σ * dot cs (b k) (lc a u c v) = a * (σ * dot cs (b k) u) + c * (σ * dot cs (b k) v) := by rw [dot_lc]; grind
        have e4 : a * -(σ * dot cs (b k) u) = -(a * (σ * dot cs (b k) u)) := by grind
        have e5 : c * -(σ * dot cs (b k) v) = -(c * (σ * dot cs (b k) v)) := by grind
        refine ⟨by omega, fun h0 => ?_⟩
        rw [h0, Int.mul_zero] at e3
        have z1 : a * (σ * dot cs (b k) u) = 0 := by omega
        have z2 : c * (σ * dot cs (b k) v) = 0 := by omega
        have y1 : dot cs (b k) u = 0 := (Int.mul_eq_zero.mp z1).elim (fun q => absurd q (Int.ne_of_gt ha)) (fun q => (Int.mul_eq_zero.mp q).elim (fun q => absurd q hσ0) id)
        have y2 : dot cs (b k) v = 0 := (Int.mul_eq_zero.mp z2).elim (fun q => absurd q (Int.ne_of_gt hc)) (fun q => (Int.mul_eq_zero.mp q).elim (fun q => absurd q hσ0) id)
        exact ⟨par2_lc (u2 y1).1 (v2 y2).1 a c, (u2 y1).2⟩) (by
        rintro u v a ha he ⟨v1, v2⟩
        have hd : dot cs (b k) v = a * dot cs (b k) u := by
          have h1 : dot cs (b k) v = dot cs (b k) (lc a u 0 u) := dot_congr (fun _ _ => rfl) (fun d hd => by
            show v d = a * u d + 0 * u d
            have := he d hd
            omega)
          rw [h1, dot_lc]
          omega
        refine ⟨?_, fun h0 => ?_⟩
        · rw [hd] at v1
          have e1 : σ * (a * dot cs (b k) u) = a * (σ * dot cs (b k) u) := by grind
          refine Classical.byContradiction (fun z => ?_)
          have := Int.mul_pos ha (show 0 < σ * dot cs (b k) u by omega)
          omega
        · obtain ⟨w1, w2⟩ := v2 (by rw [hd, h0, Int.mul_zero])
          refine ⟨fun i hi j hj => ?_, w2⟩
          have e1 := w1 i hi j hj
          rw [he i hi, he j hj] at e1
          have : a * (x i * u j) = a * (x j * u i) := by grind
          exact Int.eq_of_mul_eq_mul_left (by omega) this) _ x (Nat.le_refl _) hxI hx.2.1 (fun e he ht => ⟨hno e he ht, fun h0 => ⟨hx.2.2 e (fun i hi hz => (List.mem_cons.mp hi).elim (fun q => q ▸ h0) (fun q => ht i q hz)), e, he, ht, h0⟩⟩)
      obtain ⟨-, e, he, ht, h0⟩ := hΦ.2 hk0
      have hpe : par2 cs x e := hx.2.2 e (fun i hi hz => (List.mem_cons.mp hi).elim (fun q => q ▸ h0) (fun q => ht i q hz))
      -- x is on the line of an edge
      refine ⟨hxI, hx.2.1, fun y hy => ?_⟩
      exact par2_trans he.2.1 hpe (he.2.2 y (fun i hi hz => hy i hi (par2_dot he.2.1 (par2_symm hpe) hz)))
    obtain ⟨r, hr, htr, hr1⟩ := side 1 (Or.inl rfl)
    obtain ⟨s, hs, hts, hs1⟩ := side (-1) (Or.inr rfl)
    have h1 : 0 < dot cs (b k) r := by omega
    have h2 : dot cs (b k) s < 0 := by omega
    have hn := not_par hp hr hs h1 h2
    have hpx : par2 cs x (mid cs (b k) r s) := hx.2.2 _ (fun i hi h0 => by
      rw [mid_dot]
      rcases List.mem_cons.mp hi with e | e
      · rw [e]; grind
      · rw [htr i e h0, hts i e h0]; omega)
    refine ⟨r, s, hr, hs, h1, h2, fun e he hsh => span_ext hr hs hn he ?_, par2_symm hpx⟩
    -- what is tight with both is in their plane
    obtain ⟨q, hq, hq0⟩ := mid_nz hn h1
    have hpy : par2 cs x (lc (dot cs (b k) r) e (-(dot cs (b k) e)) r) := hx.2.2 _ (fun i hi h0 => by
      rw [dot_lc]
      rcases List.mem_cons.mp hi with z | z
      · rw [z]; grind
      · rw [htr i z h0, hsh i z (htr i z h0) (hts i z h0)]; omega)
    have hpm := par2_trans hx.2.1 (par2_symm hpx) hpy
    refine ⟨(dot cs (b k) r * s q + -(dot cs (b k) s) * r q) * dot cs (b k) r, (dot cs (b k) r * s q + -(dot cs (b k) s) * r q) * dot cs (b k) e - (dot cs (b k) r * e q + -(dot cs (b k) e) * r q) * dot cs (b k) s, (dot cs (b k) r * e q + -(dot cs (b k) e) * r q) * dot cs (b k) r, fun z => (Int.mul_eq_zero.mp z).elim hq0 (fun z => by omega), fun j hj => ?_⟩
    have e1 : (dot cs (b k) r * s q + -(dot cs (b k) s) * r q) * (dot cs (b k) r * e j + -(dot cs (b k) e) * r j) = (dot cs (b k) r * s j + -(dot cs (b k) s) * r j) * (dot cs (b k) r * e q + -(dot cs (b k) e) * r q) := hpm q hq j hj
    grind
/-- neighbours have all dimensions' bounds in common but two -/
theorem len_sub {β : Type} : ∀ {l m : List β}, l.Nodup → (∀ x ∈ l, x ∈ m) → l.length ≤ m.length
  | [], _, _, _ => Nat.zero_le _
  | x :: l, m, hn, h => by
    obtain ⟨p, q, rfl⟩ := List.append_of_mem (h x List.mem_cons_self)
    have hn' := List.nodup_cons.mp hn
    have := len_sub (l := l) (m := p ++ q) hn'.2 (fun y hy => by
      have := h y (List.mem_cons_of_mem _ hy)
      rcases List.mem_append.mp this with z | z
      · exact List.mem_append_left _ z
      · rcases List.mem_cons.mp z with z | z
        · exact absurd (z ▸ hy) hn'.1
        · exact List.mem_append_right _ z)
    simp at this ⊢
    omega
theorem adj_many {I : List Nat} (hn : cs.Nodup) (hp : Ptd cs b I) {r s : Nat → Int} (hr : Ext cs b I r) (hs : Ext cs b I s) (ha : Adj cs b I r s) : cs.length ≤ (I.filter (fun i => decide (dot cs (b i) r = 0 ∧ dot cs (b i) s = 0))).length + 2 := by
  obtain ⟨S, hS⟩ : ∃ S, S = I.filter (fun i => decide (dot cs (b i) r = 0 ∧ dot cs (b i) s = 0)) := ⟨_, rfl⟩
  obtain ⟨ts, l1, l2, l3⟩ := det_basis hn (T := r :: s :: S.map b) (fun y hy => by
    obtain ⟨m, a, c, hm, h⟩ := adj_span hp hr hs ha (y := y) (fun i hi e1 e2 => hy (b i) (List.mem_cons_of_mem _ (List.mem_cons_of_mem _ (List.mem_map_of_mem (by rw [hS]; exact List.mem_filter.mpr ⟨hi, decide_eq_true ⟨e1, e2⟩⟩)))))
    have hyr : dot cs y r = 0 := by rw [dot_comm]; exact hy r List.mem_cons_self
    have hys : dot cs y s = 0 := by rw [dot_comm]; exact hy s (List.mem_cons_of_mem _ List.mem_cons_self)
    have e3 : dot cs y (lc m y 0 y) = dot cs y (lc a r c s) := dot_congr (fun _ _ => rfl) (fun d hd => by
      show m * y d + 0 * y d = a * r d + c * s d
      have := h d hd
      omega)
    rw [dot_lc, dot_lc, hyr, hys] at e3
    have e4 : dot cs y y = 0 := (Int.mul_eq_zero.mp (show m * dot cs y y = 0 by omega)).elim (fun q => absurd q hm) id
    exact not_nz (fun q => by have := dot_self q; omega))
  rw [← hS, ← l1]
  have := len_sub (det_nodup l3) l2
  simp at this
  omega
end STEP
