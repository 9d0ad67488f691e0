/-! ONE CUT: the rows of the class are the edges of the cone -/
section DD
def vc (ray : Nat → Int64) (i : Nat) : Nat → Int := fun k => (ray (i * 5 + k)).toInt
/-- the class's rows and masks are all edges of the cone of these bounds, each once, without a common divisor -/
def DDI (t n : Nat) (b : Nat → Nat → Int) (I : List Nat) (st : CS) : Prop :=
  (∀ i, i < st.1 → Ext (List.range n) b I (vc st.2.1 i) ∧ gl (vc st.2.1 i) (List.range n) = 1) ∧
  (∀ i, i < st.1 → ∀ j, j < 32 → (bt (st.2.2 i) j = true ↔ (j ∈ I ∧ dot (List.range n) (b j) (vc st.2.1 i) = 0))) ∧
  (∀ i, i < st.1 → ∀ j, j < st.1 → i ≠ j → ¬ par2 (List.range n) (vc st.2.1 i) (vc st.2.1 j)) ∧
  (∀ x, Ext (List.range n) b I x → ∃ i, i < st.1 ∧ par2 (List.range n) (vc st.2.1 i) x) ∧
  (n = t → ∀ i, i < st.1 → st.2.1 (i * 5 + t) = 0)
theorem nbL_iff {tg : Nat → Int32} {s : Int32} {a c : Nat} : ∀ (n i : Nat), nbL tg s a c i n = true ↔ ∀ j, i ≤ j → j < i + n → ¬ (¬ j = a ∧ ¬ j = c ∧ tg j &&& s = s)
  | 0, i => ⟨fun _ j h1 h2 => by omega, fun _ => rfl⟩
  | n + 1, i => by
    rw [nbL]
    by_cases h : ¬ i = a ∧ ¬ i = c ∧ tg i &&& s = s
    · rw [if_pos h]
      exact ⟨fun q => (by cases q), fun q => absurd h (q i (Nat.le_refl _) (by omega))⟩
    · rw [if_neg h, nbL_iff n (i + 1)]
      constructor
      · intro q j h1 h2
        by_cases e : j = i
        · rw [e]; exact h
        · exact q j (by omega) (by omega)
      · intro q j h1 h2
        exact q j (by omega) (by omega)
variable {cs : List Nat} {b : Nat → Nat → Int}
theorem sh3_par {I : List Nat} {r s y z : Nat → Int} (hy : nz cs y) (h : par2 cs y z) (hs : sh3 cs b I r s y) : sh3 cs b I r s z := fun i hi h1 h2 => par2_dot hy h (hs i hi h1 h2)
theorem mid_par {h a c r s : Nat → Int} (hn : cs.Nodup) (h1 : par2 cs a r) (h2 : par2 cs c s) (ha : dot cs h a ≠ 0) (hc : dot cs h c ≠ 0) : par2 cs (mid cs h a c) (mid cs h r s) := by
  intro p hp q hq
  have e1 : ∀ k ∈ cs, dot cs h a * r k = dot cs h r * a k := fun k hk => by
    have := par2_dots h1 h (dl k)
    rw [dot_dl hn hk, dot_dl hn hk] at this
    exact this
  have e2 : ∀ k ∈ cs, dot cs h c * s k = dot cs h s * c k := fun k hk => by
    have := par2_dots h2 h (dl k)
    rw [dot_dl hn hk, dot_dl hn hk] at this
    exact this
  have f : ∀ k ∈ cs, (dot cs h a * dot cs h c) * (dot cs h r * s k + -(dot cs h s) * r k) = (dot cs h r * dot cs h s) * (dot cs h a * c k + -(dot cs h c) * a k) := fun k hk => by
    have a1 := e1 k hk
    have a2 := e2 k hk
    grind
  have fp := f p hp
  have fq := f q hq
  have hne : dot cs h a * dot cs h c ≠ 0 := fun z => (Int.mul_eq_zero.mp z).elim ha hc
  have : (dot cs h a * dot cs h c) * ((dot cs h a * c p + -(dot cs h c) * a p) * (dot cs h r * s q + -(dot cs h s) * r q)) = (dot cs h a * dot cs h c) * ((dot cs h a * c q + -(dot cs h c) * a q) * (dot cs h r * s p + -(dot cs h s) * r p)) := by grind
  exact Int.eq_of_mul_eq_mul_left hne this
theorem ext_scale {I : List Nat} {x y : Nat → Int} {g : Int} (hg : 0 < g) (h : ∀ k ∈ cs, x k = g * y k) (hx : Ext cs b I x) : Ext cs b I y := by
  have hd : ∀ u : Nat → Int, dot cs u x = g * dot cs u y := fun u => by
    have e : dot cs u x = dot cs u (lc g y 0 y) := dot_congr (fun _ _ => rfl) (fun k hk => by
      show x k = g * y k + 0 * y k
      have := h k hk
      omega)
    rw [e, dot_lc]
    omega
  refine ⟨fun i hi => ?_, ?_, fun z hz => ?_⟩
  · have := hx.1 i hi
    rw [hd] at this
    refine Classical.byContradiction (fun q => ?_)
    have := Int.mul_neg_of_pos_of_neg hg (show dot cs (b i) y < 0 by omega)
    omega
  · obtain ⟨c, hc, h0⟩ := hx.2.1
    exact ⟨c, hc, fun q => h0 (by rw [h c hc, q, Int.mul_zero])⟩
  · have := hx.2.2 z (fun i hi h0 => hz i hi (by rw [hd] at h0; exact (Int.mul_eq_zero.mp h0).elim (fun q => by omega) id))
    intro i hi j hj
    have e := this i hi j hj
    rw [h i hi, h j hj] at e
    have : g * (y i * z j) = g * (y j * z i) := by grind
    exact Int.eq_of_mul_eq_mul_left (by omega) this
theorem par2_scale {x y : Nat → Int} {g : Int} (hg : g ≠ 0) (h : ∀ k ∈ cs, x k = g * y k) : par2 cs x y := fun i hi j hj => by
  rw [h i hi, h j hj]
  grind
/-- what is tight between two edges is tight at both -/
theorem mid_tight {I : List Nat} {h r s : Nat → Int} (hr : inC cs b I r) (hs : inC cs b I s) (h1 : 0 < dot cs h r) (h2 : dot cs h s < 0) {i : Nat} (hi : i ∈ I) (h0 : dot cs (b i) (mid cs h r s) = 0) : dot cs (b i) r = 0 ∧ dot cs (b i) s = 0 := by
  rw [mid_dot] at h0
  have a1 := Int.mul_nonneg (show 0 ≤ dot cs h r by omega) (hs i hi)
  have a2 := Int.mul_nonneg (show 0 ≤ -(dot cs h s) by omega) (hr i hi)
  have z1 : dot cs h r * dot cs (b i) s = 0 := by omega
  have z2 : -(dot cs h s) * dot cs (b i) r = 0 := by omega
  exact ⟨(Int.mul_eq_zero.mp z2).elim (fun q => by omega) id, (Int.mul_eq_zero.mp z1).elim (fun q => by omega) id⟩
/-- the class finds neighbours -/
theorem nb_adj {t n kf : Nat} {I : List Nat} {st : CS} (hI : ∀ i ∈ I, i < 17) (hIn : I.Nodup) (hp : Ptd (List.range n) b I) (hD : DDI t n b I st) (hkf : kf + 2 = n) (hn5 : n ≤ 5) {v i : Nat} (hv : v < st.1) (hi : i < st.1) (hne : v ≠ i) : nbB st.2.2 kf v i st.1 = true ↔ Adj (List.range n) b I (vc st.2.1 v) (vc st.2.1 i) := by
  obtain ⟨d1, d2, d3, d4, d5⟩ := hD
  have hsh : ∀ j, j < 32 → (bt (st.2.2 v &&& st.2.2 i) j = true ↔ (j ∈ I ∧ dot (List.range n) (b j) (vc st.2.1 v) = 0 ∧ dot (List.range n) (b j) (vc st.2.1 i) = 0)) := fun j hj => by
    rw [b_and, Bool.and_eq_true, d2 v hv j hj, d2 i hi j hj]
    constructor
    · rintro ⟨⟨a, b⟩, c, d⟩; exact ⟨a, b, d⟩
    · rintro ⟨a, b, c⟩; exact ⟨⟨a, b⟩, a, c⟩
  have hsup : ∀ j, j < st.1 → (st.2.2 j &&& (st.2.2 v &&& st.2.2 i) = st.2.2 v &&& st.2.2 i ↔ sh3 (List.range n) b I (vc st.2.1 v) (vc st.2.1 i) (vc st.2.1 j)) := fun j hj => by
    rw [b_sup]
    constructor
    · intro h k hk h1 h2
      have hk32 : k < 32 := by have := hI k hk; omega
      exact ((d2 j hj k hk32).mp (h k hk32 ((hsh k hk32).mpr ⟨hk, h1, h2⟩))).2
    · intro h k hk32 hb
      have := (hsh k hk32).mp hb
      exact (d2 j hj k hk32).mpr ⟨this.1, h k this.1 this.2.1 this.2.2⟩
  unfold nbB
  constructor
  · intro h
    split at h
    · rename_i hc
      intro e he hse
      obtain ⟨j, hj, hpj⟩ := d4 e he
      have hsj : sh3 (List.range n) b I (vc st.2.1 v) (vc st.2.1 i) (vc st.2.1 j) := sh3_par he.2.1 (par2_symm hpj) hse
      have hno := (nbL_iff st.1 0).mp h j (Nat.zero_le _) (by omega)
      by_cases e1 : j = v
      · rw [e1] at hpj; exact Or.inl hpj
      · by_cases e2 : j = i
        · rw [e2] at hpj; exact Or.inr hpj
        · exact absurd ⟨e1, e2, (hsup j hj).mpr hsj⟩ hno
    · cases h
  · intro ha
    have hmany := adj_many (List.nodup_range) hp (d1 v hv).1 (d1 i hi).1 ha
    rw [List.length_range] at hmany
    have hcnt : kf ≤ ((List.range 17).filter (fun j => bt (st.2.2 v &&& st.2.2 i) j)).length := by
      have hle := len_sub (l := I.filter (fun j => decide (dot (List.range n) (b j) (vc st.2.1 v) = 0 ∧ dot (List.range n) (b j) (vc st.2.1 i) = 0))) (m := (List.range 17).filter (fun j => bt (st.2.2 v &&& st.2.2 i) j)) (hIn.filter _) (fun j hj => by
        have hj' := List.mem_filter.mp hj
        have h17 := hI j hj'.1
        have := of_decide_eq_true hj'.2
        exact List.mem_filter.mpr ⟨List.mem_range.mpr h17, (hsh j (by omega)).mpr ⟨hj'.1, this.1, this.2⟩⟩)
      omega
    rw [if_pos (bcnt_ge (fun j h1 h2 => by
      cases hb : bt (st.2.2 v &&& st.2.2 i) j with
      | false => rfl
      | true => have := hI j ((hsh j h2).mp hb).1; omega) (by omega) hcnt)]
    refine (nbL_iff st.1 0).mpr (fun j _ hj q => ?_)
    have hj' : j < st.1 := by omega
    rcases ha _ (d1 j hj').1 ((hsup j hj').mp q.2.2) with z | z
    · exact d3 v hv j hj' (fun e => q.1 e.symm) z
    · exact d3 i hi j hj' (fun e => q.2.1 e.symm) z
end DD
