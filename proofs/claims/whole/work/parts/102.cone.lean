/-! CONES: bounds by their indices, edges, sums of edges, one bound more -/
section CONE
theorem par2_symm {cs : List Nat} {x y : Nat → Int} (h : par2 cs x y) : par2 cs y x := fun i hi j hj => by
  have := h j hj i hi
  grind
theorem par2_refl (cs : List Nat) (x : Nat → Int) : par2 cs x x := fun i _ j _ => Int.mul_comm _ _
theorem par2_trans {cs : List Nat} {x y z : Nat → Int} (hy : nz cs y) (h1 : par2 cs x y) (h2 : par2 cs y z) : par2 cs x z := fun i hi j hj => by
  obtain ⟨p, hp, h0⟩ := hy
  have a := h1 i hi p hp
  have b := h1 j hj p hp
  have c := h2 i hi p hp
  have d := h2 j hj p hp
  have e : (y p * y p) * (x i * z j) = (y p * y p) * (x j * z i) := by grind
  exact Int.eq_of_mul_eq_mul_left (by intro q; rcases Int.mul_eq_zero.mp q with q | q <;> exact h0 q) e
/-- a multiple of a vector is across what it is across -/
theorem par2_dot {cs : List Nat} {x y r : Nat → Int} (hx : nz cs x) (h : par2 cs x y) (h0 : dot cs r x = 0) : dot cs r y = 0 := by
  obtain ⟨p, hp, hp0⟩ := hx
  have e : dot cs r (lc (x p) y 0 y) = dot cs r (lc (y p) x 0 x) := dot_congr (fun _ _ => rfl) (fun d hd => by
    have := h p hp d hd
    show x p * y d + 0 * y d = y p * x d + 0 * x d
    grind)
  rw [dot_lc, dot_lc, h0] at e
  rcases Int.mul_eq_zero.mp (show x p * dot cs r y = 0 by omega) with q | q
  · exact absurd q hp0
  · exact q
theorem par2_lc {cs : List Nat} {x y z : Nat → Int} (h1 : par2 cs x y) (h2 : par2 cs x z) (a b : Int) : par2 cs x (lc a y b z) := fun i hi j hj => by
  have e1 := h1 i hi j hj
  have e2 := h2 i hi j hj
  show x i * (a * y j + b * z j) = x j * (a * y i + b * z i)
  grind
variable (cs : List Nat) (b : Nat → Nat → Int)
def inC (I : List Nat) (x : Nat → Int) : Prop := ∀ i ∈ I, 0 ≤ dot cs (b i) x
/-- all bounds that hold tightly at one hold tightly at the other -/
def tgt (I : List Nat) (x y : Nat → Int) : Prop := ∀ i ∈ I, dot cs (b i) x = 0 → dot cs (b i) y = 0
def Ext (I : List Nat) (x : Nat → Int) : Prop := inC cs b I x ∧ nz cs x ∧ ∀ y, tgt cs b I x y → par2 cs x y
def Ptd (I : List Nat) : Prop := ∀ y, (∀ i ∈ I, dot cs (b i) y = 0) → ∀ c ∈ cs, y c = 0
variable {cs b}
theorem tgt_trans {I : List Nat} {x y z : Nat → Int} (h1 : tgt cs b I x y) (h2 : tgt cs b I y z) : tgt cs b I x z := fun i hi h => h2 i hi (h1 i hi h)
theorem argmax {J : List Nat} (s d : Nat → Int) (hs : ∀ i ∈ J, 0 < s i) (hJ : J ≠ []) : ∃ i ∈ J, ∀ j ∈ J, d j * s i ≤ d i * s j := by
  induction J with
  | nil => exact absurd rfl hJ
  | cons k J ih =>
    by_cases hJ' : J = []
    · refine ⟨k, List.mem_cons_self, fun j hj => ?_⟩
      rw [hJ'] at hj
      rcases List.mem_cons.mp hj with e | e
      · rw [e]; exact Int.le_refl _
      · cases e
    · obtain ⟨i, hi, hm⟩ := ih (fun i hi => hs i (List.mem_cons_of_mem _ hi)) hJ'
      have hsi := hs i (List.mem_cons_of_mem _ hi)
      have hsk := hs k List.mem_cons_self
      by_cases hc : d k * s i ≤ d i * s k
      · refine ⟨i, List.mem_cons_of_mem _ hi, fun j hj => ?_⟩
        rcases List.mem_cons.mp hj with e | e
        · rw [e]; exact hc
        · exact hm j e
      · refine ⟨k, List.mem_cons_self, fun j hj => ?_⟩
        rcases List.mem_cons.mp hj with e | e
        · rw [e]; exact Int.le_refl _
        · have h1 := hm j e
          have hsj := hs j (List.mem_cons_of_mem _ e)
          have h2 : d i * s k ≤ d k * s i := by omega
          have h3 : (d j * s i) * s k ≤ (d i * s j) * s k := Int.mul_le_mul_of_nonneg_right h1 (by omega)
          have h4 : (d i * s k) * s j ≤ (d k * s i) * s j := Int.mul_le_mul_of_nonneg_right h2 (by omega)
          have h5 : (d j * s k) * s i ≤ (d k * s j) * s i := by
            have e1 : (d j * s k) * s i = (d j * s i) * s k := by grind
            have e2 : (d i * s j) * s k = (d i * s k) * s j := by grind
            have e3 : (d k * s i) * s j = (d k * s j) * s i := by grind
            omega
          exact Int.le_of_mul_le_mul_right h5 hsi
theorem filter_lt {I : List Nat} {p q : Nat → Bool} (h : ∀ i ∈ I, p i = true → q i = true) (hx : ∃ i ∈ I, q i = true ∧ p i = false) : (I.filter p).length < (I.filter q).length := by
  induction I with
  | nil => obtain ⟨i, hi, -⟩ := hx; cases hi
  | cons k I ih =>
    have hle : (I.filter p).length ≤ (I.filter q).length := by
      clear ih hx
      induction I with
      | nil => exact Nat.le_refl _
      | cons j I ih2 =>
        have := ih2 (fun i hi => h i (by rcases List.mem_cons.mp hi with e | e; · exact e ▸ List.mem_cons_self
                                         · exact List.mem_cons_of_mem _ (List.mem_cons_of_mem _ e)))
        have hj := h j (List.mem_cons_of_mem _ List.mem_cons_self)
        rw [List.filter_cons, List.filter_cons]
        cases hp : p j <;> cases hq : q j <;> simp_all <;> omega
    rw [List.filter_cons, List.filter_cons]
    have hk := h k List.mem_cons_self
    obtain ⟨i, hi, h1, h2⟩ := hx
    rcases List.mem_cons.mp hi with e | e
    · subst e
      simp [h1, h2]
      omega
    · have hlt := ih (fun i hi => h i (List.mem_cons_of_mem _ hi)) ⟨i, e, h1, h2⟩
      cases hp : p k <;> cases hq : q k <;> simp_all <;> omega
/-- MINKOWSKI, as a way to prove: what holds of the edges and goes over to sums and parts holds of every point of the cone -/
theorem mink {I : List Nat} (hp : Ptd cs b I) (Φ : (Nat → Int) → Prop) (hadd : ∀ (u v : Nat → Int) (a c : Int), 0 < a → 0 < c → Φ u → Φ v → Φ (lc a u c v)) (hdiv : ∀ (u v : Nat → Int) (a : Int), 0 < a → (∀ c ∈ cs, v c = a * u c) → Φ v → Φ u) :
    ∀ (N : Nat) (x : Nat → Int), (I.filter (fun i => decide (dot cs (b i) x ≠ 0))).length ≤ N → inC cs b I x → nz cs x → (∀ e, Ext cs b I e → tgt cs b I x e → Φ e) → Φ x := by
  intro N
  induction N with
  | zero =>
    intro x hN hx hz _
    obtain ⟨c, hc, h0⟩ := hz
    refine absurd (hp x (fun i hi => Classical.byContradiction (fun q => ?_)) c hc) h0
    have : i ∈ I.filter (fun i => decide (dot cs (b i) x ≠ 0)) := List.mem_filter.mpr ⟨hi, decide_eq_true q⟩
    rw [List.length_eq_zero_iff.mp (Nat.le_zero.mp hN)] at this
    cases this
  | succ N ih =>
    intro x hN hx hz hE
    by_cases hext : ∀ y, tgt cs b I x y → par2 cs x y
    · exact hE x ⟨hx, hz, hext⟩ (fun i _ h => h)
    · obtain ⟨y, hy⟩ := Classical.not_forall.mp hext
      obtain ⟨hty, hny⟩ := Classical.not_imp.mp hy
      obtain ⟨J, hJe⟩ : ∃ J, J = I.filter (fun i => decide (dot cs (b i) x ≠ 0)) := ⟨_, rfl⟩
      have hJ : ∀ i, i ∈ J ↔ i ∈ I ∧ dot cs (b i) x ≠ 0 := fun i => by rw [hJe, List.mem_filter]; simp
      have hs : ∀ i ∈ J, 0 < dot cs (b i) x := fun i hi => by
        have h1 := (hJ i).mp hi
        have := hx i h1.1
        omega
      have hJn : J ≠ [] := fun q => by
        obtain ⟨c, hc, h0⟩ := hz
        refine h0 (hp x (fun i hi => Classical.byContradiction (fun z => ?_)) c hc)
        have := (hJ i).mpr ⟨hi, z⟩
        rw [q] at this
        cases this
      obtain ⟨i0, hi0, hmax⟩ := argmax (fun i => dot cs (b i) x) (fun i => dot cs (b i) y) hs hJn
      obtain ⟨j0, hj0, hmin⟩ := argmax (fun i => dot cs (b i) x) (fun i => -dot cs (b i) y) hs hJn
      have s1 := hs i0 hi0
      have s2 := hs j0 hj0
      -- u = d_i0 x - s_i0 y, v = s_j0 y - d_j0 x
      have hdot : ∀ i (a c : Int), dot cs (b i) (lc a x c y) = a * dot cs (b i) x + c * dot cs (b i) y := fun i a c => dot_lc cs (b i) x y a c
      have key : ∀ (a c : Int), c ≠ 0 → (∀ i ∈ J, 0 ≤ a * dot cs (b i) x + c * dot cs (b i) y) → (∃ i ∈ J, a * dot cs (b i) x + c * dot cs (b i) y = 0) → Φ (lc a x c y) := by
        intro a c hc0 hge hex
        have htx : tgt cs b I x (lc a x c y) := fun i hi h => by
          rw [hdot, h, hty i hi h]
          omega
        refine ih (lc a x c y) ?_ (fun i hi => ?_) ?_ (fun e he ht => hE e he (tgt_trans htx ht))
        · have hlt : (I.filter (fun i => decide (dot cs (b i) (lc a x c y) ≠ 0))).length < (I.filter (fun i => decide (dot cs (b i) x ≠ 0))).length := by
            refine filter_lt (fun i hi h => decide_eq_true (fun q => of_decide_eq_true h (htx i hi q))) ?_
            obtain ⟨i, hi, h0⟩ := hex
            have h1 := (hJ i).mp hi
            exact ⟨i, h1.1, decide_eq_true h1.2, decide_eq_false (fun q => q (by rw [hdot]; exact h0))⟩
          omega
        · rw [hdot]
          by_cases h0 : dot cs (b i) x = 0
          · rw [h0, hty i hi h0]; omega
          · exact hge i ((hJ i).mpr ⟨hi, h0⟩)
        · refine Classical.byContradiction (fun q => hny ?_)
          have hq := not_nz q
          intro i hi j hj
          have e1 : a * x i + c * y i = 0 := hq i hi
          have e2 : a * x j + c * y j = 0 := hq j hj
          have : c * (x i * y j) = c * (x j * y i) := by grind
          exact Int.eq_of_mul_eq_mul_left hc0 this
      have hu := key (dot cs (b i0) y) (-(dot cs (b i0) x)) (by omega) (fun i hi => by
        have := hmax i hi
        try simp only at this
        have e : dot cs (b i0) y * dot cs (b i) x + -(dot cs (b i0) x) * dot cs (b i) y = dot cs (b i0) y * dot cs (b i) x - dot cs (b i) y * dot cs (b i0) x := by grind
        omega) ⟨i0, hi0, by grind⟩
      have hv := key (-(dot cs (b j0) y)) (dot cs (b j0) x) (by omega) (fun i hi => by
        have := hmin i hi
        try simp only at this
        have e : -(dot cs (b j0) y) * dot cs (b i) x + dot cs (b j0) x * dot cs (b i) y = -(dot cs (b j0) y) * dot cs (b i) x - -dot cs (b i) y * dot cs (b j0) x := by grind
        omega) ⟨j0, hj0, by grind⟩
      have hsum := hadd _ _ _ _ s2 s1 hu hv
      refine hdiv x _ (dot cs (b i0) y * dot cs (b j0) x - dot cs (b j0) y * dot cs (b i0) x) ?_ (fun c _ => ?_) hsum
      · -- the two ends are not the same
        have h1 := hmax j0 hj0
        try simp only at h1
        refine Classical.byContradiction (fun q => hny ?_)
        have he : dot cs (b i0) y * dot cs (b j0) x = dot cs (b j0) y * dot cs (b i0) x := by omega
        -- then y - rho x is across all
        have hall : ∀ i ∈ I, dot cs (b i) (lc (dot cs (b i0) y) x (-(dot cs (b i0) x)) y) = 0 := fun i hi => by
          rw [hdot]
          by_cases h0 : dot cs (b i) x = 0
          · rw [h0, hty i hi h0]; omega
          · have hi' := (hJ i).mpr ⟨hi, h0⟩
            have a1 := hmax i hi'
            have a2 := hmin i hi'
            try simp only at a1 a2
            have si := hs i hi'
            -- d_i s_i0 <= d_i0 s_i ; d_j0 s_i <= d_i s_j0 ; d_i0 s_j0 = d_j0 s_i0
            have b1 : dot cs (b j0) y * dot cs (b i) x ≤ dot cs (b i) y * dot cs (b j0) x := by
              have e : -dot cs (b i) y * dot cs (b j0) x = -(dot cs (b i) y * dot cs (b j0) x) := by grind
              have e2 : -dot cs (b j0) y * dot cs (b i) x = -(dot cs (b j0) y * dot cs (b i) x) := by grind
              omega
            have b2 : (dot cs (b i0) y * dot cs (b i) x) * dot cs (b j0) x ≤ (dot cs (b i) y * dot cs (b i0) x) * dot cs (b j0) x := by
              have c1 : (dot cs (b j0) y * dot cs (b i) x) * dot cs (b i0) x ≤ (dot cs (b i) y * dot cs (b j0) x) * dot cs (b i0) x := Int.mul_le_mul_of_nonneg_right b1 (by omega)
              have c2 : (dot cs (b i0) y * dot cs (b i) x) * dot cs (b j0) x = (dot cs (b j0) y * dot cs (b i) x) * dot cs (b i0) x := by grind
              have c3 : (dot cs (b i) y * dot cs (b i0) x) * dot cs (b j0) x = (dot cs (b i) y * dot cs (b j0) x) * dot cs (b i0) x := by grind
              omega
            have b3 := Int.le_of_mul_le_mul_right b2 s2
            have e : -(dot cs (b i0) x) * dot cs (b i) y = -(dot cs (b i) y * dot cs (b i0) x) := by grind
            omega
        have hz0 := hp _ hall
        intro i hi j hj
        have e1 : dot cs (b i0) y * x i + -(dot cs (b i0) x) * y i = 0 := hz0 i hi
        have e2 : dot cs (b i0) y * x j + -(dot cs (b i0) x) * y j = 0 := hz0 j hj
        have : dot cs (b i0) x * (x i * y j) = dot cs (b i0) x * (x j * y i) := by grind
        exact Int.eq_of_mul_eq_mul_left (by omega) this
      · show dot cs (b j0) x * (dot cs (b i0) y * x c + -(dot cs (b i0) x) * y c) + dot cs (b i0) x * (-(dot cs (b j0) y) * x c + dot cs (b j0) x * y c) = _
        grind
end CONE
