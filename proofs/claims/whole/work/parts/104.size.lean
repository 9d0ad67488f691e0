/-! SIZES OF DETERMINANTS; rows of numbers without a common divisor -/
section SIZE
def fcN : Nat → Nat
  | 0 => 1
  | n + 1 => (n + 1) * fcN n
def prd (M : Nat → Nat) : List Nat → Nat
  | [] => 1
  | c :: cs => M c * prd M cs
theorem alt_bnd (M : Nat → Nat) {w : Nat → Int} : ∀ (cs : List Nat) (K : Nat) (F : List Nat → Int), (∀ c ∈ cs, (w c).natAbs ≤ M c) → (∀ x : List Nat, x.length + 1 = cs.length → (∀ c ∈ x, c ∈ cs) → (F x).natAbs ≤ K * prd M x) → (alt w cs F).natAbs ≤ cs.length * (K * prd M cs)
  | [], K, F, _, _ => by rw [alt_nil]; exact Nat.zero_le _
  | c :: cs, K, F, hw, hF => by
    rw [alt_cons]
    have h1 : (w c * F cs).natAbs ≤ M c * (K * prd M cs) := by
      rw [Int.natAbs_mul]
      exact Nat.mul_le_mul (hw c List.mem_cons_self) (hF cs rfl (fun d hd => List.mem_cons_of_mem _ hd))
    have h2 := alt_bnd M cs (K * M c) (fun x => F (c :: x)) (fun d hd => hw d (List.mem_cons_of_mem _ hd)) (fun x hx hm => by
      have := hF (c :: x) (by simp only [List.length_cons]; omega) (fun d hd => by
        rcases List.mem_cons.mp hd with e | e
        · exact e ▸ List.mem_cons_self
        · exact List.mem_cons_of_mem _ (hm d e))
      rw [prd, ← Nat.mul_assoc] at this
      exact this)
    have e1 : M c * (K * prd M cs) = K * (M c * prd M cs) := by rw [Nat.mul_left_comm]
    have e2 : K * M c * prd M cs = K * (M c * prd M cs) := Nat.mul_assoc _ _ _
    rw [e1] at h1
    rw [e2] at h2
    rw [prd, List.length_cons, Nat.succ_mul]
    omega
theorem det_bnd (M : Nat → Nat) : ∀ (rs : List (Nat → Int)) (cs : List Nat), rs.length = cs.length → (∀ r ∈ rs, ∀ c ∈ cs, (r c).natAbs ≤ M c) → (det rs cs).natAbs ≤ fcN cs.length * prd M cs
  | [], cs, hl, _ => by
    rw [List.length_eq_zero_iff.mp hl.symm]
    exact Nat.le_refl _
  | r :: rs, cs, hl, h => by
    rw [det_cons]
    have h1 := alt_bnd M (w := r) cs (fcN rs.length) (fun x => det rs x) (h r List.mem_cons_self) (fun x hx hm => by
      have hxl : rs.length = x.length := by simp only [List.length_cons] at hl; omega
      have := det_bnd M rs x hxl (fun q hq c hc => h q (List.mem_cons_of_mem _ hq) c (hm c hc))
      rw [← hxl] at this
      exact this)
    rw [← hl, List.length_cons, fcN]
    rw [← hl, List.length_cons, ← Nat.mul_assoc] at h1
    exact h1
/-- a number of what is across rows, times the greatest number of its column -/
theorem crs_bnd (M : Nat → Nat) {rs : List (Nat → Int)} {cs : List Nat} (hl : rs.length + 1 = cs.length) (h : ∀ r ∈ rs, ∀ c ∈ cs, (r c).natAbs ≤ M c) (c : Nat) : (crs rs cs c).natAbs * M c ≤ fcN cs.length * prd M cs := by
  have h1 := det_bnd M ((fun d => (M c : Int) * dl c d + 0 * dl c d) :: rs) cs (by simp only [List.length_cons]; exact hl) (fun r hr d hd => by
    rcases List.mem_cons.mp hr with e | e
    · rw [e]
      show ((M c : Int) * dl c d + 0 * dl c d).natAbs ≤ M d
      unfold dl
      split
      · rename_i q; rw [q]; omega
      · omega
    · exact h r e d hd)
  rw [det_lin, Int.zero_mul, Int.add_zero, Int.natAbs_mul, Int.natAbs_natCast, Nat.mul_comm] at h1
  exact h1
/-- the greatest common divisor of a row -/
def gl (x : Nat → Int) : List Nat → Nat
  | [] => 0
  | c :: cs => Nat.gcd (x c).natAbs (gl x cs)
theorem gl_dvd {x : Nat → Int} : ∀ {cs : List Nat} {c : Nat}, c ∈ cs → gl x cs ∣ (x c).natAbs
  | d :: cs, c, h => by
    rw [gl]
    rcases List.mem_cons.mp h with e | e
    · rw [e]; exact Nat.gcd_dvd_left _ _
    · exact Nat.dvd_trans (Nat.gcd_dvd_right _ _) (gl_dvd e)
theorem dvd_gl {x : Nat → Int} {d : Nat} : ∀ {cs : List Nat}, (∀ c ∈ cs, d ∣ (x c).natAbs) → d ∣ gl x cs
  | [], _ => Nat.dvd_zero d
  | c :: cs, h => Nat.dvd_gcd (h c List.mem_cons_self) (dvd_gl (fun e he => h e (List.mem_cons_of_mem _ he)))
theorem gl_mul (k : Int) (x : Nat → Int) : ∀ cs : List Nat, gl (fun c => k * x c) cs = k.natAbs * gl x cs
  | [] => rfl
  | c :: cs => by
    show Nat.gcd (k * x c).natAbs (gl (fun c => k * x c) cs) = k.natAbs * Nat.gcd (x c).natAbs (gl x cs)
    rw [gl_mul k x cs, Int.natAbs_mul, Nat.gcd_mul_left]
theorem gl_congr {x y : Nat → Int} : ∀ {cs : List Nat}, (∀ c ∈ cs, (x c).natAbs = (y c).natAbs) → gl x cs = gl y cs
  | [], _ => rfl
  | c :: cs, h => by rw [gl, gl, h c List.mem_cons_self, gl_congr (fun d hd => h d (List.mem_cons_of_mem _ hd))]
theorem gl_zero {x : Nat → Int} : ∀ {cs : List Nat}, gl x cs = 0 → ∀ c ∈ cs, x c = 0
  | d :: cs, h, c, hc => by
    rw [gl] at h
    have h1 := Nat.eq_zero_of_gcd_eq_zero_left h
    have h2 := Nat.eq_zero_of_gcd_eq_zero_right h
    rcases List.mem_cons.mp hc with e | e
    · rw [e]; omega
    · exact gl_zero h2 c e
/-- a row on the line of one without a common divisor is a multiple of it -/
theorem prm_dvd {cs : List Nat} {x y : Nat → Int} (hg : gl x cs = 1) (h : par2 cs x y) {c : Nat} (hc : c ∈ cs) : (x c).natAbs ∣ (y c).natAbs := by
  have e := gl_mul (y c) x cs
  rw [hg, Nat.mul_one] at e
  rw [← e]
  refine dvd_gl (fun d hd => ?_)
  have := h d hd c hc
  have e2 : y c * x d = x c * y d := by grind
  rw [e2, Int.natAbs_mul]
  exact Nat.dvd_mul_right _ _
theorem prm_eq {cs : List Nat} {b : Nat → Nat → Int} {I : List Nat} (hp : Ptd cs b I) {x y : Nat → Int} (hx : inC cs b I x) (hzx : nz cs x) (hy : inC cs b I y) (hgx : gl x cs = 1) (hgy : gl y cs = 1) (h : par2 cs x y) : ∀ c ∈ cs, x c = y c := by
  obtain ⟨p, hp1, hp0⟩ := hzx
  have hab : ∀ c ∈ cs, (x c).natAbs = (y c).natAbs := fun c hc => Nat.dvd_antisymm (prm_dvd hgx h hc) (prm_dvd hgy (par2_symm h) hc)
  by_cases e : x p = y p
  · intro c hc
    have := h p hp1 c hc
    rw [← e] at this
    have : x p * x c = x p * y c := by grind
    exact Int.eq_of_mul_eq_mul_left hp0 this
  · have e2 : y p = -(x p) := by have := hab p hp1; omega
    obtain ⟨i, hi, hpos⟩ := Ext_some hp hx ⟨p, hp1, hp0⟩
    have h1 := par2_dots h (b i) (dl p)
    have hneg : ∀ c ∈ cs, y c = -(x c) := fun c hc => by
      have := h p hp1 c hc
      rw [e2] at this
      have : x p * y c = x p * -(x c) := by grind
      exact Int.eq_of_mul_eq_mul_left hp0 this
    have h2 := hy i hi
    have h3 : dot cs (b i) y = dot cs (b i) (lc (-1) x 0 x) := dot_congr (fun _ _ => rfl) (fun c hc => by
      show y c = -1 * x c + 0 * x c
      have := hneg c hc
      omega)
    rw [h3, dot_lc] at h2
    omega
end SIZE
