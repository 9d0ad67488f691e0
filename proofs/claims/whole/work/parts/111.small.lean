/-! EDGES ARE SMALL; slacks as whole numbers -/
section SMALL
variable {cs : List Nat} {b : Nat → Nat → Int}
theorem ext_small (hn : cs.Nodup) (M : Nat → Nat) {I : List Nat} (hM : ∀ i ∈ I, ∀ c ∈ cs, (b i c).natAbs ≤ M c) {x : Nat → Int} (hx : Ext cs b I x) (hg : gl x cs = 1) {c : Nat} (hc : c ∈ cs) : (x c).natAbs * M c ≤ fcN cs.length * prd M cs := by
  obtain ⟨S, l1, -, l3, l4⟩ := ext_basis hn hx
  have hl : par2 cs x (crs (S.map b) cs) := basis_line hn l1 l4 (fun i hi => (l3 i hi).2) (fun i hi => crs_perp hn (List.mem_map_of_mem hi))
  have hb := crs_bnd M (rs := S.map b) (cs := cs) (by simpa using l1) (fun r hr d hd => by
    obtain ⟨i, hi, rfl⟩ := List.mem_map.mp hr
    exact hM i (l3 i hi).1 d hd) c
  refine Nat.le_trans (Nat.mul_le_mul_right _ ?_) hb
  by_cases h0 : crs (S.map b) cs c = 0
  · obtain ⟨d, hd, hd0⟩ := l4
    have e := hl c hc d hd
    rw [h0, Int.mul_zero] at e
    have hx0 : x c = 0 := (Int.mul_eq_zero.mp e).elim id (fun q => absurd q hd0)
    rw [hx0]
    exact Nat.zero_le _
  · exact Nat.le_of_dvd (by omega) (prm_dvd hg hl hc)
theorem lsum_abs {f : Nat → Int} {K : Nat} : ∀ {l : List Nat}, (∀ c ∈ l, (f c).natAbs ≤ K) → (lsum f l).natAbs ≤ l.length * K
  | [], _ => by rw [lsum]; exact Nat.zero_le _
  | c :: l, h => by
    rw [lsum, List.length_cons, Nat.succ_mul]
    have h1 := h c List.mem_cons_self
    have h2 := lsum_abs (f := f) (l := l) (fun d hd => h d (List.mem_cons_of_mem _ hd))
    omega
theorem lsum_range (f : Nat → Int) (n : Nat) : lsum f (List.range (n + 1)) = lsum f (List.range n) + f n := by
  rw [List.range_succ, lsum_append]
  show lsum f (List.range n) + (f n + 0) = _
  omega
theorem lsum_add (f : Nat → Int) (a : Nat) : ∀ c : Nat, lsum f (List.range (a + c)) = lsum f (List.range a) + lsum (fun j => f (a + j)) (List.range c)
  | 0 => by
    show lsum f (List.range a) = lsum f (List.range a) + 0
    omega
  | c + 1 => by rw [show a + (c + 1) = (a + c) + 1 by omega, lsum_range, lsum_add f a c, lsum_range]; omega
theorem insW_int {ray : Nat → Int64} {nu : Nat → Int32} {r w : Nat} {B : Nat} (hB : B ≤ 1000000000) : ∀ (k : Nat), k ≤ 5 → (∀ j, j < k → (vc ray r j * (nu (w * 4 + j)).toInt).natAbs ≤ B) → (insW ray nu r w k).toInt = lsum (fun j => vc ray r j * (nu (w * 4 + j)).toInt) (List.range k)
  | 0, _, _ => rfl
  | k + 1, hk, h => by
    have ih := insW_int (nu := nu) (r := r) (w := w) hB k (by omega) (fun j hj => h j (by omega))
    have hb := lsum_abs (f := fun j => vc ray r j * (nu (w * 4 + j)).toInt) (K := B) (l := List.range k) (fun j hj => h j (by have := List.mem_range.mp hj; omega))
    rw [List.length_range] at hb
    have hkB : k * B ≤ 5 * 1000000000 := Nat.mul_le_mul (by omega) hB
    have hl := h k (by omega)
    rw [insW, lsum_range]
    have e : (ray (r * 5 + k) * (nu (w * 4 + k)).toInt64).toInt = vc ray r k * (nu (w * 4 + k)).toInt := i64_mul (a := vc ray r k) rfl (i32_to64 _) (by omega) (by omega)
    exact i64_add ih e (by omega) (by omega)
theorem outsW_int {ray : Nat → Int64} {nu : Nat → Int32} {r w t a : Nat} {B : Nat} (hB : B ≤ 1000000000) (hl : (vc ray r t).natAbs ≤ B) : ∀ (k : Nat), k ≤ 5 → (∀ j, j < k → (vc ray r (a + j) * (nu (w * 4 + (a + j))).toInt).natAbs ≤ B) → (outsW ray nu r w t a k).toInt = vc ray r t + lsum (fun j => vc ray r (a + j) * (nu (w * 4 + (a + j))).toInt) (List.range k)
  | 0, _, _ => by
    show (ray (r * 5 + t)).toInt = vc ray r t + 0
    rw [Int.add_zero]
    rfl
  | k + 1, hk, h => by
    have ih := outsW_int (nu := nu) (w := w) hB hl k (by omega) (fun j hj => h j (by omega))
    have hb := lsum_abs (f := fun j => vc ray r (a + j) * (nu (w * 4 + (a + j))).toInt) (K := B) (l := List.range k) (fun j hj => h j (by have := List.mem_range.mp hj; omega))
    rw [List.length_range] at hb
    have hkB : k * B ≤ 5 * 1000000000 := Nat.mul_le_mul (by omega) hB
    have hlk := h k (by omega)
    rw [outsW, lsum_range]
    have e : (ray (r * 5 + (a + k)) * (nu (w * 4 + (a + k))).toInt64).toInt = vc ray r (a + k) * (nu (w * 4 + (a + k))).toInt := i64_mul (a := vc ray r (a + k)) rfl (i32_to64 _) (by omega) (by omega)
    rw [← Int.add_assoc]
    exact i64_add ih e (by omega) (by omega)
/-- the bounds of a view, by their bits: things, the last one, works -/
def bdV (nu : Nat → Int32) (ki t : Nat) (i : Nat) : Nat → Int := fun k =>
  if i < 5 then (if k = i then (if i < t then 1 else -1) else 0)
  else if k < ki then (nu ((i - 5) * 4 + k)).toInt else if k < t then -(nu ((i - 5) * 4 + k)).toInt else -1
theorem slk_int {ray : Nat → Int64} {nu : Nat → Int32} {r w ki t n : Nat} {B : Nat} (hB : B ≤ 1000000000) (hki : ki ≤ t) (ht : t ≤ 4) (hn : n = t ∨ n = t + 1) (hl : (vc ray r t).natAbs ≤ B) (hz : n = t → vc ray r t = 0) (h : ∀ j, j < t → (vc ray r j * (nu (w * 4 + j)).toInt).natAbs ≤ B) : (slk ray nu w ki t r).toInt = dot (List.range n) (bdV nu ki t (5 + w)) (vc ray r) ∧ (dot (List.range n) (bdV nu ki t (5 + w)) (vc ray r)).natAbs ≤ 5 * B := by
  have h1 := insW_int (nu := nu) (w := w) hB ki (by omega) (fun j hj => h j (by omega))
  have h2 := outsW_int (nu := nu) (w := w) (a := ki) hB hl (t - ki) (by omega) (fun j hj => h (ki + j) (by omega))
  have b1 := lsum_abs (f := fun j => vc ray r j * (nu (w * 4 + j)).toInt) (K := B) (l := List.range ki) (fun j hj => h j (by have := List.mem_range.mp hj; omega))
  have b2 := lsum_abs (f := fun j => vc ray r (ki + j) * (nu (w * 4 + (ki + j))).toInt) (K := B) (l := List.range (t - ki)) (fun j hj => h (ki + j) (by have := List.mem_range.mp hj; omega))
  rw [List.length_range] at b1 b2
  have k1 : ki * B ≤ 4 * 1000000000 := Nat.mul_le_mul (by omega) hB
  have k2 : (t - ki) * B ≤ 4 * 1000000000 := Nat.mul_le_mul (by omega) hB
  have k3 : ki * B + (t - ki) * B ≤ 4 * B := by
    rw [← Nat.add_mul, show ki + (t - ki) = t by omega]
    exact Nat.mul_le_mul_right _ ht
  have hd : dot (List.range t) (bdV nu ki t (5 + w)) (vc ray r) = lsum (fun j => vc ray r j * (nu (w * 4 + j)).toInt) (List.range ki) - lsum (fun j => vc ray r (ki + j) * (nu (w * 4 + (ki + j))).toInt) (List.range (t - ki)) := by
    unfold dot
    obtain ⟨d, hd⟩ : ∃ d, t = ki + d := ⟨t - ki, by omega⟩
    have e0 : List.range t = List.range (ki + d) := by rw [hd]
    rw [e0, lsum_add]
    have e1 : lsum (fun c => bdV nu ki t (5 + w) c * vc ray r c) (List.range ki) = lsum (fun j => vc ray r j * (nu (w * 4 + j)).toInt) (List.range ki) := lsum_congr (fun c hc => by
      have := List.mem_range.mp hc
      unfold bdV
      rw [if_neg (by omega), if_pos this, show 5 + w - 5 = w by omega, Int.mul_comm])
    have e2 : lsum (fun j => bdV nu ki t (5 + w) (ki + j) * vc ray r (ki + j)) (List.range d) = -1 * lsum (fun j => vc ray r (ki + j) * (nu (w * 4 + (ki + j))).toInt) (List.range d) := by
      have e3 := lsum_lin (fun j => vc ray r (ki + j) * (nu (w * 4 + (ki + j))).toInt) (fun _ => 0) (-1) 0 (List.range d)
      rw [lsum_zero, Int.mul_zero, Int.add_zero] at e3
      rw [← e3]
      refine lsum_congr (fun c hc => ?_)
      have := List.mem_range.mp hc
      unfold bdV
      rw [if_neg (by omega), if_neg (by omega), if_pos (by omega), show 5 + w - 5 = w by omega]
      grind
    rw [e1, e2, show t - ki = d by omega]
    omega
  have hs : (slk ray nu w ki t r).toInt = lsum (fun j => vc ray r j * (nu (w * 4 + j)).toInt) (List.range ki) - (vc ray r t + lsum (fun j => vc ray r (ki + j) * (nu (w * 4 + (ki + j))).toInt) (List.range (t - ki))) := i64_sub h1 h2 (by omega) (by omega)
  rcases hn with e | e
  · rw [e, hd, hs, hz e]
    exact ⟨by omega, by omega⟩
  · have hd2 : dot (List.range n) (bdV nu ki t (5 + w)) (vc ray r) = dot (List.range t) (bdV nu ki t (5 + w)) (vc ray r) - vc ray r t := by
      rw [e]
      unfold dot
      rw [lsum_range]
      have e4 : bdV nu ki t (5 + w) t = -1 := by
        unfold bdV
        rw [if_neg (by omega), if_neg (by omega), if_neg (by omega)]
      rw [e4]
      omega
    rw [hd2, hd, hs]
    exact ⟨by omega, by omega⟩
end SMALL
