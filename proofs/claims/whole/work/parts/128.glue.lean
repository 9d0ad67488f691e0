/-! THE SAME ROWS GIVE THE SAME SUMS -/
section GLUE
theorem insW_cg {ray sd : Nat → Int64} {nu nu' : Nat → Int32} {i w : Nat} : ∀ (k : Nat), (∀ j, j < k → ray (i * 5 + j) = sd (i * 5 + j)) → (∀ j, j < k → nu (w * 4 + j) = nu' (w * 4 + j)) → insW sd nu' i w k = insW ray nu i w k
  | 0, _, _ => rfl
  | k + 1, h1, h2 => by
    rw [insW, insW, insW_cg k (fun j hj => h1 j (by omega)) (fun j hj => h2 j (by omega)), h1 k (by omega), h2 k (by omega)]
theorem outsW_cg {ray sd : Nat → Int64} {nu nu' : Nat → Int32} {i w t a : Nat} (h0 : ray (i * 5 + t) = sd (i * 5 + 4)) : ∀ (n : Nat), (∀ j, j < a + n → ray (i * 5 + j) = sd (i * 5 + j)) → (∀ j, j < a + n → nu (w * 4 + j) = nu' (w * 4 + j)) → outsW sd nu' i w 4 a n = outsW ray nu i w t a n
  | 0, _, _ => h0.symm
  | n + 1, h1, h2 => by
    rw [outsW, outsW, outsW_cg h0 n (fun j hj => h1 j (by omega)) (fun j hj => h2 j (by omega)), h1 (a + n) (by omega), h2 (a + n) (by omega)]
/-- sums on an edge are small, and are the products with the rows -/
theorem sums_edge {ray : Nat → Int64} {nu : Nat → Int32} {i w ki t n : Nat} (hki : ki ≤ t) (ht : t ≤ 4) (hn : n = t ∨ n = t + 1) (hl : (vc ray i t).natAbs ≤ 100000000) (hz : n = t → vc ray i t = 0) (h : ∀ j, j < t → (vc ray i j * (nu (w * 4 + j)).toInt).natAbs ≤ 100000000) : sm9 (insW ray nu i w ki) ∧ sm9 (outsW ray nu i w t ki (t - ki)) ∧ (insW ray nu i w ki).toInt = dot (List.range n) (alp nu w ki) (vc ray i) ∧ (outsW ray nu i w t ki (t - ki)).toInt = dot (List.range n) (bet nu w ki t) (vc ray i) := by
  have h1 := insW_int (nu := nu) (w := w) (B := 100000000) (by decide) ki (by omega) (fun j hj => h j (by omega))
  have h2 := outsW_int (nu := nu) (w := w) (a := ki) (B := 100000000) (by decide) hl (t - ki) (by omega) (fun j hj => h (ki + j) (by omega))
  have b1 := lsum_abs (f := fun j => vc ray i j * (nu (w * 4 + j)).toInt) (K := 100000000) (l := List.range ki) (fun j hj => h j (by have := List.mem_range.mp hj; omega))
  have b2 := lsum_abs (f := fun j => vc ray i (ki + j) * (nu (w * 4 + (ki + j))).toInt) (K := 100000000) (l := List.range (t - ki)) (fun j hj => h (ki + j) (by have := List.mem_range.mp hj; omega))
  rw [List.length_range] at b1 b2
  refine ⟨?_, ?_, by rw [h1, alp_dot (by omega)], by rw [h2, bet_dot hki hn _ hz]⟩
  · unfold sm9
    rw [h1]
    omega
  · unfold sm9
    rw [h2]
    omega
end GLUE
