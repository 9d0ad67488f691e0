/-! WHERE NOT UNBOUNDED, SOME EDGE GIVES NO LESS THAN 0 -/
section BACK
theorem some_ge {cs : List Nat} {b : Nat → Nat → Int} {I : List Nat} (hp : Ptd cs b I) (α β : Nat → Int) (hA : ∀ e, Ext cs b I e → 0 ≤ dot cs α e) {x : Nat → Int} (hx : inC cs b I x) (hxz : nz cs x) (hAx : 0 < dot cs α x) (hGx : 0 ≤ dot cs β x) (hb : ∀ e, Ext cs b I e → dot cs α e = 0 → dot cs β e ≤ 0) : ∃ e, Ext cs b I e ∧ 0 < dot cs α e ∧ 0 ≤ dot cs β e := by
  refine Classical.byContradiction (fun hno => ?_)
  have key := mink hp (fun z => 0 ≤ dot cs α z ∧ dot cs β z ≤ 0 ∧ (0 < dot cs α z → dot cs β z < 0)) (fun u v a c ha hc hu hv => ?_) (fun u v a ha he hv => ?_) _ x (Nat.le_refl _) hx hxz (fun e he _ => ?_)
  · have := key.2.2 hAx
    omega
  · obtain ⟨u1, u2, u3⟩ := hu
    obtain ⟨v1, v2, v3⟩ := hv
    rw [dot_lc, dot_lc]
    have p1 := Int.mul_nonneg (show 0 ≤ a by omega) u1
    have p2 := Int.mul_nonneg (show 0 ≤ c by omega) v1
    have p3 := Int.mul_nonneg (show 0 ≤ a by omega) (show 0 ≤ -dot cs β u by omega)
    have p4 := Int.mul_nonneg (show 0 ≤ c by omega) (show 0 ≤ -dot cs β v by omega)
    rw [Int.mul_neg] at p3 p4
    refine ⟨by omega, by omega, fun h => ?_⟩
    by_cases hu0 : 0 < dot cs α u
    · have := Int.mul_pos ha (show 0 < -dot cs β u by have := u3 hu0; omega)
      rw [Int.mul_neg] at this
      omega
    · have e0 : dot cs α u = 0 := by omega
      rw [e0, Int.mul_zero] at h
      have hv0 : 0 < dot cs α v := by
        refine Classical.byContradiction (fun q => ?_)
        have e1 : dot cs α v = 0 := by omega
        rw [e1, Int.mul_zero] at h
        omega
      have := Int.mul_pos hc (show 0 < -dot cs β v by have := v3 hv0; omega)
      rw [Int.mul_neg] at this
      omega
  · obtain ⟨v1, v2, v3⟩ := hv
    have ed : ∀ r : Nat → Int, dot cs r v = a * dot cs r u := fun r => by
      have e := dot_lc cs r u u a 0
      rw [Int.zero_mul, Int.add_zero] at e
      rw [← e]
      refine dot_congr (fun _ _ => rfl) (fun k hk => ?_)
      show v k = a * u k + 0 * u k
      rw [he k hk, Int.zero_mul, Int.add_zero]
    rw [ed, ed] at v3
    rw [ed] at v1 v2
    refine ⟨?_, ?_, fun h => ?_⟩
    · refine Classical.byContradiction (fun q => ?_)
      have := Int.mul_pos ha (show 0 < -dot cs α u by omega)
      rw [Int.mul_neg] at this
      omega
    · refine Classical.byContradiction (fun q => ?_)
      have := Int.mul_pos ha (show 0 < dot cs β u by omega)
      omega
    · have h1 := v3 (Int.mul_pos ha h)
      refine Classical.byContradiction (fun q => ?_)
      have := Int.mul_nonneg (show 0 ≤ a by omega) (show 0 ≤ dot cs β u by omega)
      omega
  · refine ⟨hA e he, ?_, fun h => ?_⟩
    · by_cases h : 0 < dot cs α e
      · refine Classical.byContradiction (fun q => hno ⟨e, he, h, by omega⟩)
      · exact hb e he (by have := hA e he; omega)
    · refine Classical.byContradiction (fun q => hno ⟨e, he, h, by omega⟩)
def alp (nu : Nat → Int32) (w ki : Nat) : Nat → Int := fun k => if k < ki then (nu (w * 4 + k)).toInt else 0
def bet (nu : Nat → Int32) (w ki t : Nat) : Nat → Int := fun k => if k < ki then 0 else if k < t then (nu (w * 4 + k)).toInt else 1
theorem alp_dot {nu : Nat → Int32} {w ki n : Nat} (h : ki ≤ n) (x : Nat → Int) : dot (List.range n) (alp nu w ki) x = lsum (fun j => x j * (nu (w * 4 + j)).toInt) (List.range ki) := by
  obtain ⟨d, hd⟩ : ∃ d, n = ki + d := ⟨n - ki, by omega⟩
  unfold dot
  rw [hd, lsum_add]
  have e1 : lsum (fun c => alp nu w ki c * x c) (List.range ki) = lsum (fun j => x j * (nu (w * 4 + j)).toInt) (List.range ki) := lsum_congr (fun c hc => by
    unfold alp
    rw [if_pos (List.mem_range.mp hc), Int.mul_comm])
  have e2 : lsum (fun j => alp nu w ki (ki + j) * x (ki + j)) (List.range d) = 0 := lsum_z (fun c _ => by
    unfold alp
    rw [if_neg (by omega), Int.zero_mul])
  rw [e1, e2, Int.add_zero]
theorem bet_dot {nu : Nat → Int32} {w ki t n : Nat} (h : ki ≤ t) (hn : n = t ∨ n = t + 1) (x : Nat → Int) (hz : n = t → x t = 0) : dot (List.range n) (bet nu w ki t) x = x t + lsum (fun j => x (ki + j) * (nu (w * 4 + (ki + j))).toInt) (List.range (t - ki)) := by
  obtain ⟨d, hd⟩ : ∃ d, t = ki + d := ⟨t - ki, by omega⟩
  have e0 : lsum (fun c => bet nu w ki t c * x c) (List.range t) = lsum (fun j => x (ki + j) * (nu (w * 4 + (ki + j))).toInt) (List.range (t - ki)) := by
    have er : List.range t = List.range (ki + d) := by rw [hd]
    rw [er, lsum_add, show t - ki = d by omega]
    have e1 : lsum (fun c => bet nu w ki t c * x c) (List.range ki) = 0 := lsum_z (fun c hc => by
      unfold bet
      rw [if_pos (List.mem_range.mp hc), Int.zero_mul])
    have e2 : lsum (fun j => bet nu w ki t (ki + j) * x (ki + j)) (List.range d) = lsum (fun j => x (ki + j) * (nu (w * 4 + (ki + j))).toInt) (List.range d) := lsum_congr (fun c hc => by
      have := List.mem_range.mp hc
      unfold bet
      rw [if_neg (by omega), if_pos (by omega), Int.mul_comm])
    rw [e1, e2, Int.zero_add]
  unfold dot
  rcases hn with e | e
  · rw [e, e0, hz e, Int.zero_add]
  · rw [e, lsum_range, e0]
    have e4 : bet nu w ki t t = 1 := by
      unfold bet
      rw [if_neg (by omega), if_neg (by omega)]
    rw [e4, Int.one_mul, Int.add_comm]
end BACK
