/-! THE REFERENCE'S LIST: a row is put in its place -/
section MPUT
theorem dfK_iff {sd T : Nat → Int64} {a : Nat} : ∀ (n k : Nat), (∀ l, k ≤ l → l < dfK sd T a k n → sd (a * 5 + l) = T l) ∧ (dfK sd T a k n < k + n → sd (a * 5 + dfK sd T a k n) ≠ T (dfK sd T a k n))
  | 0, k => ⟨fun l h1 h2 => by rw [dfK] at h2; omega, fun h => by rw [dfK] at h; omega⟩
  | n + 1, k => by
    rw [dfK]
    by_cases h : sd (a * 5 + k) = T k
    · rw [if_pos h]
      obtain ⟨a1, a2⟩ := dfK_iff (sd := sd) (T := T) (a := a) n (k + 1)
      refine ⟨fun l h1 h2 => ?_, fun hl => a2 (by omega)⟩
      by_cases e : l = k
      · rw [e]; exact h
      · exact a1 l (by omega) h2
    · rw [if_neg h]
      exact ⟨fun l h1 h2 => by omega, fun _ => h⟩
def tvT (T : Nat → Int64) : Nat → Int := fun k => (T k).toInt
theorem ptP_ok {sd T : Nat → Int64} : ∀ (n a : Nat), (ptP sd T a n = none → ∃ i, a ≤ i ∧ i < a + n ∧ ∀ k, k < 5 → sd (i * 5 + k) = T k) ∧ (∀ p, ptP sd T a n = some p → (∀ j, a ≤ j → j < p → lexV 4 (vc sd j) (tvT T)) ∧ (p < a + n → lexV 4 (tvT T) (vc sd p)))
  | 0, a => ⟨fun h => (by cases h), fun p h => by
      have h : some a = some p := h
      cases h
      exact ⟨fun j h1 h2 => by omega, fun h => by omega⟩⟩
  | n + 1, a => by
    obtain ⟨a1, a2⟩ := ptP_ok (sd := sd) (T := T) n (a + 1)
    obtain ⟨d, hd⟩ : ∃ d, d = dfK sd T a 0 5 := ⟨_, rfl⟩
    have hle := dfK_le sd T a 5 0
    have hdf := dfK_iff (sd := sd) (T := T) (a := a) 5 0
    rw [ptP]
    rw [← hd] at hle hdf ⊢
    by_cases h5 : d = 5
    · rw [if_pos h5]
      refine ⟨fun _ => ⟨a, Nat.le_refl _, by omega, fun k hk => hdf.1 k (Nat.zero_le _) (by omega)⟩, fun p h => (by cases h)⟩
    · rw [if_neg h5]
      have hne := hdf.2 (by omega)
      have heq : ∀ l, l < d → (sd (a * 5 + l)).toInt = (T l).toInt := fun l hl => by rw [hdf.1 l (Nat.zero_le _) hl]
      by_cases hlt : sd (a * 5 + d) < T d
      · rw [if_pos hlt]
        refine ⟨fun h => (by cases h), fun p h => ?_⟩
        cases h
        refine ⟨fun j h1 h2 => by omega, fun _ => ⟨d, by omega, fun l hl => (heq l hl).symm, ?_⟩⟩
        rw [i64_lt] at hlt
        exact hlt
      · rw [if_neg hlt]
        have hlex : lexV 4 (vc sd a) (tvT T) := by
          refine ⟨d, by omega, fun l hl => heq l hl, ?_⟩
          rw [i64_lt] at hlt
          have h1 := mt (i64_eq _ _).mpr hne
          show (T d).toInt < (sd (a * 5 + d)).toInt
          omega
        refine ⟨fun h => ?_, fun p h => ?_⟩
        · obtain ⟨i, i1, i2, i3⟩ := a1 h
          exact ⟨i, by omega, by omega, i3⟩
        · obtain ⟨b1, b2⟩ := a2 p h
          have hp := ptP_le sd T n (a + 1) p h
          refine ⟨fun j h1 h2 => ?_, fun hpn => b2 (by omega)⟩
          by_cases e : j = a
          · rw [e]; exact hlex
          · exact b1 j (by omega) h2
theorem shU_at (a : Nat) : ∀ (n : Nat) (f : Nat → Int64) (j : Nat), shU a n f j = if a + 5 ≤ j ∧ j < a + 5 + n then f (j - 5) else f j
  | 0, f, j => by rw [if_neg (by omega)]; rfl
  | n + 1, f, j => by
    rw [shU, shU_at a n]
    by_cases h : a + 5 ≤ j ∧ j < a + 5 + n
    · rw [if_pos h, if_pos (by omega), pk_uLn (by omega)]
    · rw [if_neg h]
      by_cases e : j = a + n + 5
      · subst e
        rw [pk_uLs, if_pos (by omega), show a + n + 5 - 5 = a + n by omega]
      · rw [pk_uLn e, if_neg (by omega)]
theorem flS_at (a : Nat) (T : Nat → Int64) : ∀ (n k : Nat) (f : Nat → Int64) (j : Nat), flS a T k n f j = if a * 5 + k ≤ j ∧ j < a * 5 + k + n then T (j - a * 5) else f j
  | 0, k, f, j => by rw [if_neg (by omega)]; rfl
  | n + 1, k, f, j => by
    rw [flS, flS_at a T n (k + 1)]
    by_cases e : j = a * 5 + k
    · subst e
      rw [if_neg (by omega), if_pos (by omega), pk_uLs, show a * 5 + k - a * 5 = k by omega]
    · rw [pk_uLn e]
      by_cases h : a * 5 + k ≤ j ∧ j < a * 5 + k + (n + 1)
      · rw [if_pos (by omega), if_pos h]
      · rw [if_neg (by omega), if_neg h]
/-- after a row was put: sorted, the old rows and that one -/
theorem putF_ok {T : Nat → Int64} {sd : Nat → Int64} {ns : Nat} (hS : srtS 4 ns sd) : srtS 4 (putF T (sd, ns)).2 (putF T (sd, ns)).1 ∧ (∀ i, i < (putF T (sd, ns)).2 → (∃ j, j < ns ∧ ∀ k, k < 5 → vc (putF T (sd, ns)).1 i k = vc sd j k) ∨ ∀ k, k < 5 → vc (putF T (sd, ns)).1 i k = tvT T k) ∧
    (∀ j, j < ns → ∃ i, i < (putF T (sd, ns)).2 ∧ ∀ k, k < 5 → vc (putF T (sd, ns)).1 i k = vc sd j k) ∧ ∃ i, i < (putF T (sd, ns)).2 ∧ ∀ k, k < 5 → vc (putF T (sd, ns)).1 i k = tvT T k := by
  obtain ⟨h1, h2⟩ := ptP_ok (sd := sd) (T := T) ns 0
  cases hp : ptP sd T 0 ns with
  | none =>
    rw [putF_none hp]
    obtain ⟨i, -, i2, i3⟩ := h1 hp
    refine ⟨hS, fun i hi => Or.inl ⟨i, hi, fun _ _ => rfl⟩, fun j hj => ⟨j, hj, fun _ _ => rfl⟩, i, by show i < ns; omega, fun k hk => ?_⟩
    show (sd (i * 5 + k)).toInt = (T k).toInt
    rw [i3 k hk]
  | some a =>
    rw [putF_some hp]
    obtain ⟨b1, b2⟩ := h2 a hp
    have ha := ptP_le sd T ns 0 a hp
    have hrow : ∀ i k, k < 5 → i < ns + 1 → flS a T 0 5 (shU (a * 5) (ns * 5 - a * 5) sd) (i * 5 + k) = if i < a then sd (i * 5 + k) else if i = a then T k else sd ((i - 1) * 5 + k) := fun i k hk hi => by
      rw [flS_at]
      by_cases e1 : i < a
      · rw [if_neg (by omega), if_pos e1, shU_at, if_neg (by omega)]
      · rw [if_neg e1]
        by_cases e2 : i = a
        · rw [if_pos e2, if_pos (by omega), show i * 5 + k - a * 5 = k by omega]
        · rw [if_neg e2, if_neg (by omega), shU_at, if_pos (by omega), show i * 5 + k - 5 = (i - 1) * 5 + k by omega]
    obtain ⟨F, hF⟩ : ∃ F, F = flS a T 0 5 (shU (a * 5) (ns * 5 - a * 5) sd) := ⟨_, rfl⟩
    rw [← hF] at hrow ⊢
    have hv : ∀ i k, k < 5 → i < ns + 1 → vc F i k = if i < a then vc sd i k else if i = a then tvT T k else vc sd (i - 1) k := fun i k hk hi => by
      unfold vc
      rw [hrow i k hk hi]
      split
      · rfl
      · split <;> rfl
    have hlt : ∀ i, i < a → i < ns + 1 → ∀ k, k ≤ 4 → vc F i k = vc sd i k := fun i hi hn k hk => by rw [hv i k (by omega) hn, if_pos hi]
    have heq : ∀ k, k ≤ 4 → vc F a k = tvT T k := fun k hk => by rw [hv a k (by omega) (by omega), if_neg (by omega), if_pos rfl]
    have hgt : ∀ i, a < i → i < ns + 1 → ∀ k, k ≤ 4 → vc F i k = vc sd (i - 1) k := fun i hi hn k hk => by rw [hv i k (by omega) hn, if_neg (by omega), if_neg (by omega)]
    refine ⟨fun i j hij hj => ?_, fun i hi => ?_, fun j hj => ?_, a, by show a < ns + 1; omega, fun k hk => heq k (by omega)⟩
    · have hj : j < ns + 1 := hj
      show lexV 4 (vc F i) (vc F j)
      rcases Nat.lt_trichotomy i a with e1 | e1 | e1
      · rcases Nat.lt_trichotomy j a with e2 | e2 | e2
        · exact lexV_cg (fun k hk => (hlt i e1 (by omega) k hk).symm) (fun k hk => (hlt j e2 hj k hk).symm) (hS i j hij (by omega))
        · rw [e2]; exact lexV_cg (fun k hk => (hlt i e1 (by omega) k hk).symm) (fun k hk => (heq k hk).symm) (b1 i (Nat.zero_le _) e1)
        · exact lexV_cg (fun k hk => (hlt i e1 (by omega) k hk).symm) (fun k hk => (hgt j e2 hj k hk).symm) (hS i (j - 1) (by omega) (by omega))
      · rw [e1]
        refine lexV_cg (fun k hk => (heq k hk).symm) (fun k hk => (hgt j (by omega) hj k hk).symm) ?_
        by_cases e3 : j - 1 = a
        · rw [e3]; exact b2 (by omega)
        · exact lexV_trans (b2 (by omega)) (hS a (j - 1) (by omega) (by omega))
      · exact lexV_cg (fun k hk => (hgt i e1 (by omega) k hk).symm) (fun k hk => (hgt j (by omega) hj k hk).symm) (hS (i - 1) (j - 1) (by omega) (by omega))
    · have hi : i < ns + 1 := hi
      show (∃ j, j < ns ∧ ∀ k, k < 5 → vc F i k = vc sd j k) ∨ ∀ k, k < 5 → vc F i k = tvT T k
      rcases Nat.lt_trichotomy i a with e1 | e1 | e1
      · exact Or.inl ⟨i, by omega, fun k hk => hlt i e1 hi k (by omega)⟩
      · rw [e1]; exact Or.inr (fun k hk => heq k (by omega))
      · exact Or.inl ⟨i - 1, by omega, fun k hk => hgt i e1 hi k (by omega)⟩
    · by_cases e1 : j < a
      · exact ⟨j, by show j < ns + 1; omega, fun k hk => hlt j e1 (by omega) k (by omega)⟩
      · refine ⟨j + 1, by show j + 1 < ns + 1; omega, fun k hk => ?_⟩
        have := hgt (j + 1) (by omega) (by omega) k (by omega)
        rw [Nat.add_sub_cancel] at this
        exact this
end MPUT
