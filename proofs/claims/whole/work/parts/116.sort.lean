/-! IN ORDER -/
section SORT
/-- a row stands before another: it has the greater number where they first differ -/
def lexV (t : Nat) (x y : Nat → Int) : Prop := ∃ k, k ≤ t ∧ (∀ l, l < k → x l = y l) ∧ y k < x k
theorem lexV_trans {t : Nat} {x y z : Nat → Int} (h1 : lexV t x y) (h2 : lexV t y z) : lexV t x z := by
  obtain ⟨k, hk, e1, l1⟩ := h1
  obtain ⟨m, hm, e2, l2⟩ := h2
  rcases Nat.lt_trichotomy k m with h | h | h
  · exact ⟨k, hk, fun l hl => (e1 l hl).trans (e2 l (by omega)), by rw [← e2 k h]; exact l1⟩
  · subst h; exact ⟨k, hk, fun l hl => (e1 l hl).trans (e2 l hl), by omega⟩
  · exact ⟨m, hm, fun l hl => (e1 l (by omega)).trans (e2 l hl), by rw [e1 m h]; exact l2⟩
theorem lexV_irr {t : Nat} {x : Nat → Int} (h : lexV t x x) : False := by
  obtain ⟨k, -, -, l⟩ := h
  omega
theorem lexV_cg {t : Nat} {x x' y y' : Nat → Int} (h1 : ∀ k, k ≤ t → x k = x' k) (h2 : ∀ k, k ≤ t → y k = y' k) (h : lexV t x y) : lexV t x' y' := by
  obtain ⟨k, hk, e, l⟩ := h
  exact ⟨k, hk, fun l hl => by rw [← h1 l (by omega), ← h2 l (by omega)]; exact e l hl, by rw [← h1 k hk, ← h2 k hk]; exact l⟩
theorem lexV_tot {t : Nat} {x y : Nat → Int} (h : ∃ k, k ≤ t ∧ x k ≠ y k) : lexV t x y ∨ lexV t y x := by
  have key : ∀ m, m ≤ t + 1 → (∀ l, l < m → x l = y l) ∨ (lexV t x y ∨ lexV t y x) := by
    intro m
    induction m with
    | zero => intro _; left; intro l hl; omega
    | succ m ih =>
      intro hm
      rcases ih (by omega) with q | q
      · rcases Int.lt_trichotomy (x m) (y m) with z | z | z
        · exact Or.inr (Or.inr ⟨m, by omega, fun l hl => (q l hl).symm, z⟩)
        · left
          intro l hl
          by_cases e : l = m
          · rw [e]; exact z
          · exact q l (by omega)
        · exact Or.inr (Or.inl ⟨m, by omega, q, z⟩)
      · exact Or.inr q
  rcases key (t + 1) (Nat.le_refl _) with q | q
  · obtain ⟨k, hk, h0⟩ := h
    exact absurd (q k (by omega)) h0
  · exact q
theorem befB_iff {ray : Nat → Int64} {a c t : Nat} (ha : ∀ k, k ≤ t → (ray (a + k)).toInt.natAbs ≤ 1000000000) (hc : ∀ k, k ≤ t → (ray (c + k)).toInt.natAbs ≤ 1000000000) : ∀ (n i : Nat), i + n = t + 1 → (befB ray a c i n = true ↔ ∃ k, i ≤ k ∧ k ≤ t ∧ (∀ l, i ≤ l → l < k → (ray (a + l)).toInt = (ray (c + l)).toInt) ∧ (ray (c + k)).toInt < (ray (a + k)).toInt)
  | 0, i, hi => ⟨fun q => (by cases q), fun ⟨k, h1, h2, _⟩ => by omega⟩
  | n + 1, i, hi => by
    have b1 := ha i (by omega)
    have b2 := hc i (by omega)
    have hd : (ray (a + i) - ray (c + i)).toInt = (ray (a + i)).toInt - (ray (c + i)).toInt := i64_sub rfl rfl (by omega) (by omega)
    rw [befB]
    by_cases h0 : ray (a + i) - ray (c + i) = 0
    · rw [if_pos h0, befB_iff ha hc n (i + 1) (by omega)]
      rw [i64_eq, hd] at h0
      have h0 : (ray (a + i)).toInt - (ray (c + i)).toInt = 0 := h0
      constructor
      · rintro ⟨k, h1, h2, h3, h4⟩
        refine ⟨k, by omega, h2, fun l l1 l2 => ?_, h4⟩
        by_cases e : l = i
        · rw [e]; omega
        · exact h3 l (by omega) l2
      · rintro ⟨k, h1, h2, h3, h4⟩
        have hk : k ≠ i := fun e => by rw [e] at h4; omega
        exact ⟨k, by omega, h2, fun l l1 l2 => h3 l (by omega) l2, h4⟩
    · rw [if_neg h0, decide_eq_true_eq, i64_lt, hd]
      rw [i64_eq, hd] at h0
      have h0 : ¬ (ray (a + i)).toInt - (ray (c + i)).toInt = 0 := h0
      show (0 : Int) < (ray (a + i)).toInt - (ray (c + i)).toInt ↔ _
      constructor
      · intro q
        exact ⟨i, Nat.le_refl _, by omega, fun l l1 l2 => by omega, by omega⟩
      · rintro ⟨k, h1, h2, h3, h4⟩
        by_cases e : k = i
        · rw [e] at h4; omega
        · have := h3 i (Nat.le_refl _) (by omega)
          omega
/-- rows in another order -/
theorem DDI_perm {t n : Nat} {b : Nat → Nat → Int} {I : List Nat} {m : Nat} {r r' : Nat → Int64} {g g' : Nat → Int32} (hn : n ≤ t + 1) (σ : Nat → Nat) (h1 : ∀ i, i < m → σ i < m) (h2 : ∀ i, i < m → σ (σ i) = i) (h3 : ∀ i, i < m → (∀ k, k ≤ t → r' (i * 5 + k) = r (σ i * 5 + k)) ∧ g' i = g (σ i)) (hD : DDI t n b I (m, r, g)) : DDI t n b I (m, r', g') := by
  obtain ⟨d1, d2, d3, d4, d5⟩ := hD
  have hv : ∀ i, i < m → ∀ k ∈ List.range n, vc r' i k = vc r (σ i) k := fun i hi k hk => by
    unfold vc
    rw [(h3 i hi).1 k (by have := List.mem_range.mp hk; omega)]
  refine ⟨fun i hi => ?_, fun i hi j hj => ?_, fun i hi j hj hne => ?_, fun x hx => ?_, fun e i hi => ?_⟩
  · have := d1 (σ i) (h1 i hi)
    refine ⟨ext_scale (g := 1) (by decide) (fun k hk => by rw [Int.one_mul]; exact (hv i hi k hk).symm) this.1, ?_⟩
    rw [← this.2]
    exact gl_congr (fun k hk => by rw [hv i hi k hk])
  · show bt (g' i) j = true ↔ _
    rw [(h3 i hi).2, d2 (σ i) (h1 i hi) j hj]
    have : dot (List.range n) (b j) (vc r' i) = dot (List.range n) (b j) (vc r (σ i)) := dot_congr (fun _ _ => rfl) (hv i hi)
    show _ ↔ (j ∈ I ∧ dot (List.range n) (b j) (vc r' i) = 0)
    rw [this]
  · intro q
    refine d3 (σ i) (h1 i hi) (σ j) (h1 j hj) (fun e => hne ?_) (par2_cg (hv i hi) (hv j hj) q)
    have := congrArg σ e
    rw [h2 i hi, h2 j hj] at this
    exact this
  · obtain ⟨i, hi, hp⟩ := d4 x hx
    refine ⟨σ i, h1 i hi, par2_cg (fun k hk => ?_) (fun _ _ => rfl) hp⟩
    have := hv (σ i) (h1 i hi) k hk
    rw [h2 i hi] at this
    exact this.symm
  · show r' (i * 5 + t) = 0
    rw [(h3 i hi).1 t (Nat.le_refl _)]
    exact d5 e (σ i) (h1 i hi)
def swp (a c i : Nat) : Nat := if i = a then c else if i = c then a else i
theorem swL_rows {ray : Nat → Int64} {a c t i k : Nat} (hac : a ≠ c) (ht : t ≤ 4) (hk : k ≤ t) : swL ray (a * 5) (c * 5) (t + 1) (i * 5 + k) = ray (swp a c i * 5 + k) := by
  unfold swL swp
  by_cases h1 : i = a
  · rw [if_pos (by omega), if_pos h1, show c * 5 + (i * 5 + k - a * 5) = c * 5 + k by omega]
  · rw [if_neg (by omega), if_neg h1]
    by_cases h2 : i = c
    · rw [if_pos (by omega), if_pos h2, show a * 5 + (i * 5 + k - c * 5) = a * 5 + k by omega]
    · rw [if_neg (by omega), if_neg h2]
theorem swT_rows {tg : Nat → Int32} {a c i : Nat} : swT tg a c i = tg (swp a c i) := by
  unfold swT swp upd
  by_cases h1 : i = a
  · by_cases h2 : i = c
    · rw [if_pos h2, if_pos h1, ← h1, h2]
    · rw [if_neg h2, if_pos h1, if_pos h1]
  · by_cases h2 : i = c
    · rw [if_pos h2, if_neg h1, if_pos h2]
    · rw [if_neg h2, if_neg h1, if_neg h1, if_neg h2]
/-- what the sort keeps, and where it comes to: sorted but for the row at r, which stands before those behind it -/
def srtP (t r m : Nat) (ray : Nat → Int64) : Prop := (∀ i j, i < j → j < m → i ≠ r → j ≠ r → lexV t (vc ray i) (vc ray j)) ∧ ∀ j, r < j → j < m → lexV t (vc ray r) (vc ray j)
def srtS (t m : Nat) (ray : Nat → Int64) : Prop := ∀ i j, i < j → j < m → lexV t (vc ray i) (vc ray j)
def okR (t m : Nat) (ray : Nat → Int64) : Prop := (∀ i, i < m → ∀ k, k ≤ t → (vc ray i k).natAbs ≤ 1000000000) ∧ ∀ i, i < m → ∀ j, j < m → i ≠ j → ∃ k, k ≤ t ∧ vc ray i k ≠ vc ray j k
theorem swp_lt {a c m i : Nat} (ha : a < m) (hc : c < m) (hi : i < m) : swp a c i < m := by
  unfold swp
  split
  · exact hc
  · split
    · exact ha
    · exact hi
theorem swp_swp {a c i : Nat} : swp a c (swp a c i) = i := by
  unfold swp
  by_cases h1 : i = a
  · rw [if_pos h1]
    by_cases h2 : c = a
    · rw [if_pos h2, h2, h1]
    · rw [if_neg h2, if_pos rfl, h1]
  · rw [if_neg h1]
    by_cases h2 : i = c
    · rw [if_pos h2, if_pos rfl, h2]
    · rw [if_neg h2, if_neg h1, if_neg h2]
theorem srI_ok {t n N : Nat} {b : Nat → Nat → Int} {I : List Nat} (ht : t ≤ 4) (hn : n ≤ t + 1) : ∀ (r m : Nat) (st : (Nat → Int64) × (Nat → Int32)), r < m → m ≤ N → okR t N st.1 → srtP t r m st.1 → DDI t n b I (N, st) → okR t N (srI t r st).1 ∧ srtS t m (srI t r st).1 ∧ DDI t n b I (N, srI t r st) ∧ ∀ i, m ≤ i → sameR t (srI t r st).1 st.1 i i
  | 0, m, st, h1, h2, hok, hP, hD => by
    refine ⟨hok, fun i j hij hj => ?_, hD, fun i _ => fun k _ => rfl⟩
    by_cases e : i = 0
    · rw [e]; exact hP.2 j (by omega) hj
    · exact hP.1 i j hij hj e (by omega)
  | r + 1, m, st, h1, h2, hok, hP, hD => by
    rw [srI]
    have hbef : befB st.1 ((r + 1) * 5) (r * 5) 0 (t + 1) = true ↔ lexV t (vc st.1 (r + 1)) (vc st.1 r) := by
      rw [befB_iff (fun k hk => hok.1 (r + 1) (by omega) k hk) (fun k hk => hok.1 r (by omega) k hk) (t + 1) 0 (by omega)]
      constructor
      · rintro ⟨k, -, a, c, d⟩; exact ⟨k, a, fun l hl => c l (Nat.zero_le _) hl, d⟩
      · rintro ⟨k, a, c, d⟩; exact ⟨k, Nat.zero_le _, a, fun l _ hl => c l hl, d⟩
    by_cases hb : befB st.1 ((r + 1) * 5) (r * 5) 0 (t + 1) = true
    · rw [if_pos hb]
      have hv : ∀ i k, k ≤ t → vc (swL st.1 ((r + 1) * 5) (r * 5) (t + 1)) i k = vc st.1 (swp (r + 1) r i) k := fun i k hk => by
        unfold vc
        rw [swL_rows (by omega) ht hk]
      have hlex := hbef.mp hb
      have ih := srI_ok (b := b) (I := I) ht hn r m (swL st.1 ((r + 1) * 5) (r * 5) (t + 1), swT st.2 (r + 1) r) (by omega) h2 ⟨fun i hi k hk => by
          show (vc (swL st.1 ((r + 1) * 5) (r * 5) (t + 1)) i k).natAbs ≤ _
          rw [hv i k hk]; exact hok.1 _ (swp_lt (by omega) (by omega) hi) k hk, fun i hi j hj hne => by
          obtain ⟨k, hk, h0⟩ := hok.2 (swp (r + 1) r i) (swp_lt (by omega) (by omega) hi) (swp (r + 1) r j) (swp_lt (by omega) (by omega) hj) (fun e => hne (by have := congrArg (swp (r + 1) r) e; rw [swp_swp, swp_swp] at this; exact this))
          exact ⟨k, hk, by show vc (swL st.1 ((r + 1) * 5) (r * 5) (t + 1)) i k ≠ vc (swL st.1 ((r + 1) * 5) (r * 5) (t + 1)) j k; rw [hv i k hk, hv j k hk]; exact h0⟩⟩ ⟨fun i j hij hj hi0 hj0 => by
          refine lexV_cg (fun k hk => (hv i k hk).symm) (fun k hk => (hv j k hk).symm) ?_
          have ei : swp (r + 1) r i = if i = r + 1 then r else i := by
            unfold swp
            split
            · rfl
            · first | rfl | rw [if_neg hi0]
          have ej : swp (r + 1) r j = if j = r + 1 then r else j := by
            unfold swp
            split
            · rfl
            · first | rfl | rw [if_neg hj0]
          rw [ei, ej]
          by_cases e1 : i = r + 1
          · rw [if_pos e1, if_neg (by omega)]; exact hP.1 r j (by omega) hj (by omega) (by omega)
          · rw [if_neg e1]
            by_cases e2 : j = r + 1
            · rw [if_pos e2]; exact hP.1 i r (by omega) (by omega) e1 (by omega)
            · rw [if_neg e2]; exact hP.1 i j hij hj e1 e2, fun j hrj hj => by
          refine lexV_cg (fun k hk => (hv r k hk).symm) (fun k hk => (hv j k hk).symm) ?_
          have er : swp (r + 1) r r = r + 1 := by
            unfold swp
            rw [if_neg (by omega), if_pos rfl]
          rw [er]
          by_cases e2 : j = r + 1
          · rw [e2, show swp (r + 1) r (r + 1) = r from if_pos rfl]; exact hlex
          · rw [show swp (r + 1) r j = j by unfold swp; rw [if_neg e2, if_neg (by omega)]]
            exact hP.2 j (by omega) hj⟩ (DDI_perm hn (swp (r + 1) r) (fun i hi => swp_lt (by omega) (by omega) hi) (fun i _ => swp_swp) (fun i _ => ⟨fun k hk => swL_rows (by omega) ht hk, swT_rows⟩) hD)
      refine ⟨ih.1, ih.2.1, ih.2.2.1, fun i hi k hk => (ih.2.2.2 i hi k hk).trans ?_⟩
      show swL st.1 ((r + 1) * 5) (r * 5) (t + 1) (i * 5 + k) = _
      rw [swL_rows (by omega) ht hk, show swp (r + 1) r i = i by unfold swp; rw [if_neg (by omega), if_neg (by omega)]]
    · rw [if_neg hb]
      have hnl := mt hbef.mpr hb
      have hrr : lexV t (vc st.1 r) (vc st.1 (r + 1)) := by
        obtain ⟨k, hk, h0⟩ := hok.2 (r + 1) (by omega) r (by omega) (by omega)
        exact (lexV_tot ⟨k, hk, h0⟩).elim (fun q => absurd q hnl) id
      refine ⟨hok, fun i j hij hj => ?_, hD, fun i _ => fun k _ => rfl⟩
      by_cases e1 : i = r + 1
      · rw [e1]; exact hP.2 j (by omega) hj
      · by_cases e2 : j = r + 1
        · rw [e2]
          by_cases e3 : i = r
          · rw [e3]; exact hrr
          · exact lexV_trans (hP.1 i r (by omega) (by omega) e1 (by omega)) hrr
        · exact hP.1 i j hij hj e1 e2
theorem srO_ok {t n N : Nat} {b : Nat → Nat → Int} {I : List Nat} (ht : t ≤ 4) (hn : n ≤ t + 1) : ∀ (m i : Nat) (st : (Nat → Int64) × (Nat → Int32)), i + m = N → okR t N st.1 → srtS t i st.1 → DDI t n b I (N, st) → okR t N (srO t i m st).1 ∧ srtS t N (srO t i m st).1 ∧ DDI t n b I (N, srO t i m st)
  | 0, i, st, h, hok, hS, hD => by
    have e : i = N := by omega
    subst e
    exact ⟨hok, hS, hD⟩
  | m + 1, i, st, h, hok, hS, hD => by
    rw [srO]
    obtain ⟨a1, a2, a3, -⟩ := srI_ok (b := b) (I := I) ht hn i (i + 1) st (by omega) (by omega) hok ⟨fun x y hxy hy hx0 hy0 => hS x y hxy (by omega), fun j h1 h2 => by omega⟩ hD
    exact srO_ok ht hn m (i + 1) _ (by omega) a1 a2 a3
end SORT
