/-! THE REFERENCE'S BOUNDS -/
section MB
theorem bnI_at (nu : Nat → Int32) (ni w b : Nat) : ∀ (n k : Nat) (f : Nat → Int64) (j : Nat), bnI nu ni w b k n f j = if b * 5 + k ≤ j ∧ j < b * 5 + k + n then bnV nu ni w (j - b * 5) else f j
  | 0, k, f, j => by rw [if_neg (by omega)]; rfl
  | n + 1, k, f, j => by
    rw [bnI, bnI_at nu ni w b n (k + 1)]
    by_cases e : j = b * 5 + k
    · subst e
      rw [if_neg (by omega), if_pos (by omega), pk_uLs, show b * 5 + k - b * 5 = k by omega]
    · rw [pk_uLn e]
      by_cases h : b * 5 + k ≤ j ∧ j < b * 5 + k + (n + 1)
      · rw [if_pos (by omega), if_pos h]
      · rw [if_neg (by omega), if_neg h]
theorem bxI_at (t i b : Nat) : ∀ (n k : Nat) (f : Nat → Int64) (j : Nat), bxI t i b k n f j = if b * 5 + k ≤ j ∧ j < b * 5 + k + n then bxV t i (j - b * 5) else f j
  | 0, k, f, j => by rw [if_neg (by omega)]; rfl
  | n + 1, k, f, j => by
    rw [bxI, bxI_at t i b n (k + 1)]
    by_cases e : j = b * 5 + k
    · subst e
      rw [if_neg (by omega), if_pos (by omega), pk_uLs, show b * 5 + k - b * 5 = k by omega]
    · rw [pk_uLn e]
      by_cases h : b * 5 + k ≤ j ∧ j < b * 5 + k + (n + 1)
      · rw [if_pos (by omega), if_pos h]
      · rw [if_neg (by omega), if_neg h]
theorem bnR_at {nu : Nat → Int32} {ni t wd w b : Nat} {f : Nat → Int64} (ht : t ≤ 4) : (∀ k, k < t → bnR nu ni t wd w b f (b * 5 + k) = bnV nu ni w k) ∧ (t < wd → bnR nu ni t wd w b f (b * 5 + t) = -1) ∧ ∀ r k, r ≠ b → k < 5 → bnR nu ni t wd w b f (r * 5 + k) = f (r * 5 + k) := by
  unfold bnR
  by_cases h : t < wd
  · rw [if_pos h]
    refine ⟨fun k hk => ?_, fun _ => pk_uLs, fun r k hr hk => ?_⟩
    · rw [pk_uLn (by omega), bnI_at, if_pos (by omega), show b * 5 + k - b * 5 = k by omega]
    · rw [pk_uLn (by omega), bnI_at, if_neg (by omega)]
  · rw [if_neg h]
    refine ⟨fun k hk => ?_, fun q => absurd q h, fun r k hr hk => ?_⟩
    · rw [bnI_at, if_pos (by omega), show b * 5 + k - b * 5 = k by omega]
    · rw [bnI_at, if_neg (by omega)]
def wkRow (nu : Nat → Int32) (ni t wd w : Nat) (f : Nat → Int64) (r : Nat) : Prop := (∀ k, k < t → f (r * 5 + k) = bnV nu ni w k) ∧ (t < wd → f (r * 5 + t) = -1)
theorem bnO_rows {nu am : Nat → Int32} {ni t wd : Nat} (ht : t ≤ 4) : ∀ (n w : Nat) (q : (Nat → Int64) × Nat), q.2 ≤ (bnO nu am ni t wd w n q).2 ∧ (∀ r k, r < q.2 → k < 5 → (bnO nu am ni t wd w n q).1 (r * 5 + k) = q.1 (r * 5 + k)) ∧
    (∀ r, q.2 ≤ r → r < (bnO nu am ni t wd w n q).2 → ∃ w', w ≤ w' ∧ w' < w + n ∧ ¬ am w' = 0 ∧ wkRow nu ni t wd w' (bnO nu am ni t wd w n q).1 r) ∧ (∀ w', w ≤ w' → w' < w + n → ¬ am w' = 0 → ∃ r, q.2 ≤ r ∧ r < (bnO nu am ni t wd w n q).2 ∧ wkRow nu ni t wd w' (bnO nu am ni t wd w n q).1 r)
  | 0, w, q => ⟨Nat.le_refl _, fun r k _ _ => rfl, fun r h1 h2 => absurd h2 (by show ¬ r < q.2; omega), fun w' h1 h2 => by omega⟩
  | n + 1, w, q => by
    rw [bnO]
    by_cases h0 : am w = 0
    · rw [if_pos h0]
      obtain ⟨a1, a2, a3, a4⟩ := bnO_rows (nu := nu) (am := am) (ni := ni) (wd := wd) ht n (w + 1) q
      refine ⟨a1, a2, fun r h1 h2 => ?_, fun w' h1 h2 h3 => ?_⟩
      · obtain ⟨w', b1, b2, b3⟩ := a3 r h1 h2
        exact ⟨w', by omega, by omega, b3⟩
      · by_cases e : w' = w
        · rw [e] at h3; exact absurd h0 h3
        · exact a4 w' (by omega) (by omega) h3
    · rw [if_neg h0]
      obtain ⟨c1, c2, c3⟩ := bnR_at (nu := nu) (ni := ni) (wd := wd) (w := w) (b := q.2) (f := q.1) ht
      obtain ⟨a1, a2, a3, a4⟩ := bnO_rows (nu := nu) (am := am) (ni := ni) (wd := wd) ht n (w + 1) (bnR nu ni t wd w q.2 q.1, q.2 + 1)
      have hrow : wkRow nu ni t wd w (bnO nu am ni t wd (w + 1) n (bnR nu ni t wd w q.2 q.1, q.2 + 1)).1 q.2 := ⟨fun k hk => by rw [a2 q.2 k (by show q.2 < q.2 + 1; omega) (by omega)]; exact c1 k hk, fun h => by rw [a2 q.2 t (by show q.2 < q.2 + 1; omega) (by omega)]; exact c2 h⟩
      have a1 : q.2 + 1 ≤ (bnO nu am ni t wd (w + 1) n (bnR nu ni t wd w q.2 q.1, q.2 + 1)).2 := a1
      refine ⟨by omega, fun r k hr hk => ?_, fun r h1 h2 => ?_, fun w' h1 h2 h3 => ?_⟩
      · rw [a2 r k (by show r < q.2 + 1; omega) hk]
        exact c3 r k (by omega) hk
      · by_cases e : r = q.2
        · rw [e]; exact ⟨w, Nat.le_refl _, by omega, h0, hrow⟩
        · obtain ⟨w', b1, b2, b3⟩ := a3 r (by show q.2 + 1 ≤ r; omega) h2
          exact ⟨w', by omega, by omega, b3⟩
      · by_cases e : w' = w
        · rw [e]; exact ⟨q.2, Nat.le_refl _, by omega, hrow⟩
        · obtain ⟨r, b1, b2, b3⟩ := a4 w' (by omega) (by omega) h3
          have b1 : q.2 + 1 ≤ r := b1
          exact ⟨r, by omega, b2, b3⟩
def axRow (t wd i : Nat) (f : Nat → Int64) (r : Nat) : Prop := ∀ k, k < wd → f (r * 5 + k) = bxV t i k
theorem bxO_rows {t wd : Nat} (hwd : wd ≤ 5) : ∀ (n i : Nat) (q : (Nat → Int64) × Nat), (∀ r k, r < q.2 → k < 5 → (bxO t wd i n q).1 (r * 5 + k) = q.1 (r * 5 + k)) ∧ ∀ j, j < n → axRow t wd (i + j) (bxO t wd i n q).1 (q.2 + j)
  | 0, i, q => ⟨fun r k _ _ => rfl, fun j h => by omega⟩
  | n + 1, i, q => by
    rw [bxO]
    obtain ⟨a1, a2⟩ := bxO_rows (t := t) hwd n (i + 1) (bxI t i q.2 0 wd q.1, q.2 + 1)
    refine ⟨fun r k hr hk => ?_, fun j hj => ?_⟩
    · rw [a1 r k (by show r < q.2 + 1; omega) hk]
      show bxI t i q.2 0 wd q.1 (r * 5 + k) = _
      rw [bxI_at, if_neg (by omega)]
    · cases j with
      | zero =>
        intro k hk
        show (bxO t wd (i + 1) n (bxI t i q.2 0 wd q.1, q.2 + 1)).1 (q.2 * 5 + k) = bxV t i k
        rw [a1 q.2 k (by show q.2 < q.2 + 1; omega) (by omega)]
        show bxI t i q.2 0 wd q.1 (q.2 * 5 + k) = _
        rw [bxI_at, if_pos (by omega), show q.2 * 5 + k - q.2 * 5 = k by omega]
      | succ j =>
        have := a2 j (by omega)
        have this : axRow t wd (i + 1 + j) (bxO t wd (i + 1) n (bxI t i q.2 0 wd q.1, q.2 + 1)).1 (q.2 + 1 + j) := this
        rw [show i + 1 + j = i + (j + 1) by omega, show q.2 + 1 + j = q.2 + (j + 1) by omega] at this
        exact this
/-- bounds of the reference: things, the last one by LEAST, works among those that are -/
def isBm (am : Nat → Int32) (v t mw i : Nat) : Prop := (i < t ∨ (v = 1 ∧ i = t)) ∨ ∃ w, w < mw ∧ ¬ am w = 0 ∧ i = 5 + w
theorem bnF_rows {nu am : Nat → Int32} {ni no mw v : Nat} {bd : Nat → Int64} (h1 : ni + no ≤ 4) (hnu : ∀ w, w < mw → ¬ am w = 0 → ∀ k, k < ni + no → (nu (w * 4 + k)).toInt.natAbs ≤ 10000) :
    (∀ r, r < (bnF nu am ni no mw v bd).2 → ∃ i, isBm am v (ni + no) mw i ∧ ∀ k, k < bnW v (ni + no) → vc (bnF nu am ni no mw v bd).1 r k = bdV nu ni (ni + no) i k) ∧
    (∀ i, isBm am v (ni + no) mw i → ∃ r, r < (bnF nu am ni no mw v bd).2 ∧ ∀ k, k < bnW v (ni + no) → vc (bnF nu am ni no mw v bd).1 r k = bdV nu ni (ni + no) i k) := by
  have hW := bnW_le v (ni + no)
  have hEv : (v = 1 ∧ bnE v = 1) ∨ (¬ v = 1 ∧ bnE v = 0) := by
    unfold bnE
    split
    · left; exact ⟨by assumption, rfl⟩
    · right; exact ⟨by assumption, rfl⟩
  obtain ⟨q, hq⟩ : ∃ q, q = bnO nu am ni (ni + no) (bnW v (ni + no)) 0 mw (bd, 0) := ⟨_, rfl⟩
  obtain ⟨a1, a2, a3, a4⟩ := bnO_rows (nu := nu) (am := am) (ni := ni) (wd := bnW v (ni + no)) h1 mw 0 (bd, 0)
  rw [← hq] at a1 a2 a3 a4
  obtain ⟨c1, c2⟩ := bxO_rows (t := ni + no) (wd := bnW v (ni + no)) (by omega) (ni + no + bnE v) 0 q
  have hF : bnF nu am ni no mw v bd = bxO (ni + no) (bnW v (ni + no)) 0 (ni + no + bnE v) q := by rw [hq]; rfl
  obtain ⟨F, hFe⟩ : ∃ F, F = bnF nu am ni no mw v bd := ⟨_, rfl⟩
  rw [← hF, ← hFe] at c1 c2
  rw [← hFe]
  have hF2 : F.2 = q.2 + (ni + no + bnE v) := by rw [hFe, hF, bxO_eq]
  have hwk : ∀ w r, w < mw → ¬ am w = 0 → r < q.2 → wkRow nu ni (ni + no) (bnW v (ni + no)) w q.1 r → ∀ k, k < bnW v (ni + no) → vc F.1 r k = bdV nu ni (ni + no) (5 + w) k := fun w r hw ha hr hrow k hk => by
    unfold vc bdV
    rw [c1 r k hr (by omega), if_neg (by omega), show 5 + w - 5 = w by omega]
    by_cases hkt : k < ni + no
    · rw [hrow.1 k hkt]
      have hb := hnu w hw ha k hkt
      unfold bnV
      by_cases hki : k < ni
      · rw [if_pos hki, if_pos hki]; exact i32_to64 _
      · rw [if_neg hki, if_neg hki, if_pos hkt, i32_to64, Int32.toInt_neg]
        apply Int.bmod_eq_of_le <;> omega
    · have e : k = ni + no := by omega
      rw [e, hrow.2 (by omega), if_neg (by omega), if_neg (by omega)]
      decide
  have hax : ∀ j, j < ni + no + bnE v → ∀ k, k < bnW v (ni + no) → vc F.1 (q.2 + j) k = bdV nu ni (ni + no) j k := fun j hj k hk => by
    have := c2 j hj k hk
    rw [Nat.zero_add] at this
    unfold vc bdV
    rw [this, if_pos (by omega)]
    unfold bxV
    by_cases e : k = j
    · rw [if_pos e, if_pos e]
      by_cases e2 : j < ni + no
      · rw [if_pos e2, if_pos e2]; rfl
      · rw [if_neg e2, if_neg e2]; decide
    · rw [if_neg e, if_neg e]; rfl
  refine ⟨fun r hr => ?_, fun i hi => ?_⟩
  · by_cases hrq : r < q.2
    · obtain ⟨w, w1, w2, w3, w4⟩ := a3 r (Nat.zero_le _) hrq
      exact ⟨5 + w, Or.inr ⟨w, by omega, w3, rfl⟩, hwk w r (by omega) w3 hrq w4⟩
    · refine ⟨r - q.2, Or.inl (by omega), fun k hk => ?_⟩
      have := hax (r - q.2) (by omega) k hk
      rw [show q.2 + (r - q.2) = r by omega] at this
      exact this
  · rcases hi with z | ⟨w, w1, w2, rfl⟩
    · exact ⟨q.2 + i, by omega, hax i (by omega)⟩
    · obtain ⟨r, r1, r2, r3⟩ := a4 w (Nat.zero_le _) (by omega) w2
      exact ⟨r, by omega, hwk w r w1 w2 r2 r3⟩
end MB
