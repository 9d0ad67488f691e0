/-! ANSWERS ALIKE: cost, span -/
section ANSC
theorem shI_at {w ri : Nat} (hri : 1 ≤ ri) : ∀ (n k : Nat) (nu : Nat → Int32) (j : Nat), shI w ri k n nu j = if w * 4 + 1 + k ≤ j ∧ j < w * 4 + 1 + k + n then nu (j - 1 + ri) else nu j
  | 0, k, nu, j => by rw [if_neg (by omega)]; rfl
  | n + 1, k, nu, j => by
    rw [shI, shI_at hri n (k + 1)]
    by_cases h : w * 4 + 1 + (k + 1) ≤ j ∧ j < w * 4 + 1 + (k + 1) + n
    · rw [if_pos h, if_pos (show w * 4 + 1 + k ≤ j ∧ j < w * 4 + 1 + k + (n + 1) by omega), upd_ne (by omega)]
    · rw [if_neg h]
      by_cases e : j = w * 4 + 1 + k
      · rw [if_pos (show w * 4 + 1 + k ≤ j ∧ j < w * 4 + 1 + k + (n + 1) by omega), e, upd_at, show w * 4 + (ri + k) = w * 4 + 1 + k - 1 + ri by omega]
      · rw [upd_ne e, if_neg (show ¬ (w * 4 + 1 + k ≤ j ∧ j < w * 4 + 1 + k + (n + 1)) by omega)]
theorem prR_at {nu : Nat → Int32} {ri ro : Nat} {p q : Int32} {w : Nat} (hri : 1 ≤ ri) (j : Nat) : prR nu ri ro p q w j = if j = w * 4 then prV nu ri p q w else if w * 4 + 1 ≤ j ∧ j < w * 4 + 1 + ro then nu (j - 1 + ri) else nu j := by
  unfold prR
  by_cases e : j = w * 4
  · rw [if_pos e, e, upd_at]
  · rw [if_neg e, upd_ne e, shI_at hri, show w * 4 + 1 + 0 = w * 4 + 1 by omega]
theorem prN_lo {ri ro : Nat} {p q : Int32} (hri : 1 ≤ ri) : ∀ (n w : Nat) (nu : Nat → Int32) (j : Nat), j < w * 4 → prN ri ro p q w n nu j = nu j
  | 0, _, _, _, _ => rfl
  | n + 1, w, nu, j, h => by rw [prN, prN_lo hri n (w + 1) _ j (by omega), prR_at hri, if_neg (by omega), if_neg (by omega)]
theorem prN_at {ri ro : Nat} {p q : Int32} (hri : 1 ≤ ri) (hr4 : ri + ro ≤ 4) : ∀ (n w0 : Nat) (nu : Nat → Int32) (w k : Nat), w0 ≤ w → w < w0 + n → k < 1 + ro → prN ri ro p q w0 n nu (w * 4 + k) = if k = 0 then prV nu ri p q w else nu (w * 4 + (ri + (k - 1)))
  | 0, _, _, _, _, h1, h2, _ => absurd h2 (by omega)
  | n + 1, w0, nu, w, k, h1, h2, hk => by
    rw [prN]
    by_cases e : w = w0
    · rw [prN_lo hri n (w0 + 1) _ _ (by omega), prR_at hri, e]
      by_cases c : k = 0
      · rw [if_pos (by omega), if_pos c]
      · rw [if_neg (by omega), if_pos (by omega), if_neg c, show w0 * 4 + k - 1 + ri = w0 * 4 + (ri + (k - 1)) by omega]
    · rw [prN_at hri hr4 n (w0 + 1) _ w k (by omega) (by omega) hk]
      have hk' : ∀ j, j < 4 → prR nu ri ro p q w0 (w * 4 + j) = nu (w * 4 + j) := fun j hj => by rw [prR_at hri, if_neg (by omega), if_neg (by omega)]
      by_cases c : k = 0
      · rw [if_pos c, if_pos c]
        unfold prV
        have a0 := hk' 0 (by omega)
        rw [Nat.add_zero] at a0
        rw [a0, hk' 1 (by omega)]
      · rw [if_neg c, if_neg c, hk' _ (by omega)]
theorem prV_int {nu : Nat → Int32} {ri : Nat} {p q : Int32} {w : Nat} (hp : 0 ≤ p.toInt ∧ p.toInt ≤ 30) (hq : ri = 2 → 0 ≤ q.toInt ∧ q.toInt ≤ 30) (hr : 1 ≤ ri) (hr2 : ri ≤ 2) (hn : ∀ k, k < ri → 0 ≤ (nu (w * 4 + k)).toInt ∧ (nu (w * 4 + k)).toInt ≤ 30) : 0 ≤ (prV nu ri p q w).toInt ∧ (prV nu ri p q w).toInt ≤ 1800 ∧ (p.toInt = 0 → (ri = 2 → q.toInt = 0) → (prV nu ri p q w).toInt = 0) := by
  have mb : ∀ {a c : Int32}, (0 ≤ a.toInt ∧ a.toInt ≤ 30) → (0 ≤ c.toInt ∧ c.toInt ≤ 30) → (a * c).toInt = a.toInt * c.toInt ∧ 0 ≤ a.toInt * c.toInt ∧ a.toInt * c.toInt ≤ 900 := fun {a c} ha hc => by
    have h1 := Int.mul_nonneg ha.1 hc.1
    have h2 : a.toInt * c.toInt ≤ 30 * 30 := Int.mul_le_mul ha.2 hc.2 hc.1 (by decide)
    exact ⟨i32_mul (by omega) (by omega), h1, by omega⟩
  have n0 := hn 0 (by omega)
  rw [Nat.add_zero] at n0
  obtain ⟨e0, l0, u0⟩ := mb hp n0
  unfold prV
  by_cases c : ri = 2
  · rw [if_pos c]
    obtain ⟨e1, l1, u1⟩ := mb (hq c) (hn 1 (by omega))
    have e : (p * nu (w * 4) + q * nu (w * 4 + 1)).toInt = p.toInt * (nu (w * 4)).toInt + q.toInt * (nu (w * 4 + 1)).toInt := by
      rw [i32_add (by rw [e0, e1]; omega) (by rw [e0, e1]; omega), e0, e1]
    rw [e]
    exact ⟨by omega, by omega, fun z1 z2 => by rw [z1, z2 c, Int.zero_mul, Int.zero_mul]; rfl⟩
  · rw [if_neg c, e0]
    exact ⟨l0, by omega, fun z1 _ => by rw [z1, Int.zero_mul]⟩
theorem a_cost {u : EBS} {x : MS} {v w f s wh : Int32} {r r' : Int64} (h : ST u x) (hp : coP u v w f s wh r) (hm : mcoP x v w f s wh r') : r = r' := by
  obtain ⟨t1, t2, t3, t4, t5⟩ := ST_td h
  have b1 := h.2.2.1.1
  have b2 := h.2.2.1.2.1
  have b3 := h.2.2.1.2.2.1
  have c1 := h.2.2.2.1.1
  have c6 := h.2.2.2.2.2.2.1
  unfold coP prU at hp
  unfold mcoP mcC at hm
  rw [asC_iff h] at hm
  rw [t1, t2, t3] at hp
  -- the second price
  obtain ⟨z, hz⟩ : ∃ z, z = scd u s := ⟨_, rfl⟩
  rw [← hz] at hp
  have hz2 : (gMi x = 2 → z = s) ∧ (gMi x = 1 → z = nI 0) := by
    rw [hz]
    unfold scd
    rw [c1]
    exact ⟨fun e => if_neg (by omega), fun e => if_pos e⟩
  have hnum : (isNum f = true ∧ isNum z = true) ↔ (isI f (nI 0) (nI 30) = true ∧ (1 < gMi x → isI s (nI 0) (nI 30) = true)) := by
    rw [isI_num, isI_num]
    rcases (show gMi x = 1 ∨ gMi x = 2 by omega) with e | e
    · rw [hz2.2 e]
      exact ⟨fun q => ⟨q.1, fun y => by omega⟩, fun q => ⟨q.1, by decide⟩⟩
    · rw [hz2.1 e]
      exact ⟨fun q => ⟨q.1, fun _ => q.2⟩, fun q => ⟨q.1, q.2 (by omega)⟩⟩
  have hval : ∀ o, o < gMw x → ∀ k, k < 1 + gMo x → prN (gMi x) (gMo x) f z 0 12 (eTd u).2.2.1 (o * 4 + k) = mpN x f s (o * 4 + k) := fun o ho k hk => by
    unfold mpN
    rw [prN_at b1.1 (by omega) 12 0 _ o k (Nat.zero_le _) (by omega) hk, prN_at b1.1 (by omega) (gMw x) 0 _ o k (Nat.zero_le _) (by omega) hk]
    have q0 := (t4 o ho 0 (by omega)).1
    rw [Nat.add_zero] at q0
    by_cases c : k = 0
    · rw [if_pos c, if_pos c]
      unfold prV
      rcases (show gMi x = 1 ∨ gMi x = 2 by omega) with e | e
      · rw [if_neg (by omega), if_neg (by omega), q0]
      · rw [if_pos e, if_pos e, hz2.1 e, q0, (t4 o ho 1 (by omega)).1]
    · rw [if_neg c, if_neg c]
      exact (t4 o ho _ (by omega)).1
  by_cases hc : isVw v = true ∧ eHd u w = true
  · obtain ⟨hw1, hw2, hw3, -⟩ := held_w h hc.2
    by_cases hn : isNum f = true ∧ isNum z = true
    · have hf := of_decide_eq_true hn.1
      have hs := of_decide_eq_true hn.2
      -- the prices
      have hpr : ∀ o, o < gMw x → ∀ k, k < 1 + gMo x → 0 ≤ (prN (gMi x) (gMo x) f z 0 12 (eTd u).2.2.1 (o * 4 + k)).toInt ∧ (prN (gMi x) (gMo x) f z 0 12 (eTd u).2.2.1 (o * 4 + k)).toInt ≤ (if k = 0 then 1800 else 30) ∧ (k = 0 → f.toInt = 0 → (gMi x = 2 → z.toInt = 0) → (prN (gMi x) (gMo x) f z 0 12 (eTd u).2.2.1 (o * 4 + k)).toInt = 0) := fun o ho k hk => by
        rw [prN_at b1.1 (by omega) 12 0 _ o k (Nat.zero_le _) (by omega) hk]
        by_cases c : k = 0
        · rw [if_pos c, if_pos c]
          obtain ⟨y1, y2, y3⟩ := prV_int (nu := (eTd u).2.2.1) (w := o) (q := z) hf (fun _ => hs) b1.1 b1.2 (fun j hj => by
            have := t4 o ho j (by omega)
            rw [this.1]
            exact this.2)
          exact ⟨y1, y2, fun _ => y3⟩
        · rw [if_neg c, if_neg c]
          have := t4 o ho (gMi x + (k - 1)) (by omega)
          rw [this.1]
          exact ⟨this.2.1, this.2.2, fun y => absurd y c⟩
      have e0 := hval (wN w) hw1 0 (by omega)
      rw [Nat.add_zero] at e0
      have hz0 : allZ (prN (gMi x) (gMo x) f z 0 12 (eTd u).2.2.1) (wN w * 4 + 0) (1 - 0) = false ↔ ¬ mpN x f s (wN w * 4) = 0 := by
        rw [← e0, ← Bool.not_eq_true, allZ_iff]
        constructor
        · intro y q
          refine y (fun j j1 j2 => ?_)
          rw [show j = wN w * 4 by omega]
          exact q
        · intro y q
          exact y (q (wN w * 4) (by omega) (by omega))
      by_cases ha : mpN x f s (wN w * 4) = 0
      · rcases hp with ⟨q, -⟩ | ⟨-, e⟩
        · exact absurd ha (hz0.mp q.2.2.2.2)
        · rcases hm with ⟨q, -⟩ | ⟨-, e'⟩
          · exact absurd ha q.2
          · rw [e, e']
      · rcases hp with ⟨-, x0, x1, A, e⟩ | ⟨q, -⟩
        · by_cases hi : isI wh (nI 0) (nI 1) = true
          · have q0 := hpr (wN w) hw1 0 (by omega)
            rw [Nat.add_zero] at q0
            have hne : ¬ (prN (gMi x) (gMo x) f z 0 12 (eTd u).2.2.1 (wN w * 4)).toInt = 0 := fun y => ha (by rw [← e0]; exact (i32_zer _).mpr y)
            rcases hm with ⟨-, b, tp, bl, m, e'⟩ | ⟨q, -⟩
            · have hb : ∀ w', w' < 12 → ¬ eTh u w' = 0 → w' < gMw x := fun w' h1 h2 => Classical.byContradiction (fun q => h2 (c6 w' (by omega)))
              have hR : rowsOK (prN (gMi x) (gMo x) f z 0 12 (eTd u).2.2.1) (eTh u) (eTh u) (mpN x f s) (plA x) 1 (gMo x) (gMw x) (wN w) := by
                refine ⟨⟨by omega, by omega⟩, b2, fun v _ => small_of (by omega) (Or.inr ⟨by omega, fun w' h1 h2 k hk => ?_⟩), fun _ _ y => y, hw2, hw3, ⟨b3, t5.2.1, fun o o1 _ k hk => hval o o1 k hk⟩, fun k hk => hval _ hw1 k hk, fun w' h1 h2 k hk => ?_, 0, by omega, ?_⟩
                · have y := hpr w' (hb w' h1 h2) k hk
                  by_cases c : k = 0
                  · rw [if_pos c] at y ⊢; omega
                  · rw [if_neg c] at y ⊢; omega
                · have y := hpr w' (hb w' h1 h2) k hk
                  refine ⟨y.1, ?_⟩
                  by_cases c : k = 0
                  · rw [if_pos c] at y; omega
                  · rw [if_neg c] at y; omega
                · rw [Nat.add_zero]
                  omega
              rcases ash_same hR A m with ⟨f1, -⟩ | ⟨-, f2, -⟩
              · exact absurd f1 hw3
              · rw [e, e', frac_part f2, if_pos hi]
            · refine absurd ⟨⟨hc, hi, (hnum.mp hn).1, (hnum.mp hn).2, fun y => hne ?_⟩, ha⟩ q
              have y := (i32_zer _).mp y
              rcases (show gMi x = 1 ∨ gMi x = 2 by omega) with g | g
              · rw [if_neg (by omega), i32_add (by rw [nI_toInt (by decide)]; omega) (by rw [nI_toInt (by decide)]; omega), nI_toInt (by decide)] at y
                exact q0.2.2 rfl (by omega) (fun g' => by omega)
              · rw [← hz2.1 g, if_pos (by omega), i32_add (by omega) (by omega)] at y
                exact q0.2.2 rfl (by omega) (fun _ => by omega)
          · rcases hm with ⟨q, -⟩ | ⟨-, e'⟩
            · exact absurd q.1.2.1 hi
            · rw [e, e', ptV_no hi]
        · exact absurd ⟨hc.1, hc.2, hn.1, hn.2, hz0.mpr ha⟩ q
    · rcases hp with ⟨q, -⟩ | ⟨-, e⟩
      · exact absurd ⟨q.2.2.1, q.2.2.2.1⟩ hn
      · rcases hm with ⟨q, -⟩ | ⟨-, e'⟩
        · exact absurd (hnum.mpr ⟨q.1.2.2.1, q.1.2.2.2.1⟩) hn
        · rw [e, e']
  · rcases hp with ⟨q, -⟩ | ⟨-, e⟩
    · exact absurd ⟨q.1, q.2.1⟩ hc
    · rcases hm with ⟨q, -⟩ | ⟨-, e'⟩
      · exact absurd q.1.1 hc
      · rw [e, e']
/-! span -/
theorem spI_at (lo hi : Nat → Int32) (bi : Nat) (wl : Bool) (o : Nat) : ∀ (n k : Nat) (nu : Nat → Int32) (j : Nat), spI lo hi bi wl o k n nu j = if o * 4 + k ≤ j ∧ j < o * 4 + k + n then spV lo hi bi wl j (j - o * 4) else nu j
  | 0, k, nu, j => by rw [if_neg (by omega)]; rfl
  | n + 1, k, nu, j => by
    rw [spI, spI_at lo hi bi wl o n (k + 1)]
    by_cases h : o * 4 + (k + 1) ≤ j ∧ j < o * 4 + (k + 1) + n
    · rw [if_pos h, if_pos (show o * 4 + k ≤ j ∧ j < o * 4 + k + (n + 1) by omega)]
    · rw [if_neg h]
      by_cases e : j = o * 4 + k
      · rw [if_pos (show o * 4 + k ≤ j ∧ j < o * 4 + k + (n + 1) by omega), e, upd_at, show o * 4 + k - o * 4 = k by omega]
      · rw [upd_ne e, if_neg (show ¬ (o * 4 + k ≤ j ∧ j < o * 4 + k + (n + 1)) by omega)]
theorem spO_lo (lo hi : Nat → Int32) (bi t w : Nat) (gr : Int32) : ∀ (n o : Nat) (nu : Nat → Int32) (j : Nat), j < o * 4 → spO lo hi bi t w gr o n nu j = nu j
  | 0, _, _, _, _ => rfl
  | n + 1, o, nu, j, h => by rw [spO, spO_lo lo hi bi t w gr n (o + 1) _ j (by omega), spI_at, if_neg (by omega)]
theorem spO_at (lo hi : Nat → Int32) (bi t w : Nat) (gr : Int32) (ht : t ≤ 4) : ∀ (n o0 : Nat) (nu : Nat → Int32) (o k : Nat), o0 ≤ o → o < o0 + n → k < t → spO lo hi bi t w gr o0 n nu (o * 4 + k) = spV lo hi bi (spW o w gr) (o * 4 + k) k
  | 0, _, _, _, _, h1, h2, _ => absurd h2 (by omega)
  | n + 1, o0, nu, o, k, h1, h2, hk => by
    rw [spO]
    by_cases e : o = o0
    · rw [e, spO_lo lo hi bi t w gr n (o0 + 1) _ _ (by omega), spI_at, if_pos (by omega), show o0 * 4 + k - o0 * 4 = k by omega]
    · exact spO_at lo hi bi t w gr ht n (o0 + 1) _ o k (by omega) (by omega) hk
theorem spM_lo (lo hi tr : Nat → Int32) (mi t w : Nat) (gr : Int32) : ∀ (n o : Nat) (nu nu1 : Nat → Int32), spM lo hi tr mi t w gr o n nu = some nu1 → ∀ j, j < o * 4 → nu1 j = nu j
  | 0, _, _, _, h, _, _ => by cases h; rfl
  | n + 1, o, nu, nu1, h, j, hj => by
    rw [spM] at h
    by_cases c : tr o = 0
    · rw [if_pos c] at h
      exact spM_lo lo hi tr mi t w gr n (o + 1) nu nu1 h j (by omega)
    · rw [if_neg c] at h
      by_cases d : (lwS lo mi o 0 t (0, 0)).1 = 0 ∨ (lwS lo mi o 0 t (0, 0)).2 = 0
      · rw [if_pos d] at h; cases h
      · rw [if_neg d] at h
        rw [spM_lo lo hi tr mi t w gr n (o + 1) _ nu1 h j (by omega), spI_at, if_neg (by omega)]
theorem spM_at (lo hi tr : Nat → Int32) (mi t w : Nat) (gr : Int32) (ht : t ≤ 4) : ∀ (n o0 : Nat) (nu nu1 : Nat → Int32), spM lo hi tr mi t w gr o0 n nu = some nu1 → ∀ o, o0 ≤ o → o < o0 + n → ¬ tr o = 0 → (¬ (lwS lo mi o 0 t (0, 0)).1 = 0 ∧ ¬ (lwS lo mi o 0 t (0, 0)).2 = 0) ∧ ∀ k, k < t → nu1 (o * 4 + k) = spV lo hi mi (spW o w gr) (o * 4 + k) k
  | 0, _, _, _, _, _, h1, h2, _ => absurd h2 (by omega)
  | n + 1, o0, nu, nu1, h, o, h1, h2, h3 => by
    rw [spM] at h
    by_cases c : tr o0 = 0
    · rw [if_pos c] at h
      have hne : o ≠ o0 := fun e => h3 (by rw [e]; exact c)
      exact spM_at lo hi tr mi t w gr ht n (o0 + 1) nu nu1 h o (by omega) (by omega) h3
    · rw [if_neg c] at h
      by_cases d : (lwS lo mi o0 0 t (0, 0)).1 = 0 ∨ (lwS lo mi o0 0 t (0, 0)).2 = 0
      · rw [if_pos d] at h; cases h
      · rw [if_neg d] at h
        by_cases e : o = o0
        · rw [e]
          refine ⟨⟨fun z => d (Or.inl z), fun z => d (Or.inr z)⟩, fun k hk => ?_⟩
          rw [spM_lo lo hi tr mi t w gr n (o0 + 1) _ nu1 h _ (by omega), spI_at, if_pos (by omega), show o0 * 4 + k - o0 * 4 = k by omega]
        · exact spM_at lo hi tr mi t w gr ht n (o0 + 1) _ nu1 h o (by omega) (by omega) h3
theorem spM_none (lo hi tr : Nat → Int32) (mi t w : Nat) (gr : Int32) : ∀ (n o0 : Nat) (nu : Nat → Int32), spM lo hi tr mi t w gr o0 n nu = none → ∃ o, o0 ≤ o ∧ o < o0 + n ∧ ¬ tr o = 0 ∧ ((lwS lo mi o 0 t (0, 0)).1 = 0 ∨ (lwS lo mi o 0 t (0, 0)).2 = 0)
  | 0, _, _, h => by cases h
  | n + 1, o0, nu, h => by
    rw [spM] at h
    by_cases c : tr o0 = 0
    · rw [if_pos c] at h
      obtain ⟨o, o1, o2, o3⟩ := spM_none lo hi tr mi t w gr n (o0 + 1) nu h
      exact ⟨o, by omega, by omega, o3⟩
    · rw [if_neg c] at h
      by_cases d : (lwS lo mi o0 0 t (0, 0)).1 = 0 ∨ (lwS lo mi o0 0 t (0, 0)).2 = 0
      · exact ⟨o0, Nat.le_refl _, by omega, c, d⟩
      · rw [if_neg d] at h
        obtain ⟨o, o1, o2, o3⟩ := spM_none lo hi tr mi t w gr n (o0 + 1) _ h
        exact ⟨o, by omega, by omega, o3⟩
theorem lwS_ok {lo : Nat → Int32} {mi w : Nat} : ∀ (n k : Nat) (q : Int32 × Int32), k + n ≤ 4 → (∀ j, j < k + n → 0 ≤ (lo (w * 4 + j)).toInt ∧ (lo (w * 4 + j)).toInt ≤ 30) → (0 ≤ q.1.toInt ∧ q.1.toInt ≤ 30 * k) → (0 ≤ q.2.toInt ∧ q.2.toInt ≤ 30 * k) →
    ((lwS lo mi w k n q).1 = 0 ↔ (q.1 = 0 ∧ ∀ j, k ≤ j → j < k + n → j < mi → lo (w * 4 + j) = 0)) ∧ ((lwS lo mi w k n q).2 = 0 ↔ (q.2 = 0 ∧ ∀ j, k ≤ j → j < k + n → mi ≤ j → lo (w * 4 + j) = 0))
  | 0, k, q, _, _, _, _ => ⟨⟨fun z => ⟨z, fun j h1 h2 => by omega⟩, fun z => z.1⟩, ⟨fun z => ⟨z, fun j h1 h2 => by omega⟩, fun z => z.1⟩⟩
  | n + 1, k, q, hk, hl, h1, h2 => by
    have l0 := hl k (by omega)
    rw [lwS]
    by_cases c : k < mi
    · rw [if_pos c]
      have e : (q.1 + lo (w * 4 + k)).toInt = q.1.toInt + (lo (w * 4 + k)).toInt := i32_add (by omega) (by omega)
      obtain ⟨i1, i2⟩ := lwS_ok (mi := mi) n (k + 1) (q.1 + lo (w * 4 + k), q.2) (by omega) (fun j hj => hl j (by omega)) (by show 0 ≤ (q.1 + lo (w * 4 + k)).toInt ∧ _; rw [e]; omega) (by show 0 ≤ q.2.toInt ∧ q.2.toInt ≤ _; omega)
      rw [i1, i2]
      refine ⟨⟨fun z => ?_, fun z => ?_⟩, ⟨fun z => ⟨z.1, fun j j1 j2 j3 => z.2 j (by omega) (by omega) j3⟩, fun z => ⟨z.1, fun j j1 j2 j3 => z.2 j (by omega) (by omega) j3⟩⟩⟩
      · have y := (i32_zer _).mp z.1
        rw [e] at y
        refine ⟨(i32_zer _).mpr (by omega), fun j j1 j2 j3 => ?_⟩
        by_cases g : j = k
        · rw [g]; exact (i32_zer _).mpr (by omega)
        · exact z.2 j (by omega) (by omega) j3
      · have y1 := (i32_zer _).mp z.1
        have y2 := (i32_zer _).mp (z.2 k (Nat.le_refl _) (by omega) c)
        refine ⟨(i32_zer _).mpr (by show (q.1 + lo (w * 4 + k)).toInt = 0; rw [e]; omega), fun j j1 j2 j3 => z.2 j (by omega) (by omega) j3⟩
    · rw [if_neg c]
      have e : (q.2 + lo (w * 4 + k)).toInt = q.2.toInt + (lo (w * 4 + k)).toInt := i32_add (by omega) (by omega)
      obtain ⟨i1, i2⟩ := lwS_ok (mi := mi) n (k + 1) (q.1, q.2 + lo (w * 4 + k)) (by omega) (fun j hj => hl j (by omega)) (by show 0 ≤ q.1.toInt ∧ q.1.toInt ≤ _; omega) (by show 0 ≤ (q.2 + lo (w * 4 + k)).toInt ∧ _; rw [e]; omega)
      rw [i1, i2]
      refine ⟨⟨fun z => ⟨z.1, fun j j1 j2 j3 => ?_⟩, fun z => ⟨z.1, fun j j1 j2 j3 => z.2 j (by omega) (by omega) j3⟩⟩, ⟨fun z => ?_, fun z => ?_⟩⟩
      · exact z.2 j (by omega) (by omega) j3
      · have y := (i32_zer _).mp z.1
        rw [e] at y
        refine ⟨(i32_zer _).mpr (by omega), fun j j1 j2 j3 => ?_⟩
        by_cases g : j = k
        · rw [g]; exact (i32_zer _).mpr (by omega)
        · exact z.2 j (by omega) (by omega) j3
      · have y1 := (i32_zer _).mp z.1
        have y2 := (i32_zer _).mp (z.2 k (Nat.le_refl _) (by omega) (by omega))
        refine ⟨(i32_zer _).mpr (by show (q.2 + lo (w * 4 + k)).toInt = 0; rw [e]; omega), fun j j1 j2 j3 => z.2 j (by omega) (by omega) j3⟩
theorem brB_iff {lo th : Nat → Int32} {bi bo : Nat} : ∀ (n i : Nat), brB lo th bi bo i n = true ↔ ∃ o, i ≤ o ∧ o < i + n ∧ ¬ th o = 0 ∧ (allZ lo (o * 4 + 0) (bi - 0) = true ∨ allZ lo (o * 4 + bi) (bi + bo - bi) = true)
  | 0, i => ⟨fun z => (by cases z), fun ⟨o, h1, h2, _⟩ => by omega⟩
  | n + 1, i => by
    rw [brB]
    by_cases c : ¬ th i = 0 ∧ (allZ lo (i * 4 + 0) (bi - 0) = true ∨ allZ lo (i * 4 + bi) (bi + bo - bi) = true)
    · rw [if_pos c]
      exact ⟨fun _ => ⟨i, Nat.le_refl _, by omega, c⟩, fun _ => rfl⟩
    · rw [if_neg c, brB_iff n (i + 1)]
      constructor
      · rintro ⟨o, o1, o2, o3⟩
        exact ⟨o, by omega, by omega, o3⟩
      · rintro ⟨o, o1, o2, o3⟩
        by_cases e : o = i
        · rw [e] at o3; exact absurd o3 c
        · exact ⟨o, by omega, by omega, o3⟩
theorem a_span {u : EBS} {x : MS} {v w gr wh : Int32} {r r' : Int64} (h : ST u x) (hp : snP u v w gr wh r) (hm : msnP x v w gr wh r') : r = r' := by
  obtain ⟨t1, t2, t3, t4, t5⟩ := ST_td h
  have hms := ST_miss h
  unfold snP spC spU at hp
  unfold msnP msnC mspF at hm
  rw [asC_iff h] at hm
  rw [t1, t2, t3, hms] at hp
  have hkeep := h
  obtain ⟨⟨a1, a2, a3, a4, a5, a6, a7⟩, a8, ⟨b1, b2, b3, b4⟩, ⟨c1, c2, c3⟩, c4, c5, c6, c7⟩ := h
  rw [c1, c2, c3] at hp
  -- a bare work, by both
  have bare : ∀ o, o < gMw x → (((lwS (gLo x) (gMi x) o 0 (gMi x + gMo x) (0, 0)).1 = 0 ∨ (lwS (gLo x) (gMi x) o 0 (gMi x + gMo x) (0, 0)).2 = 0) ↔ (allZ (eLo u) (o * 4 + 0) (gMi x - 0) = true ∨ allZ (eLo u) (o * 4 + gMi x) (gMi x + gMo x - gMi x) = true)) := fun o ho => by
    obtain ⟨l1, l2⟩ := lwS_ok (lo := gLo x) (mi := gMi x) (w := o) (gMi x + gMo x) 0 (0, 0) (by omega) (fun j hj => by have := c4 o ho j (by omega); omega) (by decide) (by decide)
    rw [l1, l2, allZ_iff, allZ_iff]
    refine or_congr ⟨fun z j j1 j2 => ?_, fun z => ⟨rfl, fun j j1 j2 j3 => ?_⟩⟩ ⟨fun z j j1 j2 => ?_, fun z => ⟨rfl, fun j j1 j2 j3 => ?_⟩⟩
    · have y := z.2 (j - o * 4) (Nat.zero_le _) (by omega) (by omega)
      have q := (c4 o ho (j - o * 4) (by omega)).1
      rw [show o * 4 + (j - o * 4) = j by omega] at y q
      rw [q, y]
    · rw [← (c4 o ho j (by omega)).1]
      exact z _ (by omega) (by omega)
    · have y := z.2 (j - o * 4) (Nat.zero_le _) (by omega) (by omega)
      have q := (c4 o ho (j - o * 4) (by omega)).1
      rw [show o * 4 + (j - o * 4) = j by omega] at y q
      rw [q, y]
    · rw [← (c4 o ho j (by omega)).1]
      exact z _ (by omega) (by omega)
  by_cases hc : isVw v = true ∧ eHd u w = true
  · obtain ⟨hw1, hw2, hw3, -⟩ := held_w hkeep hc.2
    by_cases h4 : msO (gLo x) (gHi x) (gTr x) (gMi x + gMo x) 0 (gMw x) ≤ 4
    · by_cases hi : isI wh (nI 0) (nI 1) = true
      · rcases hm with ⟨-, hm⟩ | ⟨q, -⟩
        · cases hF : spM (gLo x) (gHi x) (gTr x) (gMi x) (gMi x + gMo x) (wN w) gr 0 (gMw x) (plN x) with
          | none =>
            rw [hF] at hm
            obtain ⟨o, -, o2, o3, o4⟩ := spM_none _ _ _ _ _ _ _ _ _ _ hF
            have hb : brB (eLo u) (eTh u) (gMi x) (gMo x) 0 (gMw x) = true := (brB_iff _ _).mpr ⟨o, Nat.zero_le _, by omega, by rw [c5 o (by omega)]; exact o3, (bare o (by omega)).mp o4⟩
            rcases hp with ⟨q, -⟩ | ⟨-, e⟩
            · rw [hb] at q; cases q.2.2.2
            · rcases hm with ⟨-, e'⟩ | ⟨nu1, y, -⟩
              · rw [e, e']
              · cases y
          | some nu1 =>
            rw [hF] at hm
            have hat := spM_at (gLo x) (gHi x) (gTr x) (gMi x) (gMi x + gMo x) (wN w) gr (by omega) (gMw x) 0 (plN x) nu1 hF
            have hb : brB (eLo u) (eTh u) (gMi x) (gMo x) 0 (gMw x) = false := by
              rw [← Bool.not_eq_true, brB_iff]
              rintro ⟨o, -, o2, o3, o4⟩
              rw [c5 o (by omega)] at o3
              have y := (hat o (Nat.zero_le _) (by omega) o3).1
              exact ((bare o (by omega)).mpr o4).elim y.1 y.2
            rcases hp with ⟨-, x0, x1, A, e⟩ | ⟨q, -⟩
            · rcases hm with ⟨y, -⟩ | ⟨nu2, y, b, tp, bl, m, e'⟩
              · cases y
              · cases y
                have hl : ∀ w', w' < 12 → ¬ eTh u w' = 0 → w' < gMw x := fun w' h1 h2 => Classical.byContradiction (fun q => h2 (c6 w' (by omega)))
                -- the numbers of both
                have hval : ∀ o, o < gMw x → ¬ gTr x o = 0 → ∀ k, k < gMi x + gMo x → spO (eLo u) (eHi u) (gMi x) (gMi x + gMo x) (wN w) gr 0 (gMw x) (eTd u).2.2.1 (o * 4 + k) = nu1 (o * 4 + k) ∧ (gLo x (o * 4 + k)).toInt ≤ (nu1 (o * 4 + k)).toInt ∧ (nu1 (o * 4 + k)).toInt ≤ 30 := fun o ho ho2 k hk => by
                  rw [spO_at (eLo u) (eHi u) (gMi x) (gMi x + gMo x) (wN w) gr (by omega) (gMw x) 0 _ o k (Nat.zero_le _) (by omega) hk, (hat o (Nat.zero_le _) (by omega) ho2).2 k hk]
                  obtain ⟨d1, d2, d3, d4, d5⟩ := c4 o ho k hk
                  unfold spV
                  by_cases g : bI (decide (k < gMi x)) = bI (spW o (wN w) gr)
                  · rw [if_pos g, if_pos g]; exact ⟨d1, Int.le_refl _, by omega⟩
                  · rw [if_neg g, if_neg g]; exact ⟨d2, d4, d5⟩
                have hn : ∀ w', w' < 12 → ¬ eTh u w' = 0 → ∀ k, k < gMi x + gMo x → 0 ≤ (spO (eLo u) (eHi u) (gMi x) (gMi x + gMo x) (wN w) gr 0 (gMw x) (eTd u).2.2.1 (w' * 4 + k)).toInt ∧ (spO (eLo u) (eHi u) (gMi x) (gMi x + gMo x) (wN w) gr 0 (gMw x) (eTd u).2.2.1 (w' * 4 + k)).toInt ≤ 30 := fun w' h1 h2 k hk => by
                  have y := hval w' (hl w' h1 h2) (by rw [← c5 w' (hl w' h1 h2)]; exact h2) k hk
                  have q := c4 w' (hl w' h1 h2) k hk
                  rw [y.1]
                  exact ⟨by omega, y.2.2⟩
                have hwt : ¬ gTr x (wN w) = 0 := by rw [← c5 _ hw1]; exact hw3
                have hR : rowsOK (spO (eLo u) (eHi u) (gMi x) (gMi x + gMo x) (wN w) gr 0 (gMw x) (eTd u).2.2.1) (eTh u) (eTh u) nu1 (plA x) (gMi x) (gMo x) (gMw x) (wN w) := by
                  refine ⟨b1, b2, fun v _ => small_of (by omega) (Or.inl ⟨by omega, fun w' h1 h2 k hk => ?_⟩), fun _ _ y => y, hw2, hw3, ⟨b3, t5.2.1, fun o o1 o2 k hk => (hval o o1 (by rw [← plA_at o1]; exact o2) k hk).1⟩, fun k hk => (hval _ hw1 hwt k hk).1, fun w' h1 h2 k hk => ?_, ?_⟩
                  · have := hn w' h1 h2 k hk; omega
                  · have := hn w' h1 h2 k hk; omega
                  · refine Classical.byContradiction (fun y => ?_)
                    have z := (hat (wN w) (Nat.zero_le _) (by omega) hwt).1.1
                    obtain ⟨l1, -⟩ := lwS_ok (lo := gLo x) (mi := gMi x) (w := wN w) (gMi x + gMo x) 0 (0, 0) (by omega) (fun j hj => by have := c4 (wN w) hw1 j (by omega); omega) (by decide) (by decide)
                    refine z (l1.mpr ⟨rfl, fun j _ j2 j3 => (i32_zer _).mpr (Classical.byContradiction (fun q => y ⟨j, j3, ?_⟩))⟩)
                    have y1 := hval (wN w) hw1 hwt j (by omega)
                    have y2 := c4 (wN w) hw1 j (by omega)
                    rw [y1.1]
                    omega
                rcases ash_same hR A m with ⟨f1, -⟩ | ⟨-, f2, -⟩
                · exact absurd f1 hw3
                · rw [e, e', frac_part f2, if_pos hi]
            · exact absurd ⟨hc.1, hc.2, h4, hb⟩ q
        · exact absurd ⟨hc, hi, h4⟩ q
      · rcases hm with ⟨q, -⟩ | ⟨-, e'⟩
        · exact absurd q.2.1 hi
        · rcases hp with ⟨-, x0, x1, -, e⟩ | ⟨-, e⟩
          · rw [e, e', ptV_no hi]
          · rw [e, e']
    · rcases hp with ⟨q, -⟩ | ⟨-, e⟩
      · exact absurd q.2.2.1 h4
      · rcases hm with ⟨q, -⟩ | ⟨-, e'⟩
        · exact absurd q.2.2 h4
        · rw [e, e']
  · rcases hp with ⟨q, -⟩ | ⟨-, e⟩
    · exact absurd ⟨q.1, q.2.1⟩ hc
    · rcases hm with ⟨q, -⟩ | ⟨-, e'⟩
      · exact absurd q.1 hc
      · rw [e, e']
end ANSC
