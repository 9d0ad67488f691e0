/-! CHANGES KEEP BOTH IN STEP -/
section CHG
theorem ST_new {v : EBS} {y : MS} {bi bo bw : Nat} {lo hi th lo' hi' tr nu0 : Nat → Int32} (h1 : 1 ≤ bi ∧ bi ≤ 2) (h2 : 1 ≤ bo ∧ bo ≤ 2) (h3 : bw ≤ 12) (hth : ∀ j, th j = 0 ∨ th j = 1) (htr : ∀ j, tr j = 0 ∨ tr j = 1) (hn : ∀ w, w < bw → ∀ k, k < bi + bo → lo (w * 4 + k) = lo' (w * 4 + k) ∧ hi (w * 4 + k) = hi' (w * 4 + k) ∧ 0 ≤ (lo' (w * 4 + k)).toInt ∧ (lo' (w * 4 + k)).toInt ≤ (hi' (w * 4 + k)).toInt ∧ (hi' (w * 4 + k)).toInt ≤ 30) (ht : ∀ w, w < bw → th w = tr w) (hz : ∀ w, bw ≤ w → th w = 0)
    (hE : eBi v = bi ∧ eBo v = bo ∧ eBw v = bw ∧ eLo v = lo ∧ eHi v = hi ∧ eTh v = th ∧ eTd v = (bi, bo, rtO lo hi bi (bi + bo) 0 12 nu0, th) ∧ eFR v) (hM : mIs y bi bo bw lo' hi' tr) : ST v y := by
  obtain ⟨k1, k2, k3, k4, k5, k6, k7, k8⟩ := hE
  obtain ⟨m1, m2, m3, m4, m5, m6⟩ := hM
  unfold ST eBen mBen
  rw [k1, k2, k3, k4, k5, k6, k7, m1, m2, m3, m4, m5, m6]
  exact ⟨⟨h1, h2, h3, hth, rfl, rfl, rfl⟩, k8, ⟨h1, h2, h3, htr⟩, ⟨rfl, rfl, rfl⟩, hn, ht, hz, fun w hw k hk => rtO_at lo hi bi (bi + bo) (by omega) 12 0 nu0 w k (Nat.zero_le _) (by omega) hk⟩
theorem ST_ini {u : EBS} {x : MS} (h : eIni u) (hm : mIs x 1 1 0 (fun _ => 0) (fun _ => 0) (fun _ => 0)) : ST u x := by
  exact ST_new (nu0 := fun _ => 0) (lo := fun _ => 0) (hi := fun _ => 0) (th := fun _ => 0) ⟨by omega, by omega⟩ ⟨by omega, by omega⟩ (by omega) (fun _ => Or.inl rfl) (fun _ => Or.inl rfl) (fun w hw => absurd hw (Nat.not_lt_zero _)) (fun w hw => rfl) (fun w _ => rfl) h hm
theorem is12_isI (a : Int32) : isI a (nI 1) (nI 2) = is12 a := by
  unfold isI is12
  rw [decide_eq_decide, i32_geN (by decide), i32_leN (by decide)]
  omega
theorem is12_n {a : Int32} (h : is12 a = true) : 1 ≤ wN a ∧ wN a ≤ 2 := by
  have := of_decide_eq_true h
  unfold wN
  omega
theorem a_start {u v : EBS} {x y : MS} {a b r r' : Int32} (h : ST u x) (hp : staP u v a b r) (hm : staM x y a b r') : r = r' ∧ ST v y := by
  unfold staP at hp
  unfold staM at hm
  rw [is12_isI, is12_isI] at hm
  by_cases c : is12 a = true ∧ is12 b = true
  · rcases hp with ⟨-, e, hp⟩ | ⟨q, -⟩
    · rcases hm with ⟨-, e', hm⟩ | ⟨q, -⟩
      · refine ⟨e.trans e'.symm, ?_⟩
        exact ST_new (is12_n c.1) (is12_n c.2) (by omega) (fun _ => Or.inl rfl) h.2.2.1.2.2.2 (fun w hw => absurd hw (Nat.not_lt_zero _)) (fun w hw => absurd hw (Nat.not_lt_zero _)) (fun w _ => rfl) hp hm
      · exact absurd c q
    · exact absurd c q
  · rcases hp with ⟨q, -⟩ | ⟨-, e, hp⟩
    · exact absurd q c
    · rcases hm with ⟨q, -⟩ | ⟨-, e', hm⟩
      · exact absurd q c
      · exact ⟨e.trans e'.symm, ST_keep h hp hm⟩
theorem a_set {u v : EBS} {x y : MS} {w b r r' : Int32} (hb : b = 0 ∨ b = 1) (h : ST u x) (hp : setP u v w b r) (hm : setM x y w b r') : r = r' ∧ ST v y := by
  have h' := h
  obtain ⟨⟨a1, a2, a3, a4, a5, a6, a7⟩, a8, ⟨b1, b2, b3, b4⟩, ⟨c1, c2, c3⟩, c4, c5, c6, c7⟩ := h
  unfold setP at hp
  unfold setM at hm
  have e0 : (inR w (eBw u) = true ∧ ¬ eTh u (wN w) = b) ↔ (inR w (gMw x) = true ∧ ¬ gTr x (wN w) = b) := by
    rw [c3]
    by_cases q : inR w (gMw x) = true
    · rw [c5 _ (inR_lt q)]
    · exact ⟨fun z => absurd z.1 q, fun z => absurd z.1 q⟩
  rw [e0] at hp
  by_cases c : inR w (gMw x) = true ∧ ¬ gTr x (wN w) = b
  · rcases hp with ⟨-, e, hp⟩ | ⟨q, -⟩
    · rcases hm with ⟨-, e', hm⟩ | ⟨q, -⟩
      · refine ⟨e.trans e'.symm, ?_⟩
        unfold eNew at hp
        rw [c1, c2, c3] at hp
        have hl := inR_lt c.1
        refine ST_new b1 b2 b3 (th_upd a4 _ hb) (th_upd b4 _ hb) c4 (fun o ho => ?_) (fun o ho => ?_) hp hm
        · by_cases g : o = wN w
          · rw [g, upd_at, upd_at]
          · rw [upd_ne g, upd_ne g]; exact c5 o ho
        · rw [upd_ne (by omega)]; exact c6 o ho
      · exact absurd c q
    · exact absurd c q
  · rcases hp with ⟨q, -⟩ | ⟨-, e, hp⟩
    · exact absurd q c
    · rcases hm with ⟨q, -⟩ | ⟨-, e', hm⟩
      · exact absurd q c
      · exact ⟨e.trans e'.symm, ST_keep h' hp hm⟩
theorem a_missing {u v : EBS} {x y : MS} {w k a b r r' : Int32} (h : ST u x) (hp : misP u v w k a b r) (hm : msmP x y w k a b r') : r = r' ∧ ST v y := by
  have h' := h
  obtain ⟨⟨a1, a2, a3, a4, a5, a6, a7⟩, a8, ⟨b1, b2, b3, b4⟩, ⟨c1, c2, c3⟩, c4, c5, c6, c7⟩ := h
  unfold misP misC at hp
  unfold msmP msmC at hm
  have e0 : (isI a (nI 0) (nI 30) = true ∧ isI b a (nI 30) = true) ↔ (isNum a = true ∧ isNum b = true ∧ a ≤ b) := by
    rw [isI_num]
    unfold isI isNum
    rw [decide_eq_true_iff, decide_eq_true_iff, decide_eq_true_iff, i32_leN (by decide), i32_le]
    constructor
    · rintro ⟨z1, z2, z3⟩
      exact ⟨z1, ⟨by omega, by omega⟩, z2⟩
    · rintro ⟨z1, z2, z3⟩
      exact ⟨z1, z3, by omega⟩
  rw [isI_inR (by omega) (by omega), e0] at hm
  rw [c1, c2, c3] at hp
  by_cases c : inR w (gMw x) = true ∧ inR k (gMi x + gMo x) = true ∧ isNum a = true ∧ isNum b = true ∧ a ≤ b
  · rcases hp with ⟨-, e, hp⟩ | ⟨q, -⟩
    · rcases hm with ⟨-, e', hm⟩ | ⟨q, -⟩
      · refine ⟨e.trans e'.symm, ?_⟩
        unfold eNew at hp
        have hl := inR_lt c.1
        have hk := inR_lt c.2.1
        have n1 := of_decide_eq_true c.2.2.1
        have n2 := of_decide_eq_true c.2.2.2.1
        have n3 := (i32_le _ _).mp c.2.2.2.2
        refine ST_new b1 b2 b3 a4 b4 (fun o ho j hj => ?_) c5 c6 hp hm
        by_cases g : o * 4 + j = wN w * 4 + wN k
        · rw [g, upd_at, upd_at, upd_at, upd_at]
          exact ⟨rfl, rfl, n1.1, n3, n2.2⟩
        · rw [upd_ne g, upd_ne g, upd_ne g, upd_ne g]
          exact c4 o ho j hj
      · exact absurd c q
    · exact absurd c q
  · rcases hp with ⟨q, -⟩ | ⟨-, e, hp⟩
    · exact absurd q c
    · rcases hm with ⟨q, -⟩ | ⟨-, e', hm⟩
      · exact absurd q c
      · exact ⟨e.trans e'.symm, ST_keep h' hp hm⟩
theorem wkF_at (w : Nat) (a b c d : Int32) : ∀ (n k : Nat) (f : Nat → Int32) (j : Nat), wkF w a b c d k n f j = if w * 4 + k ≤ j ∧ j < w * 4 + k + n then pk4 (j - w * 4) a b c d else f j
  | 0, k, f, j => by rw [if_neg (by omega)]; rfl
  | n + 1, k, f, j => by
    rw [wkF, wkF_at w a b c d n (k + 1)]
    by_cases h : w * 4 + (k + 1) ≤ j ∧ j < w * 4 + (k + 1) + n
    · rw [if_pos h, if_pos (show w * 4 + k ≤ j ∧ j < w * 4 + k + (n + 1) by omega)]
    · rw [if_neg h]
      by_cases e : j = w * 4 + k
      · rw [if_pos (show w * 4 + k ≤ j ∧ j < w * 4 + k + (n + 1) by omega), e, upd_at, show w * 4 + k - w * 4 = k by omega]
      · rw [upd_ne e, if_neg (show ¬ (w * 4 + k ≤ j ∧ j < w * 4 + k + (n + 1)) by omega)]
theorem wkG_at (w : Nat) (a b c d : Int32) (t : Nat) : ∀ (n k : Nat) (f : Nat → Int32) (j : Nat), wkG w a b c d t k n f j = if w * 4 + k ≤ j ∧ j < w * 4 + k + n then (if j - w * 4 < t then pk4 (j - w * 4) a b c d else nI 0) else f j
  | 0, k, f, j => by rw [if_neg (by omega)]; rfl
  | n + 1, k, f, j => by
    rw [wkG, wkG_at w a b c d t n (k + 1)]
    by_cases h : w * 4 + (k + 1) ≤ j ∧ j < w * 4 + (k + 1) + n
    · rw [if_pos h, if_pos (show w * 4 + k ≤ j ∧ j < w * 4 + k + (n + 1) by omega)]
    · rw [if_neg h]
      by_cases e : j = w * 4 + k
      · rw [if_pos (show w * 4 + k ≤ j ∧ j < w * 4 + k + (n + 1) by omega), e, upd_at, show w * 4 + k - w * 4 = k by omega]
      · rw [upd_ne e, if_neg (show ¬ (w * 4 + k ≤ j ∧ j < w * 4 + k + (n + 1)) by omega)]
theorem wkL_num {bi : Nat} {a b c d : Int32} : ∀ (n k : Nat) (q r : Int32 × Int32), wkL bi a b c d k n q = some r → ∀ j, k ≤ j → j < k + n → isNum (pk4 j a b c d) = true
  | 0, _, _, _, _, _, h1, h2 => absurd h2 (by omega)
  | n + 1, k, q, r, h, j, h1, h2 => by
    rw [wkL] at h
    by_cases e : isNum (pk4 k a b c d) = true
    · rw [if_pos e] at h
      by_cases g : j = k
      · rw [g]; exact e
      · exact wkL_num n (k + 1) _ r h j (by omega) (by omega)
    · rw [if_neg e] at h; cases h
theorem a_work {u v : EBS} {x y : MS} {a b c d r r' : Int32} (h : ST u x) (hp : wokP u v a b c d r) (hm : wokM x y a b c d r') : r = r' ∧ ST v y := by
  have h' := h
  obtain ⟨⟨a1, a2, a3, a4, a5, a6, a7⟩, a8, ⟨b1, b2, b3, b4⟩, ⟨c1, c2, c3⟩, c4, c5, c6, c7⟩ := h
  unfold wokP wkC at hp
  unfold wokM wkD at hm
  rw [c1, c2, c3] at hp
  have e0 : (gMw x < 12 ∧ ∃ q, wkL (gMi x) a b c d 0 (gMi x + gMo x) (0, 0) = some q ∧ ¬ q.1 = 0 ∧ ¬ q.2 = 0) ↔ (¬ gMw x = 12 ∧ ∃ q, wkL (gMi x) a b c d 0 (gMi x + gMo x) (0, 0) = some q ∧ ¬ q.1 = 0 ∧ ¬ q.2 = 0) := ⟨fun z => ⟨by omega, z.2⟩, fun z => ⟨by omega, z.2⟩⟩
  rw [e0] at hp
  by_cases g : ¬ gMw x = 12 ∧ ∃ q, wkL (gMi x) a b c d 0 (gMi x + gMo x) (0, 0) = some q ∧ ¬ q.1 = 0 ∧ ¬ q.2 = 0
  · rcases hp with ⟨-, e, hp⟩ | ⟨q, -⟩
    · rcases hm with ⟨-, e', hm⟩ | ⟨q, -⟩
      · refine ⟨e.trans e'.symm, ?_⟩
        unfold eNew at hp
        obtain ⟨g1, q, g2, -⟩ := g
        refine ST_new b1 b2 (by omega) (th_upd a4 _ (Or.inr rfl)) (th_upd b4 _ (Or.inr rfl)) (fun o ho j hj => ?_) (fun o ho => ?_) (fun o ho => ?_) hp hm
        · by_cases s : o = gMw x
          · have eF : ∀ f : Nat → Int32, wkF (gMw x) a b c d 0 (gMi x + gMo x) f (gMw x * 4 + j) = pk4 j a b c d := fun f => by
              rw [wkF_at, if_pos (show gMw x * 4 + 0 ≤ gMw x * 4 + j ∧ gMw x * 4 + j < gMw x * 4 + 0 + (gMi x + gMo x) by omega), show gMw x * 4 + j - gMw x * 4 = j by omega]
            have eG : ∀ f : Nat → Int32, wkG (gMw x) a b c d (gMi x + gMo x) 0 4 f (gMw x * 4 + j) = pk4 j a b c d := fun f => by
              rw [wkG_at, if_pos (show gMw x * 4 + 0 ≤ gMw x * 4 + j ∧ gMw x * 4 + j < gMw x * 4 + 0 + 4 by omega), show gMw x * 4 + j - gMw x * 4 = j by omega, if_pos hj]
            rw [s, eF, eF, eG, eG]
            have n1 := of_decide_eq_true (wkL_num _ _ _ _ g2 j (Nat.zero_le _) (by omega))
            exact ⟨rfl, rfl, n1.1, Int.le_refl _, n1.2⟩
          · have eF : ∀ f : Nat → Int32, wkF (gMw x) a b c d 0 (gMi x + gMo x) f (o * 4 + j) = f (o * 4 + j) := fun f => by
              rw [wkF_at, if_neg (by omega)]
            have eG : ∀ f : Nat → Int32, wkG (gMw x) a b c d (gMi x + gMo x) 0 4 f (o * 4 + j) = f (o * 4 + j) := fun f => by
              rw [wkG_at, if_neg (by omega)]
            rw [eF, eF, eG, eG]
            exact c4 o (by omega) j hj
        · by_cases s : o = gMw x
          · rw [s, upd_at, upd_at]
          · rw [upd_ne s, upd_ne s]; exact c5 o (by omega)
        · rw [upd_ne (by omega)]; exact c6 o (by omega)
      · exact absurd g q
    · exact absurd g q
  · rcases hp with ⟨q, -⟩ | ⟨-, e, hp⟩
    · exact absurd q g
    · rcases hm with ⟨q, -⟩ | ⟨-, e', hm⟩
      · exact absurd q g
      · exact ⟨e.trans e'.symm, ST_keep h' hp hm⟩
end CHG
