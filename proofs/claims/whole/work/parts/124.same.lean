/-! BOTH LISTS ARE ONE -/
section SAME
theorem rows_Ext {cs : List Nat} {b b' : Nat → Nat → Int} {I I' : List Nat} (h1 : ∀ i ∈ I, ∃ j ∈ I', ∀ k ∈ cs, b i k = b' j k) (h2 : ∀ j ∈ I', ∃ i ∈ I, ∀ k ∈ cs, b i k = b' j k) {x : Nat → Int} (h : Ext cs b I x) : Ext cs b' I' x := by
  refine ⟨fun j hj => ?_, h.2.1, fun y hy => h.2.2 y (fun i hi h0 => ?_)⟩
  · obtain ⟨i, hi, e⟩ := h2 j hj
    rw [← dot_congr e (fun _ _ => rfl)]
    exact h.1 i hi
  · obtain ⟨j, hj, e⟩ := h1 i hi
    rw [dot_congr e (fun _ _ => rfl)] at h0 ⊢
    exact hy j hj h0
theorem rows_Ptd {cs : List Nat} {b b' : Nat → Nat → Int} {I I' : List Nat} (h1 : ∀ i ∈ I, ∃ j ∈ I', ∀ k ∈ cs, b i k = b' j k) (h : Ptd cs b I) : Ptd cs b' I' := fun y hy => h y (fun i hi => by
  obtain ⟨j, hj, e⟩ := h1 i hi
  rw [dot_congr e (fun _ _ => rfl)]
  exact hy j hj)
theorem lex_irr {x y : Nat → Int} (h : ∀ k, k < 5 → x k = y k) : ¬ lexV 4 x y := fun ⟨k, k1, _, k3⟩ => by
  rw [h k (by omega)] at k3
  omega
theorem lex_asy {x y : Nat → Int} (h : lexV 4 x y) (h2 : lexV 4 y x) : False := by
  obtain ⟨k, k1, k2, k3⟩ := h
  obtain ⟨l, l1, l2, l3⟩ := h2
  rcases Nat.lt_trichotomy k l with e | e | e
  · have := l2 k e; omega
  · rw [e] at k3; omega
  · have := k2 l e; omega
theorem lex_cg {x y x' y' : Nat → Int} (h : lexV 4 x y) (h1 : ∀ k, k < 5 → x k = x' k) (h2 : ∀ k, k < 5 → y k = y' k) : lexV 4 x' y' := by
  obtain ⟨k, k1, k2, k3⟩ := h
  refine ⟨k, k1, fun l hl => ?_, ?_⟩
  · rw [← h1 l (by omega), ← h2 l (by omega)]; exact k2 l hl
  · rw [← h1 k (by omega), ← h2 k (by omega)]; exact k3
theorem srt_pos {F G : Nat → Nat → Int} {m n : Nat} (hF : ∀ i j, i < j → j < m → lexV 4 (F i) (F j)) (hG : ∀ i j, i < j → j < n → lexV 4 (G i) (G j)) (h1 : ∀ i, i < m → ∃ j, j < n ∧ ∀ k, k < 5 → F i k = G j k) (h2 : ∀ j, j < n → ∃ i, i < m ∧ ∀ k, k < 5 → F i k = G j k) : ∀ (N i : Nat), i < N → i < m → i < n ∧ ∀ k, k < 5 → F i k = G i k
  | 0, i, h, _ => absurd h (by omega)
  | N + 1, i, h, hi => by
    obtain ⟨j, hj, e⟩ := h1 i hi
    by_cases c : j < i
    · obtain ⟨-, f⟩ := srt_pos hF hG h1 h2 N j (by omega) (by omega)
      exact absurd (hF j i c hi) (lex_irr (fun k hk => (f k hk).trans (e k hk).symm))
    · have hin : i < n := by omega
      refine ⟨hin, ?_⟩
      by_cases c2 : j = i
      · rw [c2] at e; exact e
      · obtain ⟨i', hi', e'⟩ := h2 i hin
        rcases Nat.lt_trichotomy i' i with q | q | q
        · obtain ⟨-, f⟩ := srt_pos hF hG h1 h2 N i' (by omega) hi'
          exact absurd (hG i' i q hin) (lex_irr (fun k hk => (f k hk).symm.trans (e' k hk)))
        · rw [q] at e'; exact e'
        · exact (lex_asy (lex_cg (hF i i' q hi') e e') (hG i j (by omega) hj)).elim
theorem srt_uniq {F G : Nat → Nat → Int} {m n : Nat} (hF : ∀ i j, i < j → j < m → lexV 4 (F i) (F j)) (hG : ∀ i j, i < j → j < n → lexV 4 (G i) (G j)) (h1 : ∀ i, i < m → ∃ j, j < n ∧ ∀ k, k < 5 → F i k = G j k) (h2 : ∀ j, j < n → ∃ i, i < m ∧ ∀ k, k < 5 → F i k = G j k) : m = n ∧ ∀ i, i < m → ∀ k, k < 5 → F i k = G i k := by
  have a := fun i hi => srt_pos hF hG h1 h2 (i + 1) i (Nat.lt_succ_self i) hi
  have c := fun i hi => srt_pos hG hF (fun j hj => by
    obtain ⟨i, q, e⟩ := h2 j hj
    exact ⟨i, q, fun k hk => (e k hk).symm⟩) (fun j hj => by
    obtain ⟨i, q, e⟩ := h1 j hj
    exact ⟨i, q, fun k hk => (e k hk).symm⟩) (i + 1) i (Nat.lt_succ_self i) hi
  refine ⟨?_, fun i hi => (a i hi).2⟩
  rcases Nat.lt_trichotomy m n with e | e | e
  · have := (c m e).1; omega
  · exact e
  · have := (a n e).1; omega
theorem tv_lex {wd t : Nat} {x y : Nat → Int} (ht : t ≤ 4) (hwt : wd = t ∨ wd = t + 1) (hx : wd = t → x t = 0) (hy : wd = t → y t = 0) (h : lexV t x y) : lexV 4 (tv wd t x) (tv wd t y) := by
  obtain ⟨k, k1, k2, k3⟩ := h
  have low : ∀ z : Nat → Int, ∀ l, l < t → tv wd t z l = z l := fun z l hl => by unfold tv; rw [if_pos hl]
  by_cases hk : k < t
  · refine ⟨k, by omega, fun l hl => ?_, ?_⟩
    · rw [low x l (by omega), low y l (by omega)]; exact k2 l hl
    · rw [low x k hk, low y k hk]; exact k3
  · have e : k = t := by omega
    have hw : t < wd := by
      rcases hwt with z | z
      · have := hx z; have := hy z; rw [e] at k3; omega
      · omega
    have top : ∀ z : Nat → Int, tv wd t z 4 = z t := fun z => by unfold tv; rw [if_neg (by omega), if_pos ⟨rfl, hw⟩]
    refine ⟨4, Nat.le_refl _, fun l hl => ?_, ?_⟩
    · by_cases hlt : l < t
      · rw [low x l hlt, low y l hlt]; exact k2 l (by omega)
      · unfold tv
        rw [if_neg hlt, if_neg hlt, if_neg (by omega), if_neg (by omega)]
    · rw [top x, top y, ← e]; exact k3
theorem prd_mono {M N : Nat → Nat} : ∀ {cs : List Nat}, (∀ c ∈ cs, M c ≤ N c) → prd M cs ≤ prd N cs
  | [], _ => Nat.le_refl _
  | c :: cs, h => by
    rw [prd, prd]
    exact Nat.mul_le_mul (h c List.mem_cons_self) (prd_mono (fun d hd => h d (List.mem_cons_of_mem _ hd)))
/-- the numbers of both are the same where it matters -/
def alike (nu pt nu' am : Nat → Int32) (mw t : Nat) : Prop := mw ≤ 12 ∧ (∀ w, w < 12 → (¬ pt w = 0 ↔ (w < mw ∧ ¬ am w = 0))) ∧ ∀ w, w < mw → ¬ am w = 0 → ∀ k, k < t → nu (w * 4 + k) = nu' (w * 4 + k)
theorem lists_same {nu pt nu' am : Nat → Int32} {ri ro mw v ns : Nat} {c : Cn} {sd : Nat → Int64} (hri : 1 ≤ ri) (hri2 : ri ≤ 2) (hro : 1 ≤ ro) (hro2 : ro ≤ 2) (hv : v ≤ 2) (hv2 : v = 2 → ∃ f, fstP pt 0 12 = some f) (hM : smallM pt nu v (ri + ro)) (ha : alike nu pt nu' am mw (ri + ro)) (h : cnOK nu pt ri ro v c) (hm : mOK nu' am ri ro mw v ns sd) :
    c.2.2.2.1 = ns ∧ ∀ i, i < ns → (∀ k, k < ri + ro → c.2.2.2.2.2.1 (i * 5 + k) = sd (i * 5 + k)) ∧ c.2.2.2.2.2.1 (i * 5 + (ri + ro)) = sd (i * 5 + 4) := by
  obtain ⟨I, hI, hp, hD, hS⟩ := cnOK_dd hri hri2 hro hro2 hv hv2 hM h
  obtain ⟨t, htE⟩ : ∃ t, t = ri + ro := ⟨_, rfl⟩
  rw [← htE] at hM ha hI hp hD hS ⊢
  obtain ⟨bd, ch, wy, sd0, hm⟩ := hm
  have hW := bnW_le v t
  obtain ⟨ha1, ha2, ha3⟩ := ha
  obtain ⟨M, hM1, hM4, hMB, hMn⟩ := hM
  have hnu' : ∀ w, w < mw → ¬ am w = 0 → ∀ k, k < ri + ro → (nu' (w * 4 + k)).toInt.natAbs ≤ 10000 := fun w hw hw2 k hk => by
    rw [← ha3 w hw hw2 k (by omega)]
    exact Nat.le_trans (hMn w (by omega) ((ha2 w (by omega)).mpr ⟨hw, hw2⟩) k (by omega)) (hM4 k (by omega))
  obtain ⟨r1, r2⟩ := bnF_rows (nu := nu') (am := am) (ni := ri) (no := ro) (mw := mw) (v := v) (bd := bd) (by omega) hnu'
  obtain ⟨B, hB⟩ : ∃ B, B = bnF nu' am ri ro mw v bd := ⟨_, rfl⟩
  rw [← hB, ← htE] at r1 r2 hm
  obtain ⟨wd, hwd⟩ : ∃ wd, wd = bnW v t := ⟨_, rfl⟩
  rw [← hwd] at hM1 hMB hp hD r1 r2 hW hm
  have hwt : wd = t ∨ wd = t + 1 := by omega
  -- which bounds there are is the same
  have hbm : ∀ i, isBm am v t mw i ↔ i ∈ I := fun i => by
    rw [hI i]
    unfold isBm isBd
    constructor
    · rintro (z | ⟨w, w1, w2, w3⟩)
      · exact Or.inl z
      · exact Or.inr ⟨w, by omega, (ha2 w (by omega)).mpr ⟨w1, w2⟩, w3⟩
    · rintro (z | ⟨w, w1, w2, w3⟩)
      · exact Or.inl z
      · obtain ⟨q1, q2⟩ := (ha2 w w1).mp w2
        exact Or.inr ⟨w, q1, q2, w3⟩
  have hbv : ∀ i, isBm am v t mw i → ∀ k, k < wd → bdV nu ri t i k = bdV nu' ri t i k := fun i hi k hk => by
    unfold bdV
    by_cases h5 : i < 5
    · rw [if_pos h5, if_pos h5]
    · rw [if_neg h5, if_neg h5]
      rcases hi with z | ⟨w, w1, w2, w3⟩
      · omega
      · rw [w3, show 5 + w - 5 = w by omega]
        by_cases hk1 : k < ri
        · rw [if_pos hk1, if_pos hk1, ha3 w w1 w2 k (by omega)]
        · rw [if_neg hk1, if_neg hk1]
          by_cases hk2 : k < t
          · rw [if_pos hk2, if_pos hk2, ha3 w w1 w2 k hk2]
          · rw [if_neg hk2, if_neg hk2]
  have g1 : ∀ i ∈ I, ∃ j ∈ List.range B.2, ∀ k ∈ List.range wd, bdV nu ri t i k = vc B.1 j k := fun i hi => by
    have hi' := (hbm i).mpr hi
    obtain ⟨r, q1, q2⟩ := r2 i hi'
    exact ⟨r, List.mem_range.mpr q1, fun k hk => by rw [hbv i hi' k (List.mem_range.mp hk), q2 k (List.mem_range.mp hk)]⟩
  have g2 : ∀ j ∈ List.range B.2, ∃ i ∈ I, ∀ k ∈ List.range wd, bdV nu ri t i k = vc B.1 j k := fun j hj => by
    obtain ⟨i, q1, q2⟩ := r1 j (List.mem_range.mp hj)
    exact ⟨i, (hbm i).mp q1, fun k hk => by rw [hbv i q1 k (List.mem_range.mp hk), q2 k (List.mem_range.mp hk)]⟩
  have g1' : ∀ j ∈ List.range B.2, ∃ i ∈ I, ∀ k ∈ List.range wd, vc B.1 j k = bdV nu ri t i k := fun j hj => by
    obtain ⟨i, q1, q2⟩ := g2 j hj
    exact ⟨i, q1, fun k hk => (q2 k hk).symm⟩
  have g2' : ∀ i ∈ I, ∃ j ∈ List.range B.2, ∀ k ∈ List.range wd, vc B.1 j k = bdV nu ri t i k := fun i hi => by
    obtain ⟨j, q1, q2⟩ := g1 i hi
    exact ⟨j, q1, fun k hk => (q2 k hk).symm⟩
  -- the reference's rows are small
  have hsm : smB B.1 B.2 wd := by
    refine ⟨fun c => if c < t then M c else 1, fun β hβ c hc => ?_, fun c hc => ?_, ?_⟩
    · obtain ⟨i, q1, q2⟩ := g2 β (List.mem_range.mpr hβ)
      rw [← q2 c (List.mem_range.mpr hc)]
      refine bdV_M (pt := pt) (n := wd) (M := fun c => if c < t then M c else 1) (by omega) (by omega) (by omega) (fun c hc => ?_) (fun w w1 w2 k hk => ?_) ?_ hc
      · show 1 ≤ if c < t then M c else 1
        split
        · exact hM1 c hc
        · exact Nat.le_refl _
      · show _ ≤ if k < t then M k else 1
        rw [if_pos hk]
        exact hMn w w1 w2 k hk
      · rcases (hI i).mp q1 with (z | z) | z
        · exact Or.inl (by omega)
        · refine Or.inl ?_
          rw [hwd, z.1, z.2]
          show t < t + 1
          omega
        · exact Or.inr z
    · show 1 ≤ (if c < t then M c else 1) ∧ (if c < t then M c else 1) ≤ 10000
      split
      · exact ⟨hM1 c hc, hM4 c (by assumption)⟩
      · exact ⟨Nat.le_refl _, by decide⟩
    · refine Nat.le_trans (Nat.mul_le_mul_left _ (prd_mono (fun c hc => ?_))) hMB
      show (if c < t then M c else 1) ≤ M c
      split
      · exact Nat.le_refl _
      · exact hM1 c (List.mem_range.mp hc)
  have hpB : Ptd (List.range wd) (vc B.1) (List.range B.2) := rows_Ptd g1 hp
  obtain ⟨L1, L2⟩ := asF_all (t := t) (by omega) (by omega) (by omega) hwt hsm hpB (ch, wy, sd0, 0)
  rw [hm] at L1 L2
  obtain ⟨d1, d2, d3, d4, d5⟩ := hD
  obtain ⟨m, hmE⟩ : ∃ m, m = c.2.2.2.1 := ⟨_, rfl⟩
  obtain ⟨ray, hray⟩ : ∃ ray, ray = c.2.2.2.2.2.1 := ⟨_, rfl⟩
  have d1 : ∀ i, i < m → Ext (List.range wd) (bdV nu ri t) I (vc ray i) ∧ gl (vc ray i) (List.range wd) = 1 := by rw [hmE, hray]; exact d1
  have d4 : ∀ x, Ext (List.range wd) (bdV nu ri t) I x → ∃ i, i < m ∧ par2 (List.range wd) (vc ray i) x := by rw [hmE, hray]; exact d4
  have d5 : wd = t → ∀ i, i < m → ray (i * 5 + t) = 0 := by rw [hmE, hray]; exact d5
  rw [← hmE, ← hray] at hS
  rw [← hmE, ← hray]
  have z5 : ∀ i, i < m → wd = t → vc ray i t = 0 := fun i hi e => by unfold vc; rw [d5 e i hi]; rfl
  obtain ⟨u1, u2⟩ := srt_uniq (F := fun i => tv wd t (vc ray i)) (G := fun j => vc sd j) (m := m) (n := ns) (fun i j hij hj => tv_lex (by omega) hwt (z5 i (by omega)) (z5 j hj) (hS i j hij hj)) L1.1 (fun i hi => by
    obtain ⟨j, q1, q2⟩ := L2 (vc ray i) ⟨rows_Ext g1 g2 (d1 i hi).1, (d1 i hi).2⟩
    exact ⟨j, q1, fun k hk => (q2 k hk).symm⟩) (fun j hj => by
    obtain ⟨x, x1, x2⟩ := L1.2 j hj
    have hx := rows_Ext g1' g2' x1.1
    obtain ⟨i, q1, q2⟩ := d4 x hx
    refine ⟨i, q1, fun k hk => ?_⟩
    have e := prm_eq hp (d1 i q1).1.1 (d1 i q1).1.2.1 hx.1 (d1 i q1).2 x1.2 q2
    show tv wd t (vc ray i) k = vc sd j k
    rw [x2 k hk]
    exact tv_cg (by omega) e k)
  refine ⟨u1, fun i hi => ⟨fun k hk => ?_, ?_⟩⟩
  · have e : tv wd t (vc ray i) k = vc sd i k := u2 i (by omega) k (by omega)
    unfold tv at e
    rw [if_pos hk] at e
    exact (i64_eq _ _).mpr e
  · have e : tv wd t (vc ray i) 4 = vc sd i 4 := u2 i (by omega) 4 (by omega)
    unfold tv at e
    rw [if_neg (by omega)] at e
    by_cases hw : t < wd
    · rw [if_pos ⟨rfl, hw⟩] at e
      exact (i64_eq _ _).mpr e
    · rw [if_neg (by omega)] at e
      refine (i64_eq _ _).mpr ?_
      rw [d5 (by omega) i (by omega)]
      exact e
end SAME
