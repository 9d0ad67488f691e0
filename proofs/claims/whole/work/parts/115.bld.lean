/-! THE WHOLE BUILD -/
section BLD
theorem bdL_add (nu pt : Nat → Int32) (ki kt kf : Nat) : ∀ (a c w : Nat) (q : CS × (Nat → Int64)), bdL nu pt ki kt kf w (a + c) q = bdL nu pt ki kt kf (w + a) c (bdL nu pt ki kt kf w a q)
  | 0, c, w, q => by rw [Nat.zero_add, Nat.add_zero]; rfl
  | a + 1, c, w, q => by
    rw [show a + 1 + c = (a + c) + 1 by omega, bdL, bdL, bdL_add nu pt ki kt kf a c (w + 1), show w + 1 + a = w + (a + 1) by omega]
theorem bdL_skip (nu pt : Nat → Int32) (ki kt kf : Nat) : ∀ (m w : Nat) (q : CS × (Nat → Int64)), (∀ j, w ≤ j → j < w + m → pt j = 0) → bdL nu pt ki kt kf w m q = q
  | 0, _, _, _ => rfl
  | m + 1, w, q, h => by
    rw [bdL, if_pos (h w (Nat.le_refl _) (by omega))]
    exact bdL_skip nu pt ki kt kf m (w + 1) q (fun j h1 h2 => h j (by omega) (by omega))
theorem fstP_zero {pt : Nat → Int32} : ∀ {n i q : Nat}, fstP pt i n = some q → ∀ j, i ≤ j → j < q → pt j = 0
  | 0, _, _, h => by simp [fstP] at h
  | n + 1, i, q, h => by
    rw [fstP] at h
    intro j h1 h2
    split at h
    · rename_i h0
      by_cases e : j = i
      · rw [e]; exact h0
      · exact fstP_zero h j (by omega) h2
    · cases h
      omega
def gdI (pt : Nat → Int32) (n : Nat) (I : List Nat) : Prop := (∀ i ∈ I, i < n ∨ ∃ w, w < 12 ∧ ¬ pt w = 0 ∧ i = 5 + w) ∧ I.Nodup
theorem bdV_M {nu pt : Nat → Int32} {ki t n : Nat} {M : Nat → Nat} (hn5 : n ≤ 5) (hki : ki ≤ t) (ht : t ≤ 4) (hM1 : ∀ c, c < n → 1 ≤ M c) (hnu : ∀ w, w < 12 → ¬ pt w = 0 → ∀ k, k < t → (nu (w * 4 + k)).toInt.natAbs ≤ M k) {i : Nat} (hi : i < n ∨ ∃ w, w < 12 ∧ ¬ pt w = 0 ∧ i = 5 + w) {c : Nat} (hc : c < n) : (bdV nu ki t i c).natAbs ≤ M c := by
  have h1 := hM1 c hc
  unfold bdV
  by_cases h5 : i < 5
  · rw [if_pos h5]
    by_cases e : c = i
    · rw [if_pos e]
      by_cases e2 : i < t
      · rw [if_pos e2]; exact h1
      · rw [if_neg e2]; exact h1
    · rw [if_neg e]; omega
  · rw [if_neg h5]
    obtain ⟨w, hw, hpw, rfl⟩ : ∃ w, w < 12 ∧ ¬ pt w = 0 ∧ i = 5 + w := hi.elim (fun q => by omega) id
    rw [show 5 + w - 5 = w by omega]
    by_cases e : c < ki
    · rw [if_pos e]
      exact hnu w hw hpw c (by omega)
    · rw [if_neg e]
      by_cases e2 : c < t
      · rw [if_pos e2]
        have := hnu w hw hpw c e2
        omega
      · rw [if_neg e2]; exact h1
theorem bdL_dd {nu pt : Nat → Int32} {ki t n kf : Nat} (ht : t ≤ 4) (hn2 : 2 ≤ n) (hn : n = t ∨ n = t + 1) (hki : ki ≤ t) (hkf : kf + 2 = n) (M : Nat → Nat) (hM1 : ∀ c, c < n → 1 ≤ M c) (hMB : fcN n * prd M (List.range n) ≤ 100000000) (hnu : ∀ w, w < 12 → ¬ pt w = 0 → ∀ k, k < t → (nu (w * 4 + k)).toInt.natAbs ≤ M k) :
    ∀ (m w : Nat) (q : CS × (Nat → Int64)) (I : List Nat), w + m ≤ 12 → gdI pt n I → Ptd (List.range n) (bdV nu ki t) I → (∀ i ∈ I, i < n ∨ i < 5 + w) → DDI t n (bdV nu ki t) I q.1 →
      ∃ I', gdI pt n I' ∧ Ptd (List.range n) (bdV nu ki t) I' ∧ DDI t n (bdV nu ki t) I' (bdL nu pt ki t kf w m q).1 ∧ ∀ i, i ∈ I' ↔ (i ∈ I ∨ ∃ w', w ≤ w' ∧ w' < w + m ∧ ¬ pt w' = 0 ∧ i = 5 + w')
  | 0, w, q, I, _, hg, hp, _, hD => ⟨I, hg, hp, hD, fun i => ⟨Or.inl, fun z => z.elim id (fun ⟨w', h1, h2, _⟩ => by omega)⟩⟩
  | m + 1, w, q, I, hwm, hg, hp, hlt, hD => by
    rw [bdL]
    by_cases hpt : pt w = 0
    · rw [if_pos hpt]
      obtain ⟨I', a1, a2, a3, a4⟩ := bdL_dd ht hn2 hn hki hkf M hM1 hMB hnu m (w + 1) q I (by omega) hg hp (fun i hi => (hlt i hi).elim Or.inl (fun z => Or.inr (by omega))) hD
      refine ⟨I', a1, a2, a3, fun i => (a4 i).trans ⟨fun z => z.elim Or.inl (fun ⟨w', h1, h2, h3⟩ => Or.inr ⟨w', by omega, by omega, h3⟩), fun z => z.elim Or.inl (fun ⟨w', h1, h2, h3, h4⟩ => ?_)⟩⟩
      by_cases e : w' = w
      · rw [e] at h3; exact absurd hpt h3
      · exact Or.inr ⟨w', by omega, by omega, h3, h4⟩
    · rw [if_neg hpt]
      have hn5 : n ≤ 5 := by omega
      have hk0 : 5 + w ∉ I := fun q => (hlt _ q).elim (fun z => by omega) (fun z => by omega)
      have hI17 : ∀ i ∈ I, i < 17 := fun i hi => (hg.1 i hi).elim (fun z => by omega) (fun ⟨w', h1, _, h2⟩ => by omega)
      have hcut := cut_dd (kf := kf) (D := (List.range (5 - n)).map (fun j => n + j)) (J := (List.range 17).filter (fun j => decide (j ≠ 5 + w))) (sl := pL q.2 0 (slk q.1.2.1 nu w ki t) q.1.1) ht hn2 hn hki hkf hI17 hg.2 hp (by omega) hk0
        (List.Pairwise.filter _ (List.pairwise_lt_range)) (by
          have hlt := filter_lt (I := List.range 17) (p := fun j => decide (j ≠ 5 + w)) (q := fun _ => true) (fun _ _ _ => rfl) ⟨5 + w, List.mem_range.mpr (by omega), rfl, decide_eq_false (fun z => z rfl)⟩
          have e : ((List.range 17).filter (fun _ => true)).length = 17 := by decide
          omega) (fun i hi => List.mem_filter.mpr ⟨List.mem_range.mpr (hI17 i hi), decide_eq_true (fun z => hk0 (z ▸ hi))⟩) (fun i hi => by
          obtain ⟨j, hj, rfl⟩ := List.mem_map.mp hi
          have := List.mem_range.mp hj
          exact List.mem_filter.mpr ⟨List.mem_range.mpr (by omega), decide_eq_true (by omega)⟩) (fun i hi hI => by
          obtain ⟨j, hj, rfl⟩ := List.mem_map.mp hi
          have := List.mem_range.mp hj
          exact (hg.1 _ hI).elim (fun z => by omega) (fun ⟨w', _, _, z⟩ => by omega)) (nodup_mp List.nodup_range (fun a _ c _ e => by omega)) (by rw [List.length_map, List.length_range]; omega)
        M (fun i hi c hc => bdV_M hn5 hki ht hM1 hnu ((List.mem_cons.mp hi).elim (fun z => Or.inr ⟨w, by omega, hpt, z⟩) (hg.1 i)) hc) hM1 hMB hD (fun r hr => by
          unfold pL
          rw [if_pos (by omega), Nat.sub_zero])
      have hg' : gdI pt n ((5 + w) :: I) := ⟨fun i hi => (List.mem_cons.mp hi).elim (fun z => Or.inr ⟨w, by omega, hpt, z⟩) (hg.1 i), List.nodup_cons.mpr ⟨hk0, hg.2⟩⟩
      obtain ⟨I', a1, a2, a3, a4⟩ := bdL_dd ht hn2 hn hki hkf M hM1 hMB hnu m (w + 1) (cutF nu w ki t kf (pL q.2 0 (slk q.1.2.1 nu w ki t) q.1.1) q.1, pL q.2 0 (slk q.1.2.1 nu w ki t) q.1.1) ((5 + w) :: I) (by omega) hg' (Ptd_more hp (fun i hi => List.mem_cons_of_mem _ hi)) (fun i hi => (List.mem_cons.mp hi).elim (fun z => Or.inr (by omega)) (fun z => (hlt i z).elim Or.inl (fun z => Or.inr (by omega)))) hcut
      refine ⟨I', a1, a2, a3, fun i => (a4 i).trans ?_⟩
      rw [List.mem_cons]
      constructor
      · rintro ((z | z) | ⟨w', h1, h2, h3, h4⟩)
        · exact Or.inr ⟨w, Nat.le_refl _, by omega, hpt, z⟩
        · exact Or.inl z
        · exact Or.inr ⟨w', by omega, by omega, h3, h4⟩
      · rintro (z | ⟨w', h1, h2, h3, h4⟩)
        · exact Or.inl (Or.inr z)
        · by_cases e : w' = w
          · exact Or.inl (Or.inl (by rw [h4, e]))
          · exact Or.inr ⟨w', by omega, by omega, h3, h4⟩
/-- the bounds of a view: things, the last one by LEAST, the works that sums are made of -/
def isBd (pt : Nat → Int32) (v t i : Nat) : Prop := (i < t ∨ (v = 1 ∧ i = t)) ∨ ∃ w, w < 12 ∧ ¬ pt w = 0 ∧ i = 5 + w
theorem cone_dd {nu pt : Nat → Int32} {ki t v : Nat} (ht : t ≤ 4) (ht2 : 2 ≤ t) (hki : ki ≤ t) (hv : v ≤ 2) (hv2 : v = 2 → ∃ f, fstP pt 0 12 = some f) (M : Nat → Nat) (hM1 : ∀ c, c < bnW v t → 1 ≤ M c) (hM4 : ∀ c, c < t → M c ≤ 10000) (hMB : fcN (bnW v t) * prd M (List.range (bnW v t)) ≤ 100000000) (hnu : ∀ w, w < 12 → ¬ pt w = 0 → ∀ k, k < t → (nu (w * 4 + k)).toInt.natAbs ≤ M k) (ray : Nat → Int64) (tg : Nat → Int32) (sl : Nat → Int64) (km : Nat) :
    ∃ I, (∀ i, i ∈ I ↔ isBd pt v t i) ∧ Ptd (List.range (bnW v t)) (bdV nu ki t) I ∧ DDI t (bnW v t) (bdV nu ki t) I (bdQ nu pt v ki t ray tg sl km).1 := by
  have hW := bnW_le v t
  have hkf : bdK v t + 2 = bnW v t := by
    unfold bdK bnW
    split <;> omega
  have hnn : bnW v t = t ∨ bnW v t = t + 1 := by omega
  unfold bdQ
  by_cases h2 : v = 2
  · obtain ⟨f, hf⟩ := hv2 h2
    have hf12 := fstP_lt hf
    have hW2 : bnW v t = t + 1 := by rw [h2]; rfl
    have hf0 : f < 12 := by omega
    obtain ⟨q0, hq0⟩ : ∃ q0 : CS × (Nat → Int64), q0 = (bgF nu pt v ki t (km, ray, tg), sl) := ⟨_, rfl⟩
    have hfd := first_dd (nu := nu) (pt := pt) (ki := ki) (kf := bdK v t) (sl := pL q0.2 0 (slk q0.1.2.1 nu f ki t) q0.1.1) ht (by omega) hki hf hf0 (fun k hk => Nat.le_trans (hnu f hf0 hf12.2.2 k hk) (hM4 k hk)) (km, ray, tg) (fun r hr => by
      rw [hq0, h2]
      unfold pL
      rw [if_pos (by show 0 ≤ r ∧ r < 0 + (bgF nu pt 2 ki t (km, ray, tg)).1; omega), Nat.sub_zero])
    have hsplit : bdL nu pt ki t (bdK v t) 0 12 q0 = bdL nu pt ki t (bdK v t) (f + 1) (11 - f) (cutF nu f ki t (bdK v t) (pL q0.2 0 (slk q0.1.2.1 nu f ki t) q0.1.1) q0.1, pL q0.2 0 (slk q0.1.2.1 nu f ki t) q0.1.1) := by
      rw [show (12 : Nat) = f + (1 + (11 - f)) by omega, bdL_add nu pt ki t _ f, bdL_skip nu pt ki t _ f 0 q0 (fun j h1 h2 => fstP_zero hf j h1 (by omega)), Nat.zero_add, bdL_add nu pt ki t _ 1 (11 - f) f]
      congr 1
      rw [bdL, if_neg hf12.2.2]
      rfl
    rw [← hq0, hsplit]
    have hq1 : q0.1 = bgF nu pt 2 ki t (km, ray, tg) := by rw [hq0, h2]
    rw [← hq1, ← hW2] at hfd
    obtain ⟨I', a1, a2, a3, a4⟩ := bdL_dd (pt := pt) ht (by omega) hnn hki hkf M hM1 hMB hnu (11 - f) (f + 1) (cutF nu f ki t (bdK v t) (pL q0.2 0 (slk q0.1.2.1 nu f ki t) q0.1.1) q0.1, pL q0.2 0 (slk q0.1.2.1 nu f ki t) q0.1.1) ((5 + f) :: List.range t) (by omega)
      ⟨fun i hi => (List.mem_cons.mp hi).elim (fun z => Or.inr ⟨f, hf0, hf12.2.2, z⟩) (fun z => Or.inl (by have := List.mem_range.mp z; omega)), List.nodup_cons.mpr ⟨fun z => by have := List.mem_range.mp z; omega, List.nodup_range⟩⟩ hfd.2 (fun i hi => (List.mem_cons.mp hi).elim (fun z => Or.inr (by omega)) (fun z => Or.inl (by have := List.mem_range.mp z; omega))) hfd.1
    refine ⟨I', fun i => (a4 i).trans ?_, a2, a3⟩
    rw [List.mem_cons, List.mem_range]
    unfold isBd
    constructor
    · rintro ((z | z) | ⟨w', z1, z2, z3, z4⟩)
      · exact Or.inr ⟨f, hf0, hf12.2.2, z⟩
      · exact Or.inl (Or.inl z)
      · exact Or.inr ⟨w', by omega, z3, z4⟩
    · rintro ((z | z) | ⟨w', z1, z3, z4⟩)
      · exact Or.inl (Or.inr z)
      · omega
      · by_cases e : w' = f
        · exact Or.inl (Or.inl (by rw [z4, e]))
        · by_cases e2 : w' < f
          · exact absurd (fstP_zero hf w' (Nat.zero_le _) e2) z3
          · exact Or.inr ⟨w', by omega, by omega, z3, z4⟩
  · have hb := begin_dd (nu := nu) (pt := pt) (v := v) (ki := ki) ht (by omega) (by omega) (km, ray, tg)
    obtain ⟨I', a1, a2, a3, a4⟩ := bdL_dd (pt := pt) ht (by omega) hnn hki hkf M hM1 hMB hnu 12 0 (bgF nu pt v ki t (km, ray, tg), sl) (List.range (bnW v t)) (by omega) ⟨fun i hi => Or.inl (List.mem_range.mp hi), List.nodup_range⟩ hb.2 (fun i hi => Or.inl (List.mem_range.mp hi)) hb.1
    refine ⟨I', fun i => (a4 i).trans ?_, a2, a3⟩
    rw [List.mem_range]
    have hbv : (v = 0 ∧ bnW v t = t) ∨ (v = 1 ∧ bnW v t = t + 1) := by
      unfold bnW
      split <;> omega
    unfold isBd
    constructor
    · rintro (z | ⟨w', z1, z2, z3, z4⟩)
      · exact Or.inl (by omega)
      · exact Or.inr ⟨w', by omega, z3, z4⟩
    · rintro (z | ⟨w', z1, z3, z4⟩)
      · exact Or.inl (by omega)
      · exact Or.inr ⟨w', Nat.zero_le _, by omega, z3, z4⟩
end BLD
