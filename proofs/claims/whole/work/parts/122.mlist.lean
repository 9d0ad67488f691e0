/-! THE REFERENCE'S SIDES: all edges, in order -/
section MLIST
/-- a row as it is told -/
def tv (wd t : Nat) (x : Nat → Int) : Nat → Int := fun k => if k < t then x k else if k = 4 ∧ t < wd then x t else 0
def Cb (bd : Nat → Int64) (nb wd : Nat) (z : Nat → Int) : Prop := ∀ γ, γ < nb → 0 ≤ dot (List.range wd) (vc bd γ) z
/-- numbers of the bounds are small enough -/
def smB (bd : Nat → Int64) (nb wd : Nat) : Prop := ∃ M : Nat → Nat, (∀ β, β < nb → ∀ c, c < wd → (vc bd β c).natAbs ≤ M c) ∧ (∀ c, c < wd → 1 ≤ M c ∧ M c ≤ 10000) ∧ fcN wd * prd M (List.range wd) ≤ 100000000
theorem tdV_int {w2 : Nat → Int64} {wd t k : Nat} {sg : Int32} (hsg : sg.toInt = 1 ∨ sg.toInt = -1) (hb : ∀ j, j ≤ 4 → (w2 j).toInt.natAbs ≤ 1000000000000000000) (ht : t ≤ 4) (hk : k < 5) : (tdV w2 wd k t sg).toInt = tv wd t (fun j => sg.toInt * (w2 j).toInt) k := by
  have hm : ∀ j, j ≤ 4 → (sg.toInt64 * w2 j).toInt = sg.toInt * (w2 j).toInt := fun j hj => by
    have := hb j hj
    exact i64_mul (i32_to64 sg) rfl (by rcases hsg with z | z <;> rw [z] <;> omega) (by rcases hsg with z | z <;> rw [z] <;> omega)
  unfold tdV tv
  by_cases h1 : k < t
  · rw [if_pos h1, if_pos h1]; exact hm k (by omega)
  · rw [if_neg h1, if_neg h1]
    by_cases h2 : k = 4 ∧ t < wd
    · rw [if_pos h2, if_pos h2]; exact hm t ht
    · rw [if_neg h2, if_neg h2]; rfl
theorem trF_cases {bd : Nat → Int64} {ch : Nat → Nat} {nb wd t : Nat} (hw : wd ≤ 5) (hw2 : 2 ≤ wd) (ht : t ≤ 4) (hwt : wd = t ∨ wd = t + 1) (hB : smB bd nb wd) (hch : ∀ j, j + 1 < wd → ch j < nb) (q : TS) :
    (¬ nz (List.range wd) (crs (rwF bd ch 0 (wd - 1)) (List.range wd)) ∧ (trF bd ch nb wd t q).2 = q.2) ∨
    (nz (List.range wd) (crs (rwF bd ch 0 (wd - 1)) (List.range wd)) ∧ ∃ z, gl z (List.range wd) = 1 ∧ par2 (List.range wd) (crs (rwF bd ch 0 (wd - 1)) (List.range wd)) z ∧
      ((Cb bd nb wd z ∧ ∃ T, (∀ k, k < 5 → tvT T k = tv wd t z k) ∧ (trF bd ch nb wd t q).2 = putF T q.2) ∨ (¬ Cb bd nb wd z ∧ Cb bd nb wd (fun j => -1 * z j) ∧ ∃ T, (∀ k, k < 5 → tvT T k = tv wd t (fun j => -1 * z j) k) ∧ (trF bd ch nb wd t q).2 = putF T q.2) ∨ (¬ Cb bd nb wd z ∧ ¬ Cb bd nb wd (fun j => -1 * z j) ∧ (trF bd ch nb wd t q).2 = q.2))) := by
  obtain ⟨M, hM, hM1, hMB⟩ := hB
  obtain ⟨V, hVe⟩ : ∃ V, V = crs (rwF bd ch 0 (wd - 1)) (List.range wd) := ⟨_, rfl⟩
  have hVb : ∀ c, c < wd → (V c).natAbs * M c ≤ 100000000 := fun c hc => by
    have := crs_bnd M (rs := rwF bd ch 0 (wd - 1)) (cs := List.range wd) (by rw [rwF_len, List.length_range]; omega) (fun r hr d hd => by
      obtain ⟨j, -, j2, rfl⟩ := rwF_mem hr
      exact hM (ch j) (hch j (by omega)) d (List.mem_range.mp hd)) c
    rw [List.length_range] at this
    rw [hVe]
    exact Nat.le_trans this hMB
  have hVs : ∀ c, c < wd → (V c).natAbs ≤ 100000000 := fun c hc => by
    have h1 := hVb c hc
    have h2 : (V c).natAbs * 1 ≤ (V c).natAbs * M c := Nat.mul_le_mul_left _ (hM1 c hc).1
    omega
  have hV : ∀ c, c < wd → (trV bd ch wd c).toInt = V c := fun c hc => by
    rw [hVe]
    exact trV_int hw hw2 hc (fun j hj k hk => Nat.le_trans (hM (ch j) (hch j hj) k hk) (hM1 k hk).2)
  obtain ⟨a1, -, a3⟩ := trW_ok (bd := bd) (ch := ch) hV wd 0 (q.1, 0) (by omega) (by show (0:Int) ≤ (0 : Int64).toInt; decide)
  obtain ⟨W, hW⟩ : ∃ W, W = trW bd ch wd 0 wd (q.1, 0) := ⟨_, rfl⟩
  rw [← hW] at a1 a3
  have hg : W.2.toInt = gl V (List.range wd) := by
    rw [a3 (fun k hk => Nat.le_trans (hVs k hk) (by decide))]
    show (Nat.gcd (0 : Int64).toInt.natAbs (gl (fun j => V (0 + j)) (List.range wd)) : Int) = _
    have e : (fun j => V (0 + j)) = V := funext (fun j => by rw [Nat.zero_add])
    rw [e, show (0 : Int64).toInt.natAbs = 0 from rfl, Nat.gcd_zero_left]
  rw [← hVe]
  have htr : trF bd ch nb wd t q = if W.2 = 0 then (W.1, q.2) else trE bd nb wd t (trD W.2 0 wd W.1) q.2 := by rw [hW]; rfl
  by_cases h0 : W.2 = 0
  · left
    rw [htr, if_pos h0]
    refine ⟨fun ⟨c, hc, hc0⟩ => hc0 (gl_zero (cs := List.range wd) ?_ c hc), rfl⟩
    rw [h0] at hg
    have hg : (0 : Int) = gl V (List.range wd) := hg
    omega
  · right
    obtain ⟨g, hge⟩ : ∃ g, g = gl V (List.range wd) := ⟨_, rfl⟩
    rw [← hge] at hg
    have hg0 : 0 < g := by
      refine Nat.pos_of_ne_zero (fun z => h0 ((i64_eq _ _).mpr ?_))
      rw [hg, z]
      rfl
    have hnz : nz (List.range wd) V := Classical.byContradiction (fun z => by
      have : gl V (List.range wd) = 0 := by
        have hz := not_nz z
        have e := gl_congr (x := V) (y := fun _ => 0) (cs := List.range wd) (fun c hc => by rw [hz c hc])
        have e2 : ∀ l : List Nat, gl (fun _ => 0) l = 0 := fun l => by
          induction l with
          | nil => rfl
          | cons x l ih => rw [gl, ih]; rfl
        rw [e, e2]
      omega)
    refine ⟨hnz, ?_⟩
    obtain ⟨w2, hw2e⟩ : ∃ w2, w2 = trD W.2 0 wd W.1 := ⟨_, rfl⟩
    obtain ⟨z, hz⟩ : ∃ z : Nat → Int, z = fun j => (w2 j).toInt := ⟨_, rfl⟩
    have hzV : ∀ k, k < wd → z k * (g : Int) = V k ∧ (z k).natAbs ≤ (V k).natAbs := fun k hk => by
      have e : w2 k = trV bd ch wd k / W.2 := by
        rw [hw2e, trD_at, if_pos (by omega), a1 k (Nat.zero_le _) hk]
      have hd := div_toInt (x := trV bd ch wd k) (d := W.2) (by rw [hg]; omega) (by rw [hV k hk]; have := hVs k hk; omega) (by
        rw [hg, hV k hk, hge]
        exact Int.ofNat_dvd_left.mpr (gl_dvd (List.mem_range.mpr hk)))
      rw [hg, hV k hk] at hd
      rw [hz]
      show (w2 k).toInt * (g : Int) = V k ∧ (w2 k).toInt.natAbs ≤ (V k).natAbs
      rw [e]
      exact hd
    have hzg : ∀ k ∈ List.range wd, V k = (g : Int) * z k := fun k hk => by
      have := (hzV k (List.mem_range.mp hk)).1
      rw [← this, Int.mul_comm]
    have hgl : gl z (List.range wd) = 1 := by
      have e1 : gl V (List.range wd) = gl (fun k => (g : Int) * z k) (List.range wd) := gl_congr (fun k hk => by rw [hzg k hk])
      rw [gl_mul, ← hge, Int.natAbs_natCast] at e1
      exact (Nat.eq_of_mul_eq_mul_left hg0 (by rw [Nat.mul_one]; exact e1)).symm
    refine ⟨z, hgl, par2_scale (show (g : Int) ≠ 0 by omega) hzg, ?_⟩
    have hpb : ∀ β, β < nb → ∀ j, j < wd → (vc bd β j * (w2 j).toInt).natAbs ≤ 1000000000 := fun β hβ j hj => by
      have h1 := hM β hβ j hj
      have h2 := (hzV j hj).2
      rw [hz] at h2
      have h2 : (w2 j).toInt.natAbs ≤ (V j).natAbs := h2
      rw [Int.natAbs_mul]
      have h3 : (vc bd β j).natAbs * (w2 j).toInt.natAbs ≤ M j * (V j).natAbs := Nat.mul_le_mul h1 h2
      have h4 := hVb j hj
      rw [Nat.mul_comm] at h4
      omega
    have hb1 := alB_iff (bd := bd) (w2 := w2) (wd := wd) (sg := nI 1) hw (Or.inl (by decide)) hpb nb 0 (by omega)
    have hb2 := alB_iff (bd := bd) (w2 := w2) (wd := wd) (sg := -1) hw (Or.inr (by decide)) hpb nb 0 (by omega)
    have hC1 : alB bd w2 wd (nI 1) 0 nb = true ↔ Cb bd nb wd z := by
      rw [hb1, hz]
      constructor
      · intro h γ hγ
        have := h γ (Nat.zero_le _) hγ
        rw [show (nI 1).toInt = 1 by decide, Int.one_mul] at this
        exact this
      · intro h γ _ hγ
        rw [show (nI 1).toInt = 1 by decide, Int.one_mul]
        exact h γ hγ
    have hneg : ∀ γ, dot (List.range wd) (vc bd γ) (fun j => -1 * z j) = -1 * dot (List.range wd) (vc bd γ) z := fun γ => by
      have e : dot (List.range wd) (vc bd γ) (fun j => -1 * z j) = dot (List.range wd) (vc bd γ) (lc (-1) z 0 z) := dot_congr (fun _ _ => rfl) (fun j _ => by show -1 * z j = -1 * z j + 0 * z j; omega)
      rw [e, dot_lc]
      omega
    have hC2 : alB bd w2 wd (-1) 0 nb = true ↔ Cb bd nb wd (fun j => -1 * z j) := by
      rw [hb2]
      constructor
      · intro h γ hγ
        have := h γ (Nat.zero_le _) hγ
        rw [show (-1 : Int32).toInt = -1 by decide] at this
        rw [hneg, hz]
        exact this
      · intro h γ _ hγ
        have := h γ hγ
        rw [hneg, hz] at this
        rw [show (-1 : Int32).toInt = -1 by decide]
        exact this
    have hw2b : ∀ j, j < wd → (w2 j).toInt.natAbs ≤ 1000000000000000000 := fun j hj => by
      have h2 := (hzV j hj).2
      rw [hz] at h2
      have h2 : (w2 j).toInt.natAbs ≤ (V j).natAbs := h2
      have := hVs j hj
      omega
    -- places that aren't there don't matter
    have htd : ∀ sg : Int32, (sg.toInt = 1 ∨ sg.toInt = -1) → ∀ k, k < 5 → tvT (fun k => tdV w2 wd k t sg) k = tv wd t (fun j => sg.toInt * z j) k := fun sg hsg k hk => by
      obtain ⟨w3, hw3⟩ : ∃ w3 : Nat → Int64, w3 = fun j => if j < wd then w2 j else 0 := ⟨_, rfl⟩
      have e3 : ∀ j, j < wd → w3 j = w2 j := fun j hj => by rw [hw3]; exact if_pos hj
      have e4 : tdV w2 wd k t sg = tdV w3 wd k t sg := by
        unfold tdV
        by_cases h1 : k < t
        · rw [if_pos h1, if_pos h1, e3 k (by omega)]
        · rw [if_neg h1, if_neg h1]
          by_cases h2 : k = 4 ∧ t < wd
          · rw [if_pos h2, if_pos h2, e3 t h2.2]
          · rw [if_neg h2, if_neg h2]
      show (tdV w2 wd k t sg).toInt = _
      rw [e4, tdV_int hsg (fun j hj => by
        by_cases hjw : j < wd
        · rw [e3 j hjw]; exact hw2b j hjw
        · rw [hw3]
          show (if j < wd then w2 j else 0).toInt.natAbs ≤ _
          rw [if_neg hjw]
          decide) ht hk]
      unfold tv
      by_cases h1 : k < t
      · rw [if_pos h1, if_pos h1]
        show sg.toInt * (w3 k).toInt = sg.toInt * z k
        rw [e3 k (by omega), hz]
      · rw [if_neg h1, if_neg h1]
        by_cases h2 : k = 4 ∧ t < wd
        · rw [if_pos h2, if_pos h2]
          show sg.toInt * (w3 t).toInt = sg.toInt * z t
          rw [e3 t h2.2, hz]
        · rw [if_neg h2, if_neg h2]
    rw [htr, if_neg h0, ← hw2e]
    unfold trE
    by_cases c1 : alB bd w2 wd (nI 1) 0 nb = true
    · rw [if_pos c1]
      refine Or.inl ⟨hC1.mp c1, _, fun k hk => ?_, rfl⟩
      rw [htd (nI 1) (Or.inl (by decide)) k hk, show (nI 1).toInt = 1 by decide]
      unfold tv
      simp only [Int.one_mul]
    · rw [if_neg c1]
      by_cases c2 : alB bd w2 wd (-1) 0 nb = true
      · rw [if_pos c2]
        refine Or.inr (Or.inl ⟨mt hC1.mpr c1, hC2.mp c2, _, fun k hk => ?_, rfl⟩)
        rw [htd (-1) (Or.inr (by decide)) k hk, show (-1 : Int32).toInt = -1 by decide]
      · rw [if_neg c2]
        exact Or.inr (Or.inr ⟨mt hC1.mpr c1, mt hC2.mpr c2, rfl⟩)
end MLIST
