/-! WHAT A BUILT CONE OF THE CLASS HOLDS -/
section CLASS
/-- numbers that are small enough for the view -/
def smallM (pt nu : Nat → Int32) (v t : Nat) : Prop := ∃ M : Nat → Nat, (∀ c, c < bnW v t → 1 ≤ M c) ∧ (∀ c, c < t → M c ≤ 10000) ∧ fcN (bnW v t) * prd M (List.range (bnW v t)) ≤ 100000000 ∧ ∀ w, w < 12 → ¬ pt w = 0 → ∀ k, k < t → (nu (w * 4 + k)).toInt.natAbs ≤ M k
theorem DDI_okR {t n N : Nat} {nu pt : Nat → Int32} {ki v : Nat} {I : List Nat} {st : (Nat → Int64) × (Nat → Int32)} (ht : t ≤ 4) (hki : ki ≤ t) (hn : n = bnW v t) (hI : ∀ i, i ∈ I → isBd pt v t i) (hM : smallM pt nu v t) (hD : DDI t n (bdV nu ki t) I (N, st)) : ∀ i, i < N → ∀ k, k ≤ t → (vc st.1 i k).natAbs ≤ 100000000 := by
  obtain ⟨M, hM1, hM4, hMB, hnu⟩ := hM
  obtain ⟨d1, d2, d3, d4, d5⟩ := hD
  have hW := bnW_le v t
  rw [← hn] at hM1 hMB
  intro i hi k hk
  by_cases hkn : k < n
  · have h1 := ext_small (List.nodup_range (n := n)) M (fun j hj c hc => bdV_M (by omega) hki ht hM1 hnu (by
      rcases hI j hj with (z | z) | z
      · exact Or.inl (by omega)
      · refine Or.inl ?_
        rw [hn, z.1, z.2]
        show t < t + 1
        omega
      · exact Or.inr z) (List.mem_range.mp hc)) (d1 i hi).1 (d1 i hi).2 (List.mem_range.mpr hkn)
    rw [List.length_range] at h1
    have h2 : (vc st.1 i k).natAbs * 1 ≤ (vc st.1 i k).natAbs * M k := Nat.mul_le_mul_left _ (hM1 k hkn)
    have h3 : (vc st.1 i k).natAbs * M k ≤ 100000000 := Nat.le_trans h1 hMB
    omega
  · have e : k = t ∧ n = t := by omega
    unfold vc
    rw [e.1, d5 e.2 i hi]
    decide
theorem DDI_diff {t n N : Nat} {b : Nat → Nat → Int} {I : List Nat} {st : (Nat → Int64) × (Nat → Int32)} (hn : n ≤ t + 1) (hD : DDI t n b I (N, st)) : ∀ i, i < N → ∀ j, j < N → i ≠ j → ∃ k, k ≤ t ∧ vc st.1 i k ≠ vc st.1 j k := fun i hi j hj hne => by
  refine Classical.byContradiction (fun q => hD.2.2.1 i hi j hj hne ?_)
  have he : ∀ k ∈ List.range n, vc st.1 i k = vc st.1 j k := fun k hk => Classical.byContradiction (fun z => q ⟨k, by have := List.mem_range.mp hk; omega, z⟩)
  exact par2_cg (fun _ _ => rfl) he (par2_refl _ (vc st.1 i))
theorem cnOK_dd {nu pt : Nat → Int32} {ri ro v : Nat} {c : Cn} (hri : 1 ≤ ri) (hri2 : ri ≤ 2) (hro : 1 ≤ ro) (hro2 : ro ≤ 2) (hv : v ≤ 2) (hv2 : v = 2 → ∃ f, fstP pt 0 12 = some f) (hM : smallM pt nu v (ri + ro)) (h : cnOK nu pt ri ro v c) :
    ∃ I, (∀ i, i ∈ I ↔ isBd pt v (ri + ro) i) ∧ Ptd (List.range (bnW v (ri + ro))) (bdV nu ri (ri + ro)) I ∧ DDI (ri + ro) (bnW v (ri + ro)) (bdV nu ri (ri + ro)) I (c.2.2.2.1, c.2.2.2.2.2.1, c.2.2.2.2.2.2.1) ∧ srtS (ri + ro) c.2.2.2.1 c.2.2.2.2.2.1 := by
  obtain ⟨-, -, -, ray, tg, sl, km, e⟩ := h
  have hM' := hM
  obtain ⟨M, hM1, hM4, hMB, hnu⟩ := hM'
  obtain ⟨I, hI, hp, hD⟩ := cone_dd (nu := nu) (pt := pt) (ki := ri) (t := ri + ro) (v := v) (by omega) (by omega) (by omega) hv hv2 M hM1 hM4 hMB hnu ray tg sl km
  obtain ⟨Q, hQ⟩ : ∃ Q, Q = (bdQ nu pt v ri (ri + ro) ray tg sl km).1 := ⟨_, rfl⟩
  have e1 : (c.2.2.2.1, c.2.2.2.2.2.1, c.2.2.2.2.2.2.1) = (Q.1, srO (ri + ro) 1 (Q.1 - 1) Q.2) := by
    rw [e, hQ]
    rfl
  rw [← hQ] at hD
  have hW := bnW_le v (ri + ro)
  refine ⟨I, hI, hp, ?_⟩
  have hm : c.2.2.2.1 = Q.1 := congrArg Prod.fst e1
  have hr : (c.2.2.2.2.2.1, c.2.2.2.2.2.2.1) = srO (ri + ro) 1 (Q.1 - 1) Q.2 := congrArg Prod.snd e1
  by_cases h0 : Q.1 = 0
  · have hs : srO (ri + ro) 1 (Q.1 - 1) Q.2 = Q.2 := by rw [h0]; rfl
    rw [hs] at hr
    have hD' : DDI (ri + ro) (bnW v (ri + ro)) (bdV nu ri (ri + ro)) I (Q.1, Q.2) := hD
    rw [← hr, ← hm] at hD'
    exact ⟨hD', fun i j _ hj => by omega⟩
  · have hok : okR (ri + ro) Q.1 Q.2.1 := ⟨fun i hi k hk => Nat.le_trans (DDI_okR (st := Q.2) (by omega) (by omega) rfl (fun i hi => (hI i).mp hi) hM hD i hi k hk) (by decide), DDI_diff (st := Q.2) (by omega) hD⟩
    obtain ⟨-, a2, a3⟩ := srO_ok (b := bdV nu ri (ri + ro)) (I := I) (n := bnW v (ri + ro)) (by omega) (by omega) (Q.1 - 1) 1 Q.2 (by omega) hok (fun i j hij hj => by omega) hD
    rw [← hr, ← hm] at a2 a3
    exact ⟨a3, a2⟩
end CLASS
