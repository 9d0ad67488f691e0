/-! THE REFERENCE'S TRIES: what is across some bounds, made primitive, put if it is allowed -/
section MTRY
theorem cols_zero : ∀ n c : Nat, cols 0 c n = List.range' c n
  | 0, _ => rfl
  | n + 1, c => by rw [cols, if_neg (by rw [b_0]; decide), cols_zero n (c + 1), List.range'_succ]
theorem range_spl {wd c : Nat} (hc : c < wd) : List.range wd = cols 0 0 c ++ c :: cols 0 (c + 1) (wd - (c + 1)) := by
  have e1 : cols 0 0 wd = cols 0 0 (c + (1 + (wd - (c + 1)))) := by rw [show c + (1 + (wd - (c + 1))) = wd by omega]
  rw [List.range_eq_range', ← cols_zero, e1, cols_app, cols_app, Nat.zero_add]
  congr 1
  have e2 : cols 0 c 1 = [c] := by rw [cols_zero]; rfl
  rw [e2]
  rfl
theorem trV_int {bd : Nat → Int64} {ch : Nat → Nat} {wd c : Nat} (hw : wd ≤ 5) (hw2 : 2 ≤ wd) (hc : c < wd) (hR : ∀ j, j + 1 < wd → ∀ k, k < wd → (vc bd (ch j) k).natAbs ≤ 10000) : (trV bd ch wd c).toInt = crs (rwF bd ch 0 (wd - 1)) (List.range wd) c := by
  have ho : (nI 1 <<< (nI c &&& 31) : Int32) = 0 ||| (nI 1 <<< (nI c &&& 31)) := Int32.zero_or.symm
  have hco := cols_out (o := 0) hw hc
  rw [← ho] at hco
  have hlen0 : (cols 0 0 c).length = c := by rw [cols_zero, List.length_range']
  have hlen : (cols (nI 1 <<< (nI c &&& 31)) 0 wd).length = wd - 1 := by
    rw [hco, List.length_append, cols_zero, cols_zero, List.length_range', List.length_range']
    omega
  have hd := dtF_int (bd := bd) (ch := ch) hw (wd - 1) 0 (nI 1 <<< (nI c &&& 31)) (by omega) hlen (fun j _ h2 => hR j (by omega))
  have hsm := det_small (bd := bd) (ch := ch) (wd := wd) (d := wd - 1) (row := 0) (by omega) hlen (fun j hj => by have := (cols_mem.mp hj).2.1; omega) (fun j _ h2 => hR j (by omega))
  have hsm2 : (det (rwF bd ch 0 (wd - 1)) (cols (nI 1 <<< (nI c &&& 31)) 0 wd)).natAbs ≤ 240000000000000000 := by
    refine Nat.le_trans hsm ?_
    rcases (show wd = 2 ∨ wd = 3 ∨ wd = 4 ∨ wd = 5 by omega) with e | e | e | e <;> rw [e] <;> decide
  have hsg : (sgC c).toInt = if c % 2 = 0 then 1 else -1 := by
    unfold sgC
    split <;> decide
  obtain ⟨d, hde⟩ : ∃ d, d = det (rwF bd ch 0 (wd - 1)) (cols (nI 1 <<< (nI c &&& 31)) 0 wd) := ⟨_, rfl⟩
  rw [← hde] at hd hsm2
  have hcr : crs (rwF bd ch 0 (wd - 1)) (List.range wd) c = (if c % 2 = 0 then 1 else -1) * d := by
    show alt (dl c) (List.range wd) (fun x => det (rwF bd ch 0 (wd - 1)) x) = _
    have hnd : (cols 0 0 c ++ c :: cols 0 (c + 1) (wd - (c + 1))).Nodup := by rw [← range_spl hc]; exact List.nodup_range
    rw [range_spl hc, alt_dl _ _ _ hnd, hlen0, ← hco, ← hde]
  unfold trV
  rw [hcr]
  by_cases h2 : c % 2 = 0
  · rw [if_pos h2] at hsg ⊢
    rw [i64_mul hd hsg (by omega) (by omega)]
    omega
  · rw [if_neg h2] at hsg ⊢
    rw [i64_mul hd hsg (by omega) (by omega)]
    omega
theorem abM_int {x : Int64} (h : -(2 ^ 63) < x.toInt) : (abM x).toInt = x.toInt.natAbs := by
  unfold abM
  have h2 := Int64.toInt_lt x
  by_cases hx : 0 < x
  · rw [if_pos hx]
    rw [i64_lt] at hx
    have hx : 0 < x.toInt := hx
    omega
  · rw [if_neg hx]
    rw [i64_lt] at hx
    have hx : ¬ 0 < x.toInt := hx
    rw [Int64.toInt_neg, Int.bmod_eq_of_le (by omega) (by omega)]
    omega
theorem cmW_int : ∀ (n : Nat) (x y : Int64), 0 ≤ x.toInt → 0 ≤ y.toInt → y.toInt.natAbs ≤ n → (cmW x y).toInt = Nat.gcd x.toInt.natAbs y.toInt.natAbs
  | 0, x, y, hx, hy, h => by
    have hy0 : y = 0 := (i64_eq y 0).mpr (by rw [show (0 : Int64).toInt = 0 from rfl]; omega)
    rw [cmW, dif_pos hy0, hy0]
    show x.toInt = _
    simp
    omega
  | n + 1, x, y, hx, hy, h => by
    rw [cmW]
    by_cases h0 : y = 0
    · rw [dif_pos h0, h0]
      show x.toInt = _
      simp
      omega
    · rw [dif_neg h0]
      have hyp : 0 < y.toInt := by
        have := mt (i64_eq y 0).mpr h0
        rw [show (0 : Int64).toInt = 0 from rfl] at this
        omega
      have hlt := i64_abs_rem (x := x) h0
      rw [cmW_int n y _ hy (by rw [remL_toInt hx hyp]; exact Int.emod_nonneg _ (by omega)) (by omega), gcd_rem hx hyp]
theorem cmD_int {a c : Int64} (ha : -(2 ^ 63) < a.toInt) (hc : -(2 ^ 63) < c.toInt) : (cmD a c).toInt = Nat.gcd a.toInt.natAbs c.toInt.natAbs := by
  unfold cmD
  rw [cmW_int _ _ _ (by rw [abM_int ha]; omega) (by rw [abM_int hc]; omega) (Nat.le_refl _), abM_int ha, abM_int hc, Int.natAbs_natCast, Int.natAbs_natCast]
theorem trW_ok {bd : Nat → Int64} {ch : Nat → Nat} {wd : Nat} {V : Nat → Int} (hV : ∀ c, c < wd → (trV bd ch wd c).toInt = V c) : ∀ (n c : Nat) (q : (Nat → Int64) × Int64), c + n = wd → 0 ≤ q.2.toInt → (∀ k, c ≤ k → k < wd → (trW bd ch wd c n q).1 k = trV bd ch wd k) ∧ (∀ k, k < c → (trW bd ch wd c n q).1 k = q.1 k) ∧ ((∀ k, k < wd → (V k).natAbs ≤ 1000000000000000000) → (trW bd ch wd c n q).2.toInt = Nat.gcd q.2.toInt.natAbs (gl (fun j => V (c + j)) (List.range n)))
  | 0, c, q, hc, hq => ⟨fun k h1 h2 => by omega, fun k _ => rfl, fun _ => by
      show q.2.toInt = _
      rw [show (List.range 0) = [] from rfl, gl]
      simp
      omega⟩
  | n + 1, c, q, hc, hq => by
    rw [trW]
    have hv := hV c (by omega)
    by_cases hb : ∀ k, k < wd → (V k).natAbs ≤ 1000000000000000000
    · have hvb := hb c (by omega)
      have hg : (cmD q.2 (trV bd ch wd c)).toInt = Nat.gcd q.2.toInt.natAbs (V c).natAbs := by
        rw [cmD_int (by omega) (by rw [hv]; omega), hv]
      obtain ⟨a1, a2, a3⟩ := trW_ok hV n (c + 1) (vp_updL q.1 c (trV bd ch wd c), cmD q.2 (trV bd ch wd c)) (by omega) (by show 0 ≤ (cmD q.2 (trV bd ch wd c)).toInt; rw [hg]; omega)
      refine ⟨fun k h1 h2 => ?_, fun k hk => ?_, fun _ => ?_⟩
      · by_cases e : k = c
        · rw [e, a2 c (by omega)]; exact pk_uLs
        · exact a1 k (by omega) h2
      · rw [a2 k (by omega)]; exact pk_uLn (by omega)
      · rw [a3 hb]
        show (Nat.gcd (cmD q.2 (trV bd ch wd c)).toInt.natAbs _ : Int) = _
        rw [hg, Int.natAbs_natCast, Nat.gcd_assoc]
        have e := gl_range (fun j => V (c + j)) n
        rw [e]
        have e2 : (fun k => (fun j => V (c + j)) (k + 1)) = fun j => V (c + 1 + j) := funext (fun k => by show V (c + (k + 1)) = V (c + 1 + k); rw [show c + (k + 1) = c + 1 + k by omega])
        rw [e2]
        rfl
    · have hg0 : 0 ≤ (0 : Int64).toInt := by decide
      -- the rows don't need the divisor
      have rows : ∀ (n c : Nat) (q : (Nat → Int64) × Int64), c + n = wd → (∀ k, c ≤ k → k < wd → (trW bd ch wd c n q).1 k = trV bd ch wd k) ∧ (∀ k, k < c → (trW bd ch wd c n q).1 k = q.1 k) := by
        intro n
        induction n with
        | zero => intro c q hc; exact ⟨fun k h1 h2 => by omega, fun k _ => rfl⟩
        | succ n ih =>
          intro c q hc
          rw [trW]
          obtain ⟨a1, a2⟩ := ih (c + 1) (vp_updL q.1 c (trV bd ch wd c), cmD q.2 (trV bd ch wd c)) (by omega)
          refine ⟨fun k h1 h2 => ?_, fun k hk => ?_⟩
          · by_cases e : k = c
            · rw [e, a2 c (by omega)]; exact pk_uLs
            · exact a1 k (by omega) h2
          · rw [a2 k (by omega)]; exact pk_uLn (by omega)
      obtain ⟨a1, a2⟩ := rows (n + 1) c q hc
      rw [trW] at a1 a2
      exact ⟨a1, a2, fun h => absurd h hb⟩
theorem trD_at (d : Int64) : ∀ (n c : Nat) (f : Nat → Int64) (k : Nat), trD d c n f k = if c ≤ k ∧ k < c + n then f k / d else f k
  | 0, c, f, k => by rw [if_neg (by omega)]; rfl
  | n + 1, c, f, k => by
    rw [trD, trD_at d n (c + 1)]
    by_cases e : k = c
    · subst e
      rw [if_neg (by omega), if_pos (by omega), pk_uLs]
    · rw [pk_uLn e]
      by_cases h : c ≤ k ∧ k < c + (n + 1)
      · rw [if_pos (by omega), if_pos h]
      · rw [if_neg (by omega), if_neg h]
theorem alS_int {bd w2 : Nat → Int64} {β : Nat} : ∀ (k : Nat), k ≤ 5 → (∀ j, j < k → (vc bd β j * (w2 j).toInt).natAbs ≤ 1000000000) → (alS bd w2 β k).toInt = lsum (fun j => vc bd β j * (w2 j).toInt) (List.range k)
  | 0, _, _ => rfl
  | k + 1, hk, h => by
    have ih := alS_int (bd := bd) (w2 := w2) (β := β) k (by omega) (fun j hj => h j (by omega))
    have hb := lsum_abs (f := fun j => vc bd β j * (w2 j).toInt) (K := 1000000000) (l := List.range k) (fun j hj => h j (by have := List.mem_range.mp hj; omega))
    rw [List.length_range] at hb
    have hl := h k (by omega)
    rw [alS, lsum_range]
    have e : (bd (β * 5 + k) * w2 k).toInt = vc bd β k * (w2 k).toInt := i64_mul rfl rfl (by show -(2 ^ 63) ≤ vc bd β k * (w2 k).toInt; omega) (by show vc bd β k * (w2 k).toInt < 2 ^ 63; omega)
    exact i64_add ih e (by omega) (by omega)
theorem alB_iff {bd w2 : Nat → Int64} {wd : Nat} {sg : Int32} (hw : wd ≤ 5) (hsg : sg.toInt = 1 ∨ sg.toInt = -1) {nb : Nat} (hb : ∀ β, β < nb → ∀ j, j < wd → (vc bd β j * (w2 j).toInt).natAbs ≤ 1000000000) : ∀ (n β : Nat), β + n = nb → (alB bd w2 wd sg β n = true ↔ ∀ γ, β ≤ γ → γ < nb → 0 ≤ sg.toInt * dot (List.range wd) (vc bd γ) (fun j => (w2 j).toInt))
  | 0, β, h => ⟨fun _ γ h1 h2 => by omega, fun _ => rfl⟩
  | n + 1, β, h => by
    have hs := alS_int (bd := bd) (w2 := w2) (β := β) wd hw (fun j hj => hb β (by omega) j hj)
    have hlb := lsum_abs (f := fun j => vc bd β j * (w2 j).toInt) (K := 1000000000) (l := List.range wd) (fun j hj => hb β (by omega) j (List.mem_range.mp hj))
    rw [List.length_range] at hlb
    have hds : dot (List.range wd) (vc bd β) (fun j => (w2 j).toInt) = lsum (fun j => vc bd β j * (w2 j).toInt) (List.range wd) := rfl
    rw [← hds] at hs hlb
    have hwB : wd * 1000000000 ≤ 5 * 1000000000 := Nat.mul_le_mul_right _ hw
    have e : (sg.toInt64 * alS bd w2 β wd).toInt = sg.toInt * dot (List.range wd) (vc bd β) (fun j => (w2 j).toInt) := i64_mul (i32_to64 sg) hs (by rcases hsg with z | z <;> rw [z] <;> omega) (by rcases hsg with z | z <;> rw [z] <;> omega)
    rw [alB]
    have hle : 0 ≤ sg.toInt64 * alS bd w2 β wd ↔ 0 ≤ sg.toInt * dot (List.range wd) (vc bd β) (fun j => (w2 j).toInt) := by rw [i64_le, e]; exact Iff.rfl
    by_cases h0 : 0 ≤ sg.toInt64 * alS bd w2 β wd
    · rw [if_pos h0, alB_iff hw hsg hb n (β + 1) (by omega)]
      constructor
      · intro q γ h1 h2
        by_cases e2 : γ = β
        · rw [e2]; exact hle.mp h0
        · exact q γ (by omega) h2
      · intro q γ h1 h2
        exact q γ (by omega) h2
    · rw [if_neg h0]
      exact ⟨fun q => (by cases q), fun q => absurd (hle.mpr (q β (Nat.le_refl _) (by omega))) h0⟩
end MTRY
