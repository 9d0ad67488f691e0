/-! THE BEGINNING, AND ALL CUTS -/
section BUILD
variable {cs : List Nat} {b : Nat → Nat → Int}
/-- a cone with as many bounds as dimensions: its edges are the rows that each but one bound is tight at -/
theorem simp_ext {n : Nat} (hcl : cs.length = n) (ι : Nat → Nat) (R : Nat → Nat → Int) (hp : Ptd cs b ((List.range n).map ι)) (hd : ∀ j, j < n → ∀ k, k < n → dot cs (b (ι j)) (R k) = if j = k then 1 else 0) :
    (∀ k, k < n → Ext cs b ((List.range n).map ι) (R k) ∧ gl (R k) cs = 1) ∧ (∀ k, k < n → ∀ j, j < n → k ≠ j → ¬ par2 cs (R k) (R j)) ∧ ∀ x, Ext cs b ((List.range n).map ι) x → ∃ k, k < n ∧ par2 cs (R k) x := by
  have hmem : ∀ i, i ∈ (List.range n).map ι ↔ ∃ j, j < n ∧ ι j = i := fun i => by simp
  have hnz : ∀ k, k < n → nz cs (R k) := fun k hk => Classical.byContradiction (fun q => by
    have := hd k hk k hk
    rw [if_pos rfl, dot_zr (not_nz q)] at this
    omega)
  have hE : ∀ k, k < n → Ext cs b ((List.range n).map ι) (R k) := fun k hk => by
    refine ⟨fun i hi => ?_, hnz k hk, fun y hy => ?_⟩
    · obtain ⟨j, hj, rfl⟩ := (hmem i).mp hi
      rw [hd j hj k hk]
      split <;> omega
    · have h0 := hp (lc 1 y (-(dot cs (b (ι k)) y)) (R k)) (fun i hi => by
        obtain ⟨j, hj, rfl⟩ := (hmem i).mp hi
        rw [dot_lc, hd j hj k hk]
        by_cases e : j = k
        · rw [if_pos e, e]; omega
        · rw [if_neg e, hy (ι j) hi (by rw [hd j hj k hk, if_neg e])]; omega)
      intro i hi j hj
      have e1 : 1 * y i + -(dot cs (b (ι k)) y) * R k i = 0 := h0 i hi
      have e2 : 1 * y j + -(dot cs (b (ι k)) y) * R k j = 0 := h0 j hj
      have e3 : y i = dot cs (b (ι k)) y * R k i := by grind
      have e4 : y j = dot cs (b (ι k)) y * R k j := by grind
      rw [e3, e4]
      grind
  refine ⟨fun k hk => ⟨hE k hk, ?_⟩, fun k hk j hj hne q => ?_, fun x hx => ?_⟩
  · have h1 := hd k hk k hk
    rw [if_pos rfl] at h1
    have hdv : ∀ l : List Nat, (∀ c ∈ l, (gl (R k) cs : Int) ∣ R k c) → (gl (R k) cs : Int) ∣ lsum (fun c => b (ι k) c * R k c) l := fun l => by
      induction l with
      | nil => intro _; exact Int.dvd_zero _
      | cons c l ih =>
        intro h
        rw [lsum]
        exact Int.dvd_add (Int.dvd_trans (h c List.mem_cons_self) (Int.dvd_mul_left _ _)) (ih (fun d hd => h d (List.mem_cons_of_mem _ hd)))
    have := hdv cs (fun c hc => Int.ofNat_dvd_left.mpr (gl_dvd hc))
    unfold dot at h1
    rw [h1] at this
    have h2 := Int.ofNat_dvd_left.mp this
    exact Nat.dvd_one.mp h2
  · have h1 := par2_dots q (b (ι k)) (b (ι j))
    rw [hd k hk k hk, hd k hk j hj, hd j hj k hk, hd j hj j hj, if_pos rfl, if_pos rfl, if_neg hne, if_neg (fun e => hne e.symm)] at h1
    omega
  · obtain ⟨i, hi, hpos⟩ := Ext_some hp hx.1 hx.2.1
    obtain ⟨k, hk, rfl⟩ := (hmem i).mp hi
    refine ⟨k, hk, par2_symm (hx.2.2 (R k) (fun i hi h0 => ?_))⟩
    obtain ⟨j, hj, rfl⟩ := (hmem i).mp hi
    rw [hd j hj k hk, if_neg (fun e => by rw [e] at h0; omega)]
theorem Ptd_more {I I' : List Nat} (h : Ptd cs b I) (hI : ∀ i ∈ I, i ∈ I') : Ptd cs b I' := fun y hy => h y (fun i hi => hy i (hI i hi))
end BUILD
section BEGIN
/-- rows of the beginning -/
theorem bgL_rows {nu : Nat → Int32} {fo : Option Nat} {ki t : Nat} {lb : Int32} (ht : t ≤ 4) : ∀ (n i : Nat) (st : CS), st.1 = i → i + n ≤ t → (bgL nu fo ki t lb i n st).1 = i + n ∧
    (∀ r, r < i → sameR t (bgL nu fo ki t lb i n st).2.1 st.2.1 r r ∧ (bgL nu fo ki t lb i n st).2.2 r = st.2.2 r) ∧
    (∀ r, i ≤ r → r < i + n → (∀ k, k < t → (bgL nu fo ki t lb i n st).2.1 (r * 5 + k) = if k = r then 1 else 0) ∧ (bgL nu fo ki t lb i n st).2.1 (r * 5 + t) = (if r < ki then (bgV nu fo r).toInt64 else (-(bgV nu fo r)).toInt64) ∧ (bgL nu fo ki t lb i n st).2.2 r = (axM t &&& ((nI 1 <<< (nI r &&& 31)) ^^^ -1)) ||| lb)
  | 0, i, st, h, _ => ⟨h, fun r _ => ⟨fun k _ => rfl, rfl⟩, fun r h1 h2 => by omega⟩
  | n + 1, i, st, h, hi => by
    have h1 : (bgS nu fo ki t lb i st).1 = i + 1 := by show st.1 + 1 = i + 1; omega
    obtain ⟨a1, a2, a3⟩ := bgL_rows (nu := nu) (fo := fo) (ki := ki) (lb := lb) ht n (i + 1) (bgS nu fo ki t lb i st) h1 (by omega)
    have hrow : ∀ r k, k ≤ t → r ≠ i → (bgS nu fo ki t lb i st).2.1 (r * 5 + k) = st.2.1 (r * 5 + k) := fun r k hk hr => by
      show vp_updL (axL st.1 i (nI 1) st.2.1) (st.1 * 5 + t) _ (r * 5 + k) = _
      rw [pk_uLn (by omega)]
      unfold axL pL
      rw [if_neg (by omega)]
    have hmk : ∀ r, r ≠ i → (bgS nu fo ki t lb i st).2.2 r = st.2.2 r := fun r hr => upd_ne (by omega)
    rw [bgL]
    refine ⟨by rw [a1]; omega, fun r hr => ?_, fun r hr1 hr2 => ?_⟩
    · have := a2 r (by omega)
      exact ⟨fun k hk => (this.1 k hk).trans (hrow r k hk (by omega)), this.2.trans (hmk r (by omega))⟩
    · by_cases e : r = i
      · subst e
        have := a2 r (by omega)
        refine ⟨fun k hk => ?_, ?_, ?_⟩
        · rw [this.1 k (by omega)]
          show vp_updL (axL st.1 r (nI 1) st.2.1) (st.1 * 5 + t) _ (r * 5 + k) = _
          rw [pk_uLn (by omega)]
          unfold axL pL
          rw [if_pos (by omega), show r * 5 + k - st.1 * 5 = k by omega]
          rfl
        · rw [this.1 t (Nat.le_refl _)]
          show vp_updL (axL st.1 r (nI 1) st.2.1) (st.1 * 5 + t) _ (r * 5 + t) = _
          rw [h, pk_uLs]
        · rw [this.2]
          show upd st.2.2 st.1 _ r = _
          rw [h, upd_at]
      · exact a3 r (by omega) (by omega)
theorem bgF_rows {nu pt : Nat → Int32} {v ki t : Nat} (ht : t ≤ 4) (st : CS) : (bgF nu pt v ki t st).1 = bnW v t ∧
    (∀ r, r < t → (∀ k, k < t → (bgF nu pt v ki t st).2.1 (r * 5 + k) = if k = r then 1 else 0) ∧ (bgF nu pt v ki t st).2.1 (r * 5 + t) = (if r < ki then (bgV nu (if v = 2 then fstP pt 0 12 else none) r).toInt64 else (-(bgV nu (if v = 2 then fstP pt 0 12 else none) r)).toInt64) ∧ (bgF nu pt v ki t st).2.2 r = (axM t &&& ((nI 1 <<< (nI r &&& 31)) ^^^ -1)) ||| (if v = 1 then nI 1 <<< (nI t &&& 31) else nI 0)) ∧
    (¬ v = 0 → (∀ k, k < t → (bgF nu pt v ki t st).2.1 (t * 5 + k) = 0) ∧ (bgF nu pt v ki t st).2.1 (t * 5 + t) = (-1 : Int32).toInt64 ∧ (bgF nu pt v ki t st).2.2 t = axM t) := by
  obtain ⟨fo, hfo⟩ : ∃ fo, fo = (if v = 2 then fstP pt 0 12 else none) := ⟨_, rfl⟩
  obtain ⟨lb, hlb⟩ : ∃ lb, lb = (if v = 1 then nI 1 <<< (nI t &&& 31) else nI 0) := ⟨_, rfl⟩
  obtain ⟨s1, hs1⟩ : ∃ s1, s1 = bgL nu fo ki t lb 0 t (0, st.2) := ⟨_, rfl⟩
  have hr := bgL_rows (nu := nu) (fo := fo) (ki := ki) (lb := lb) ht t 0 (0, st.2) rfl (by omega)
  rw [← hs1] at hr
  have e : bgF nu pt v ki t st = if v = 0 then s1 else (s1.1 + 1, axL s1.1 t (-1) s1.2.1, upd s1.2.2 s1.1 (axM t)) := by
    rw [hs1, hfo, hlb]
    rfl
  rw [← hfo, ← hlb, e]
  have h1 : s1.1 = t := by rw [hr.1]; omega
  by_cases hv : v = 0
  · rw [if_pos hv]
    refine ⟨by rw [h1, bnW, if_pos hv], fun r hrt => hr.2.2 r (Nat.zero_le _) (by omega), fun q => absurd hv q⟩
  · rw [if_neg hv]
    refine ⟨by show s1.1 + 1 = _; rw [h1, bnW, if_neg hv], fun r hrt => ?_, fun _ => ?_⟩
    · have := hr.2.2 r (Nat.zero_le _) (by omega)
      have hk : ∀ k, k ≤ t → axL s1.1 t (-1) s1.2.1 (r * 5 + k) = s1.2.1 (r * 5 + k) := fun k hk => by
        unfold axL pL
        rw [if_neg (by omega)]
      refine ⟨fun k hkt => ?_, ?_, ?_⟩
      · show axL s1.1 t (-1) s1.2.1 (r * 5 + k) = _
        rw [hk k (by omega)]
        exact this.1 k hkt
      · show axL s1.1 t (-1) s1.2.1 (r * 5 + t) = _
        rw [hk t (Nat.le_refl _)]
        exact this.2.1
      · show upd s1.2.2 s1.1 (axM t) r = _
        rw [upd_ne (by omega)]
        exact this.2.2
    · have hk : ∀ k, k ≤ t → axL s1.1 t (-1) s1.2.1 (t * 5 + k) = if k = t then (-1 : Int32).toInt64 else 0 := fun k hk => by
        unfold axL pL
        rw [if_pos (by omega), show t * 5 + k - s1.1 * 5 = k by omega]
      refine ⟨fun k hkt => ?_, ?_, ?_⟩
      · show axL s1.1 t (-1) s1.2.1 (t * 5 + k) = _
        rw [hk k (by omega), if_neg (by omega)]
      · show axL s1.1 t (-1) s1.2.1 (t * 5 + t) = _
        rw [hk t (Nat.le_refl _), if_pos rfl]
      · show upd s1.2.2 s1.1 (axM t) t = _
        rw [h1, upd_at]
end BEGIN
