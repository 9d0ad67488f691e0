/-! THE CLASS'S CUT: which rows come out of it -/
section CUT
/-- rows of two states alike at a place -/
def sameR (t : Nat) (r r' : Nat → Int64) (i j : Nat) : Prop := ∀ k, k ≤ t → r (i * 5 + k) = r' (j * 5 + k)
theorem pL_at {f : Nat → Int64} {m t : Nat} {F : Nat → Int64} {k : Nat} (hk : k ≤ t) : pL f (m * 5) F (t + 1) (m * 5 + k) = F k := by
  unfold pL
  rw [if_pos (by omega), show m * 5 + k - m * 5 = k by omega]
theorem pL_ne {f : Nat → Int64} {m t i : Nat} {F : Nat → Int64} {k : Nat} (ht : t ≤ 4) (hk : k ≤ t) (h : i ≠ m) : pL f (m * 5) F (t + 1) (i * 5 + k) = f (i * 5 + k) := by
  unfold pL
  rw [if_neg (by omega)]
theorem upd_ne {f : Nat → Int32} {k j : Nat} {x : Int32} (h : j ≠ k) : upd f k x j = f j := if_neg h
theorem nbL_cg {tg tg' : Nat → Int32} {s : Int32} {a c : Nat} : ∀ (n i : Nat), (∀ j, j < i + n → tg j = tg' j) → nbL tg s a c i n = nbL tg' s a c i n
  | 0, _, _ => rfl
  | n + 1, i, h => by
    rw [nbL, nbL, h i (by omega), nbL_cg n (i + 1) (fun j hj => h j (by omega))]
theorem nbB_cg {tg tg' : Nat → Int32} {kf a c old : Nat} (h : ∀ j, j < old → tg j = tg' j) (ha : a < old) (hc : c < old) : nbB tg kf a c old = nbB tg' kf a c old := by
  unfold nbB
  rw [h a ha, h c hc, nbL_cg old 0 (fun j hj => h j (by omega))]
theorem jnD_cg {F G : Nat → Int64} : ∀ (n i : Nat) (d : Int64), (∀ k, k < i + n → F k = G k) → jnD F i n d = jnD G i n d
  | 0, _, _, _ => rfl
  | n + 1, i, d, h => by rw [jnD, jnD, h i (by omega), jnD_cg n (i + 1) _ (fun k hk => h k (by omega))]
theorem jnR_cg {t : Nat} {ray ray' sl : Nat → Int64} {w c : Nat} (h1 : sameR t ray ray' w w) (h2 : sameR t ray ray' c c) {k : Nat} (hk : k ≤ t) : jnR t ray sl w c k = jnR t ray' sl w c k := by
  have h : ∀ k, k ≤ t → jnG ray sl w c k = jnG ray' sl w c k := fun k hk => by unfold jnG; rw [h1 k hk, h2 k hk]
  unfold jnR
  rw [h k hk, jnD_cg (t + 1) 0 0 (fun k hk => h k (by omega))]
/-- joins, pair by pair -/
def jnF (t : Nat) (sl : Nat → Int64) (bd : Int32) : List (Nat × Nat) → CS → CS
  | [], st => st
  | p :: P, st => jnF t sl bd P (jnS t sl bd p.1 p.2 st)
theorem jnF_app (t : Nat) (sl : Nat → Int64) (bd : Int32) : ∀ (P Q : List (Nat × Nat)) (st : CS), jnF t sl bd (P ++ Q) st = jnF t sl bd Q (jnF t sl bd P st)
  | [], _, _ => rfl
  | p :: P, Q, st => by rw [List.cons_append, jnF, jnF, jnF_app t sl bd P Q]
theorem jnS_keep {t : Nat} {sl : Nat → Int64} {bd : Int32} {w c : Nat} {st : CS} (ht : t ≤ 4) : st.1 ≤ (jnS t sl bd w c st).1 ∧ ∀ i, i < st.1 → sameR t (jnS t sl bd w c st).2.1 st.2.1 i i ∧ (jnS t sl bd w c st).2.2 i = st.2.2 i := by
  unfold jnS
  split
  · refine ⟨Nat.le_succ _, fun i hi => ⟨fun k hk => pL_ne ht hk (by omega), upd_ne (by omega)⟩⟩
  · exact ⟨Nat.le_refl _, fun i _ => ⟨fun k _ => rfl, rfl⟩⟩
theorem jnF_keep {t : Nat} {sl : Nat → Int64} {bd : Int32} (ht : t ≤ 4) : ∀ (P : List (Nat × Nat)) (st : CS), st.1 ≤ (jnF t sl bd P st).1 ∧ ∀ i, i < st.1 → sameR t (jnF t sl bd P st).2.1 st.2.1 i i ∧ (jnF t sl bd P st).2.2 i = st.2.2 i
  | [], st => ⟨Nat.le_refl _, fun i _ => ⟨fun k _ => rfl, rfl⟩⟩
  | p :: P, st => by
    have h1 := jnS_keep (t := t) (sl := sl) (bd := bd) (w := p.1) (c := p.2) (st := st) ht
    have h2 := jnF_keep (sl := sl) (bd := bd) ht P (jnS t sl bd p.1 p.2 st)
    rw [jnF]
    refine ⟨Nat.le_trans h1.1 h2.1, fun i hi => ?_⟩
    have a := h1.2 i hi
    have b := h2.2 i (Nat.lt_of_lt_of_le hi h1.1)
    exact ⟨fun k hk => (b.1 k hk).trans (a.1 k hk), b.2.trans a.2⟩
theorem jnF_new {t : Nat} {sl : Nat → Int64} {bd : Int32} (ht : t ≤ 4) {old : Nat} (s0 : CS) : ∀ (P : List (Nat × Nat)) (st : CS), (∀ p ∈ P, p.1 < old ∧ p.2 < old) → old ≤ st.1 → (∀ i, i < old → sameR t st.2.1 s0.2.1 i i ∧ st.2.2 i = s0.2.2 i) → st.1 + P.length ≤ 144 →
    (jnF t sl bd P st).1 = st.1 + P.length ∧ ∀ (e : Nat) (p : Nat × Nat), P[e]? = some p → (∀ k, k ≤ t → (jnF t sl bd P st).2.1 ((st.1 + e) * 5 + k) = jnR t s0.2.1 sl p.1 p.2 k) ∧ (jnF t sl bd P st).2.2 (st.1 + e) = (s0.2.2 p.1 &&& s0.2.2 p.2) ||| bd
  | [], st, _, _, _, _ => ⟨rfl, fun e p h => by simp at h⟩
  | q :: P, st, hP, ho, hs, hl => by
    have hq := hP q List.mem_cons_self
    have hlt : st.1 < 144 := by simp only [List.length_cons] at hl; omega
    have e1 : (jnS t sl bd q.1 q.2 st) = (st.1 + 1, pL st.2.1 (st.1 * 5) (jnR t st.2.1 sl q.1 q.2) (t + 1), upd st.2.2 st.1 ((st.2.2 q.1 &&& st.2.2 q.2) ||| bd)) := if_pos hlt
    have hk := jnS_keep (t := t) (sl := sl) (bd := bd) (w := q.1) (c := q.2) (st := st) ht
    have hst1 : (jnS t sl bd q.1 q.2 st).1 = st.1 + 1 := by rw [e1]
    have ih := jnF_new (sl := sl) (bd := bd) ht s0 P (jnS t sl bd q.1 q.2 st) (fun p hp => hP p (List.mem_cons_of_mem _ hp)) (by rw [hst1]; omega) (fun i hi => by
      have a := hk.2 i (by omega)
      have b := hs i hi
      exact ⟨fun k hk => (a.1 k hk).trans (b.1 k hk), a.2.trans b.2⟩) (by rw [hst1]; simp only [List.length_cons] at hl; omega)
    rw [jnF]
    refine ⟨by rw [ih.1, hst1, List.length_cons]; omega, fun e p he => ?_⟩
    cases e with
    | zero =>
      have he : q = p := by simpa using he
      subst he
      have hkeep := jnF_keep (sl := sl) (bd := bd) ht P (jnS t sl bd q.1 q.2 st)
      have hz := hkeep.2 st.1 (by rw [hst1]; omega)
      rw [Nat.add_zero]
      refine ⟨fun k hk => ?_, ?_⟩
      · rw [hz.1 k hk, e1]
        show pL st.2.1 (st.1 * 5) (jnR t st.2.1 sl q.1 q.2) (t + 1) (st.1 * 5 + k) = _
        rw [pL_at hk]
        exact jnR_cg (hs q.1 hq.1).1 (hs q.2 hq.2).1 hk
      · rw [hz.2, e1]
        show upd st.2.2 st.1 ((st.2.2 q.1 &&& st.2.2 q.2) ||| bd) st.1 = _
        rw [upd_at, (hs q.1 hq.1).2, (hs q.2 hq.2).2]
    | succ e =>
      have he : P[e]? = some p := by simpa using he
      have := ih.2 e p he
      rw [hst1, show st.1 + 1 + e = st.1 + (e + 1) by omega] at this
      exact this
/-- the pairs that are joined -/
def prI (kf : Nat) (sl : Nat → Int64) (tg : Nat → Int32) (old v i : Nat) : Nat → List (Nat × Nat)
  | 0 => []
  | n + 1 => (if sl i < 0 ∧ nbB tg kf v i old = true then [(v, i)] else []) ++ prI kf sl tg old v (i + 1) n
def prO (kf : Nat) (sl : Nat → Int64) (tg : Nat → Int32) (old v : Nat) : Nat → List (Nat × Nat)
  | 0 => []
  | n + 1 => (if 0 < sl v then prI kf sl tg old v 0 old else []) ++ prO kf sl tg old (v + 1) n
theorem ctI_jn {t kf : Nat} {sl : Nat → Int64} {bd : Int32} {old v : Nat} {tg : Nat → Int32} (ht : t ≤ 4) (hv : v < old) : ∀ (n i : Nat) (st : CS), i + n ≤ old → old ≤ st.1 → (∀ j, j < old → st.2.2 j = tg j) → ctI t kf sl bd old v i n st = jnF t sl bd (prI kf sl tg old v i n) st
  | 0, _, _, _, _, _ => rfl
  | n + 1, i, st, hi, ho, hs => by
    rw [ctI, prI, jnF_app, nbB_cg hs hv (by omega)]
    by_cases h : sl i < 0 ∧ nbB tg kf v i old = true
    · rw [if_pos h, if_pos h]
      have hk := jnS_keep (t := t) (sl := sl) (bd := bd) (w := v) (c := i) (st := st) ht
      exact ctI_jn ht hv n (i + 1) (jnS t sl bd v i st) (by omega) (Nat.le_trans ho hk.1) (fun j hj => ((hk.2 j (by omega)).2).trans (hs j hj))
    · rw [if_neg h, if_neg h]
      exact ctI_jn ht hv n (i + 1) st (by omega) ho hs
theorem ctO_jn {t kf : Nat} {sl : Nat → Int64} {bd : Int32} {old : Nat} {tg : Nat → Int32} (ht : t ≤ 4) : ∀ (n v : Nat) (st : CS), v + n ≤ old → old ≤ st.1 → (∀ j, j < old → st.2.2 j = tg j) → ctO t kf sl bd old v n st = jnF t sl bd (prO kf sl tg old v n) st
  | 0, _, _, _, _, _ => rfl
  | n + 1, v, st, hv, ho, hs => by
    rw [ctO, prO, jnF_app]
    by_cases h : 0 < sl v
    · rw [if_pos h, if_pos h, ctI_jn ht (by omega) old 0 st (by omega) ho hs]
      have hk := jnF_keep (sl := sl) (bd := bd) ht (prI kf sl tg old v 0 old) st
      exact ctO_jn ht n (v + 1) _ (by omega) (Nat.le_trans ho hk.1) (fun j hj => ((hk.2 j (by omega)).2).trans (hs j hj))
    · rw [if_neg h, if_neg h]
      exact ctO_jn ht n (v + 1) st (by omega) ho hs
theorem prI_mem {kf : Nat} {sl : Nat → Int64} {tg : Nat → Int32} {old v : Nat} {p : Nat × Nat} : ∀ {n i : Nat}, p ∈ prI kf sl tg old v i n ↔ p.1 = v ∧ i ≤ p.2 ∧ p.2 < i + n ∧ sl p.2 < 0 ∧ nbB tg kf v p.2 old = true
  | 0, i => by simp [prI]; omega
  | n + 1, i => by
    rw [prI, List.mem_append, prI_mem (n := n) (i := i + 1)]
    by_cases h : sl i < 0 ∧ nbB tg kf v i old = true
    · rw [if_pos h, List.mem_singleton]
      constructor
      · rintro (e | e)
        · subst e; exact ⟨rfl, Nat.le_refl _, by show i < i + (n + 1); omega, h.1, h.2⟩
        · exact ⟨e.1, by omega, by omega, e.2.2.2⟩
      · rintro ⟨e1, e2, e3, e4⟩
        by_cases q : p.2 = i
        · left; exact Prod.ext e1 q
        · right; exact ⟨e1, by omega, by omega, e4⟩
    · rw [if_neg h]
      constructor
      · rintro (e | e)
        · cases e
        · exact ⟨e.1, by omega, by omega, e.2.2.2⟩
      · rintro ⟨e1, e2, e3, e4⟩
        right
        by_cases q : p.2 = i
        · rw [q] at e4; exact absurd e4 h
        · exact ⟨e1, by omega, by omega, e4⟩
theorem prO_mem {kf : Nat} {sl : Nat → Int64} {tg : Nat → Int32} {old : Nat} {p : Nat × Nat} : ∀ {n v : Nat}, p ∈ prO kf sl tg old v n ↔ v ≤ p.1 ∧ p.1 < v + n ∧ 0 < sl p.1 ∧ p.2 < old ∧ sl p.2 < 0 ∧ nbB tg kf p.1 p.2 old = true
  | 0, v => by simp [prO]; omega
  | n + 1, v => by
    rw [prO, List.mem_append, prO_mem (n := n) (v := v + 1)]
    by_cases h : 0 < sl v
    · rw [if_pos h, prI_mem]
      constructor
      · rintro (⟨e1, e2, e3, e4, e5⟩ | e)
        · rw [e1]; exact ⟨Nat.le_refl _, by omega, h, by omega, e4, e5⟩
        · exact ⟨by omega, by omega, e.2.2⟩
      · rintro ⟨e1, e2, e3, e4, e5, e6⟩
        by_cases q : p.1 = v
        · left; rw [q] at e6; exact ⟨q, Nat.zero_le _, by omega, e5, e6⟩
        · right; exact ⟨by omega, by omega, e3, e4, e5, e6⟩
    · rw [if_neg h]
      constructor
      · rintro (e | e)
        · cases e
        · exact ⟨by omega, by omega, e.2.2⟩
      · rintro ⟨e1, e2, e3, e4⟩
        right
        by_cases q : p.1 = v
        · rw [q] at e3; exact absurd e3 h
        · exact ⟨by omega, by omega, e3, e4⟩
theorem prI_nd {kf : Nat} {sl : Nat → Int64} {tg : Nat → Int32} {old v : Nat} : ∀ (n i : Nat), (prI kf sl tg old v i n).Nodup
  | 0, _ => List.nodup_nil
  | n + 1, i => by
    rw [prI]
    split
    · refine List.nodup_append.mpr ⟨by simp, prI_nd n (i + 1), fun a ha c hc q => ?_⟩
      rw [List.mem_singleton] at ha
      rw [prI_mem, ← q, ha] at hc
      have := hc.2.1
      simp only at this
      omega
    · exact prI_nd n (i + 1)
theorem prO_nd {kf : Nat} {sl : Nat → Int64} {tg : Nat → Int32} {old : Nat} : ∀ (n v : Nat), (prO kf sl tg old v n).Nodup
  | 0, _ => List.nodup_nil
  | n + 1, v => by
    rw [prO]
    split
    · refine List.nodup_append.mpr ⟨prI_nd _ _, prO_nd n (v + 1), fun a ha c hc q => ?_⟩
      rw [prI_mem] at ha
      rw [prO_mem, ← q] at hc
      omega
    · exact prO_nd n (v + 1)
/-- which rows the last loop keeps -/
def kpL (sl : Nat → Int64) (old r : Nat) : Nat → List Nat
  | 0 => []
  | n + 1 => (if r < old ∧ sl r < 0 then [] else [r]) ++ kpL sl old (r + 1) n
theorem kpL_mem {sl : Nat → Int64} {old j : Nat} : ∀ {n r : Nat}, j ∈ kpL sl old r n ↔ r ≤ j ∧ j < r + n ∧ ¬ (j < old ∧ sl j < 0)
  | 0, r => by simp [kpL]; omega
  | n + 1, r => by
    rw [kpL, List.mem_append, kpL_mem (n := n) (r := r + 1)]
    by_cases h : r < old ∧ sl r < 0
    · rw [if_pos h]
      constructor
      · rintro (e | e)
        · cases e
        · exact ⟨by omega, by omega, e.2.2⟩
      · rintro ⟨e1, e2, e3⟩
        right
        by_cases q : j = r
        · rw [q] at e3; exact absurd h e3
        · exact ⟨by omega, by omega, e3⟩
    · rw [if_neg h, List.mem_singleton]
      constructor
      · rintro (e | e)
        · subst e; exact ⟨Nat.le_refl _, by omega, h⟩
        · exact ⟨by omega, by omega, e.2.2⟩
      · rintro ⟨e1, e2, e3⟩
        by_cases q : j = r
        · left; exact q
        · right; exact ⟨by omega, by omega, e3⟩
theorem kpL_lt {sl : Nat → Int64} {old : Nat} : ∀ (n r : Nat), (kpL sl old r n).Pairwise (· < ·)
  | 0, _ => List.Pairwise.nil
  | n + 1, r => by
    rw [kpL]
    split
    · exact kpL_lt n (r + 1)
    · refine List.pairwise_append.mpr ⟨List.pairwise_singleton _ _, kpL_lt n (r + 1), fun a ha c hc => ?_⟩
      rw [List.mem_singleton] at ha
      rw [kpL_mem] at hc
      omega
def cmB (sl : Nat → Int64) (bd : Int32) (old r : Nat) (m : Int32) : Int32 := if r < old ∧ sl r = 0 then m ||| bd else m
theorem cmL_kp {t : Nat} {sl : Nat → Int64} {bd : Int32} {old : Nat} (ht : t ≤ 4) (s0 : CS) : ∀ (n r : Nat) (st : CS) (Kp : List Nat), st.1 = Kp.length → Kp.length ≤ r → (∀ e j, Kp[e]? = some j → sameR t st.2.1 s0.2.1 e j ∧ st.2.2 e = cmB sl bd old j (s0.2.2 j)) → (∀ i, r ≤ i → sameR t st.2.1 s0.2.1 i i ∧ st.2.2 i = s0.2.2 i) →
    (cmL t sl bd old r n st).1 = (Kp ++ kpL sl old r n).length ∧ ∀ e j, (Kp ++ kpL sl old r n)[e]? = some j → sameR t (cmL t sl bd old r n st).2.1 s0.2.1 e j ∧ (cmL t sl bd old r n st).2.2 e = cmB sl bd old j (s0.2.2 j)
  | 0, r, st, Kp, h1, _, h3, _ => by
    rw [kpL, List.append_nil]
    exact ⟨h1, h3⟩
  | n + 1, r, st, Kp, h1, h2, h3, h4 => by
    rw [cmL, kpL]
    by_cases h : r < old ∧ sl r < 0
    · have e : cmS t sl bd old r st = st := if_pos h
      rw [e, if_pos h, List.nil_append]
      exact cmL_kp ht s0 n (r + 1) st Kp h1 (by omega) h3 (fun i hi => h4 i (by omega))
    · have e : cmS t sl bd old r st = (st.1 + 1, mvL t r st.1 st.2.1, upd (cmT sl bd old r st.2.2) st.1 (cmT sl bd old r st.2.2 r)) := if_neg h
      rw [e, if_neg h, ← List.append_assoc]
      have hr4 := h4 r (Nat.le_refl _)
      have hcm : cmT sl bd old r st.2.2 r = cmB sl bd old r (s0.2.2 r) := by
        unfold cmT cmB
        rw [hr4.2]
        split
        · exact upd_at _ _ _
        · exact hr4.2
      have hct : ∀ i, i ≠ r → cmT sl bd old r st.2.2 i = st.2.2 i := fun i hi => by
        unfold cmT
        split
        · exact upd_ne hi
        · rfl
      refine cmL_kp ht s0 n (r + 1) _ (Kp ++ [r]) (by simp [h1]) (by simp; omega) (fun e' j hj => ?_) (fun i hi => ?_)
      · by_cases q : e' < Kp.length
        · rw [List.getElem?_append_left q] at hj
          have := h3 e' j hj
          refine ⟨fun k hk => ?_, ?_⟩
          · show mvL t r st.1 st.2.1 (e' * 5 + k) = _
            unfold mvL
            rw [pL_ne ht hk (by omega)]
            exact this.1 k hk
          · show upd (cmT sl bd old r st.2.2) st.1 (cmT sl bd old r st.2.2 r) e' = _
            rw [upd_ne (by omega), hct e' (by omega)]
            exact this.2
        · have hlen : e' < (Kp ++ [r]).length := (List.getElem?_eq_some_iff.mp hj).1
          have hee : e' = Kp.length := by simp at hlen; omega
          rw [hee, List.getElem?_append_right (Nat.le_refl _), Nat.sub_self] at hj
          have hj : r = j := by simpa using hj
          subst hj
          rw [hee, ← h1]
          refine ⟨fun k hk => ?_, ?_⟩
          · show mvL t r st.1 st.2.1 (st.1 * 5 + k) = _
            unfold mvL
            rw [pL_at hk]
            exact hr4.1 k hk
          · show upd (cmT sl bd old r st.2.2) st.1 (cmT sl bd old r st.2.2 r) st.1 = _
            rw [upd_at]
            exact hcm
      · have := h4 i (by omega)
        refine ⟨fun k hk => ?_, ?_⟩
        · show mvL t r st.1 st.2.1 (i * 5 + k) = _
          unfold mvL
          rw [pL_ne ht hk (by omega)]
          exact this.1 k hk
        · show upd (cmT sl bd old r st.2.2) st.1 (cmT sl bd old r st.2.2 r) i = _
          rw [upd_ne (by omega), hct i (by omega)]
          exact this.2
end CUT
