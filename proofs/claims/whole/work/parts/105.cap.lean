/-! HOW MANY EDGES A CONE HAS AT MOST: each edge is the highest or the lowest of some faces, and a face has one of each -/
section CAP
variable {β : Type}
def lsN (f : β → Nat) : List β → Nat
  | [] => 0
  | v :: L => f v + lsN f L
theorem lsN_app (f : β → Nat) : ∀ A B : List β, lsN f (A ++ B) = lsN f A + lsN f B
  | [], B => by simp [lsN]
  | v :: A, B => by rw [List.cons_append, lsN, lsN, lsN_app f A B]; omega
theorem lsN_ge {f : β → Nat} {k : Nat} : ∀ {L : List β}, (∀ v ∈ L, k ≤ f v) → k * L.length ≤ lsN f L
  | [], _ => Nat.le_refl _
  | v :: L, h => by
    rw [lsN, List.length_cons, Nat.mul_succ]
    have h1 := h v List.mem_cons_self
    have h2 := lsN_ge (f := f) (L := L) (fun w hw => h w (List.mem_cons_of_mem _ hw))
    omega
theorem lsN_ge2 {f : β → Nat} {k e : Nat} {L : List β} (h : ∀ v ∈ L, k ≤ f v) {p q : β} (hp : p ∈ L) (hq : q ∈ L) (hpq : p ≠ q) (h1 : k + e ≤ f p) (h2 : k + e ≤ f q) : k * L.length + 2 * e ≤ lsN f L := by
  obtain ⟨A, B, rfl⟩ := List.append_of_mem hp
  have key : ∀ (C D E : List β), (∀ v ∈ C, k ≤ f v) → (∀ v ∈ D, k ≤ f v) → (∀ v ∈ E, k ≤ f v) → k * C.length + k * D.length + k * E.length ≤ lsN f C + lsN f D + lsN f E := fun C D E a b c => by
    have := lsN_ge a
    have := lsN_ge b
    have := lsN_ge c
    omega
  rcases List.mem_append.mp hq with z | z
  · obtain ⟨C, D, rfl⟩ := List.append_of_mem z
    have := key C D B (fun v hv => h v (by simp [hv])) (fun v hv => h v (by simp [hv])) (fun v hv => h v (by simp [hv]))
    rw [lsN_app, lsN_app, lsN, lsN]
    simp only [List.length_append, List.length_cons, Nat.mul_add, Nat.mul_one]
    omega
  · rcases List.mem_cons.mp z with z | z
    · exact absurd z.symm hpq
    · obtain ⟨C, D, rfl⟩ := List.append_of_mem z
      have := key A C D (fun v hv => h v (by simp [hv])) (fun v hv => h v (by simp [hv])) (fun v hv => h v (by simp [hv]))
      rw [lsN_app, lsN, lsN_app, lsN]
      simp only [List.length_append, List.length_cons, Nat.mul_add, Nat.mul_one]
      omega
noncomputable def cnt {κ : Type} (R : κ → Prop) (K : List κ) : Nat := (K.filter (fun k => @decide (R k) (Classical.propDecidable _))).length
theorem cnt_cons {κ : Type} (R : κ → Prop) (k : κ) (K : List κ) : cnt R (k :: K) = (if @decide (R k) (Classical.propDecidable _) = true then 1 else 0) + cnt R K := by
  unfold cnt
  rw [List.filter_cons]
  split <;> simp <;> omega
theorem cnt_ge {κ : Type} {R : κ → Prop} {K ks : List κ} (hn : ks.Nodup) (h : ∀ k ∈ ks, k ∈ K ∧ R k) : ks.length ≤ cnt R K :=
  len_sub hn (fun k hk => List.mem_filter.mpr ⟨(h k hk).1, @decide_eq_true _ (Classical.propDecidable _) (h k hk).2⟩)
/-- each slot is taken once at most -/
theorem dbl {κ : Type} {R : β → κ → Prop} {L : List β} (hL : L.Nodup) (hu : ∀ v ∈ L, ∀ w ∈ L, ∀ k, R v k → R w k → v = w) : ∀ K : List κ, lsN (fun v => cnt (R v) K) L ≤ K.length
  | [] => by
    have : ∀ L : List β, lsN (fun v => cnt (R v) []) L = 0 := fun L => by
      induction L with
      | nil => rfl
      | cons v L ih => rw [lsN, ih]; rfl
    rw [this]
    exact Nat.le_refl _
  | k :: K => by
    have ih := dbl hL hu K
    have h1 : ∀ L : List β, lsN (fun v => cnt (R v) (k :: K)) L = lsN (fun v => if @decide (R v k) (Classical.propDecidable _) = true then 1 else 0) L + lsN (fun v => cnt (R v) K) L := fun L => by
      induction L with
      | nil => rfl
      | cons v L ih => rw [lsN, lsN, lsN, ih, cnt_cons]; omega
    have h2 : ∀ L : List β, L.Nodup → (∀ v ∈ L, ∀ w ∈ L, R v k → R w k → v = w) → lsN (fun v => if @decide (R v k) (Classical.propDecidable _) = true then 1 else 0) L ≤ 1 := fun L => by
      induction L with
      | nil => intro _ _; exact Nat.zero_le _
      | cons v L ih =>
        intro hn hu
        have hn' := List.nodup_cons.mp hn
        rw [lsN]
        by_cases hv : R v k
        · have h0 : ∀ M : List β, (∀ w ∈ M, ¬ R w k) → lsN (fun v => if @decide (R v k) (Classical.propDecidable _) = true then 1 else 0) M = 0 := fun M => by
            induction M with
            | nil => intro _; rfl
            | cons w M ih2 =>
              intro hM
              rw [lsN, ih2 (fun z hz => hM z (List.mem_cons_of_mem _ hz)), if_neg (fun q => hM w List.mem_cons_self (@of_decide_eq_true _ (Classical.propDecidable _) q))]
          rw [h0 L (fun w hw hR => hn'.1 ((hu v List.mem_cons_self w (List.mem_cons_of_mem _ hw) hv hR) ▸ hw))]
          split <;> omega
        · rw [if_neg (fun q => hv (@of_decide_eq_true _ (Classical.propDecidable _) q))]
          have := ih hn'.2 (fun a ha b hb => hu a (List.mem_cons_of_mem _ ha) b (List.mem_cons_of_mem _ hb))
          omega
    rw [h1, List.length_cons]
    have := h2 L hL (fun v hv w hw a b => hu v hv w hw k a b)
    omega
/-- how much higher w is than v -/
def kap (c g : β → Int) (v w : β) : Int := g v * c w - c v * g w
theorem kap_max (c g : β → Int) : ∀ {L : List β}, L ≠ [] → (∀ v ∈ L, 0 < g v) → ∃ v ∈ L, ∀ w ∈ L, kap c g v w ≤ 0
  | [], h, _ => absurd rfl h
  | u :: L, _, hg => by
    by_cases hL : L = []
    · refine ⟨u, List.mem_cons_self, fun w hw => ?_⟩
      rw [hL] at hw
      rcases List.mem_cons.mp hw with e | e
      · rw [e]; unfold kap; grind
      · cases e
    · obtain ⟨v, hv, hm⟩ := kap_max c g hL (fun v hv => hg v (List.mem_cons_of_mem _ hv))
      have gv := hg v (List.mem_cons_of_mem _ hv)
      have gu := hg u List.mem_cons_self
      by_cases h : kap c g v u ≤ 0
      · exact ⟨v, List.mem_cons_of_mem _ hv, fun w hw => (List.mem_cons.mp hw).elim (fun e => e ▸ h) (hm w)⟩
      · refine ⟨u, List.mem_cons_self, fun w hw => ?_⟩
        rcases List.mem_cons.mp hw with e | e
        · rw [e]; unfold kap; grind
        · have h1 := hm w e
          have gw := hg w (List.mem_cons_of_mem _ e)
          unfold kap at h h1 ⊢
          -- g v (g u c w - c u g w) = g u (g v c w - c v g w) - g w (g v c u - c v g u)
          have e1 : g v * (g u * c w - c u * g w) = g u * (g v * c w - c v * g w) - g w * (g v * c u - c v * g u) := by grind
          have a1 : g u * (g v * c w - c v * g w) ≤ 0 := by
            have := Int.mul_nonneg (show 0 ≤ g u by omega) (show 0 ≤ -(g v * c w - c v * g w) by omega)
            have e : g u * -(g v * c w - c v * g w) = -(g u * (g v * c w - c v * g w)) := by grind
            omega
          have a2 : 0 ≤ g w * (g v * c u - c v * g u) := Int.mul_nonneg (by omega) (by omega)
          refine Classical.byContradiction (fun q => ?_)
          have := Int.mul_pos gv (show 0 < g u * c w - c u * g w by omega)
          omega
def prs : List Nat → List (Nat × Nat)
  | [] => []
  | i :: J => J.map (fun j => (i, j)) ++ prs J
theorem prs_len : ∀ J : List Nat, 2 * (prs J).length = J.length * (J.length - 1)
  | [] => rfl
  | i :: J => by
    rw [prs, List.length_append, List.length_map, List.length_cons]
    have := prs_len J
    cases h : J.length with
    | zero => rw [h] at this; simp at this ⊢; omega
    | succ n =>
      rw [h] at this
      simp only [Nat.add_sub_cancel] at this ⊢
      have e : (n + 1 + 1) * (n + 1) = (n + 1) * n + 2 * (n + 1) := by grind
      omega
theorem prs_mem : ∀ {J : List Nat}, J.Pairwise (· < ·) → ∀ {i j : Nat}, i ∈ J → j ∈ J → i < j → (i, j) ∈ prs J
  | k :: J, hJ, i, j, hi, hj, h => by
    have hJ' := List.pairwise_cons.mp hJ
    rw [prs]
    rcases List.mem_cons.mp hi with e | e
    · subst e
      rcases List.mem_cons.mp hj with e2 | e2
      · omega
      · exact List.mem_append_left _ (List.mem_map_of_mem e2)
    · rcases List.mem_cons.mp hj with e2 | e2
      · subst e2
        have := hJ'.1 i e
        omega
      · exact List.mem_append_right _ (prs_mem hJ'.2 e e2 h)
variable (c g : β → Int) (bt : Nat → β → Int) (L : List β)
/-- an edge is the highest (lowest) of a face where two bounds are tight -/
def top2 (σ : Int) (v : β) (i j : Nat) : Prop := bt i v = 0 ∧ bt j v = 0 ∧ ∀ w ∈ L, bt i w = 0 → bt j w = 0 → σ * kap c g v w ≤ 0
def top1 (σ : Int) (v : β) (i : Nat) : Prop := bt i v = 0 ∧ ∀ w ∈ L, bt i w = 0 → σ * kap c g v w ≤ 0
variable {c g bt L}
theorem kap_anti (v w : β) : kap c g w v = -(kap c g v w) := by unfold kap; grind
theorem cap4 {J : List Nat} (hJ : J.Pairwise (· < ·)) (hJl : J.length ≤ 16) (hL : L.Nodup) (hg : ∀ v ∈ L, 0 < g v) (hne : ∀ v ∈ L, ∀ w ∈ L, v ≠ w → kap c g v w ≠ 0) (hb : ∀ i ∈ J, ∀ v ∈ L, 0 ≤ bt i v)
    (hS : ∀ v ∈ L, ∃ p1 p2 p3 p4 : Nat, (p1 < p2 ∧ p2 < p3 ∧ p3 < p4) ∧ (p1 ∈ J ∧ p2 ∈ J ∧ p3 ∈ J ∧ p4 ∈ J) ∧ (bt p1 v = 0 ∧ bt p2 v = 0 ∧ bt p3 v = 0 ∧ bt p4 v = 0) ∧ ∃ m u1 u2 u3 u4 : Int, 0 < m ∧ ∀ w ∈ L, m * kap c g v w = u1 * bt p1 w + u2 * bt p2 w + u3 * bt p3 w + u4 * bt p4 w) :
    L.length ≤ 116 := by
  obtain ⟨K, hK⟩ : ∃ K : List ((Nat × Nat) × Bool), K = (prs J).flatMap (fun p => [(p, true), (p, false)]) := ⟨_, rfl⟩
  have hKl : K.length ≤ 240 := by
    have e : K.length = 2 * (prs J).length := by
      rw [hK]
      generalize prs J = P
      induction P with
      | nil => rfl
      | cons p P ih => rw [List.flatMap_cons, List.length_append, ih]; simp only [List.length_cons, List.length_nil]; omega
    rw [e, prs_len]
    have : J.length * (J.length - 1) ≤ 16 * 15 := Nat.mul_le_mul hJl (by omega)
    omega
  have hKm : ∀ {i j : Nat} (s : Bool), i ∈ J → j ∈ J → i < j → ((i, j), s) ∈ K := fun {i j} s hi hj h => by
    rw [hK]
    refine List.mem_flatMap.mpr ⟨(i, j), prs_mem hJ hi hj h, ?_⟩
    cases s <;> simp
  obtain ⟨R, hR⟩ : ∃ R : β → ((Nat × Nat) × Bool) → Prop, R = fun v k => top2 c g bt L (if k.2 = true then 1 else -1) v k.1.1 k.1.2 := ⟨_, rfl⟩
  have hu : ∀ v ∈ L, ∀ w ∈ L, ∀ k, R v k → R w k → v = w := fun v hv w hw k h1 h2 => by
    rw [hR] at h1 h2
    refine Classical.byContradiction (fun q => hne v hv w hw q ?_)
    have a := h1.2.2 w hw h2.1 h2.2.1
    have b := h2.2.2 v hv h1.1 h1.2.1
    rw [kap_anti v w] at b
    by_cases hs : k.2 = true
    · rw [if_pos hs] at a b; omega
    · rw [if_neg hs] at a b; omega
  have hdbl := dbl hL hu K
  have hR1 : ∀ {v : β} {i j : Nat}, top2 c g bt L 1 v i j → R v ((i, j), true) := fun h => by rw [hR]; exact h
  have hR2 : ∀ {v : β} {i j : Nat}, top2 c g bt L (-1) v i j → R v ((i, j), false) := fun h => by rw [hR]; exact h
  -- each edge has two slots
  have h2 : ∀ v ∈ L, 2 ≤ cnt (R v) K := fun v hv => by
    obtain ⟨p1, p2, p3, p4, ⟨l1, l2, l3⟩, ⟨m1, m2, m3, m4⟩, ⟨z1, z2, z3, z4⟩, m, u1, u2, u3, u4, hm, he⟩ := hS v hv
    have tp : ∀ (x : Int) (w : β), m * kap c g v w = x → x ≤ 0 → 1 * kap c g v w ≤ 0 := fun x w e hx => by
      refine Classical.byContradiction (fun q => ?_)
      have := Int.mul_pos hm (show 0 < kap c g v w by omega)
      omega
    have bt' : ∀ (x : Int) (w : β), m * kap c g v w = x → 0 ≤ x → -1 * kap c g v w ≤ 0 := fun x w e hx => by
      refine Classical.byContradiction (fun q => ?_)
      have := Int.mul_pos hm (show 0 < -(kap c g v w) by omega)
      have e2 : m * -(kap c g v w) = -(m * kap c g v w) := by grind
      omega
    have neg : ∀ (u : Int) (i : Nat) (w : β), i ∈ J → w ∈ L → u ≤ 0 → u * bt i w ≤ 0 := fun u i w hi hw h => by
      have := Int.mul_nonneg (show 0 ≤ -u by omega) (hb i hi w hw)
      have e : -u * bt i w = -(u * bt i w) := by grind
      omega
    have pos : ∀ (u : Int) (i : Nat) (w : β), i ∈ J → w ∈ L → 0 ≤ u → 0 ≤ u * bt i w := fun u i w hi hw h => Int.mul_nonneg h (hb i hi w hw)
    have t12 : u3 ≤ 0 → u4 ≤ 0 → top2 c g bt L 1 v p1 p2 := fun a b => ⟨z1, z2, fun w hw e1 e2 => tp _ w (he w hw) (by rw [e1, e2]; have := neg u3 p3 w m3 hw a; have := neg u4 p4 w m4 hw b; omega)⟩
    have b12 : 0 ≤ u3 → 0 ≤ u4 → top2 c g bt L (-1) v p1 p2 := fun a b => ⟨z1, z2, fun w hw e1 e2 => bt' _ w (he w hw) (by rw [e1, e2]; have := pos u3 p3 w m3 hw a; have := pos u4 p4 w m4 hw b; omega)⟩
    have t34 : u1 ≤ 0 → u2 ≤ 0 → top2 c g bt L 1 v p3 p4 := fun a b => ⟨z3, z4, fun w hw e1 e2 => tp _ w (he w hw) (by rw [e1, e2]; have := neg u1 p1 w m1 hw a; have := neg u2 p2 w m2 hw b; omega)⟩
    have b34 : 0 ≤ u1 → 0 ≤ u2 → top2 c g bt L (-1) v p3 p4 := fun a b => ⟨z3, z4, fun w hw e1 e2 => bt' _ w (he w hw) (by rw [e1, e2]; have := pos u1 p1 w m1 hw a; have := pos u2 p2 w m2 hw b; omega)⟩
    have t13 : u2 ≤ 0 → u4 ≤ 0 → top2 c g bt L 1 v p1 p3 := fun a b => ⟨z1, z3, fun w hw e1 e2 => tp _ w (he w hw) (by rw [e1, e2]; have := neg u2 p2 w m2 hw a; have := neg u4 p4 w m4 hw b; omega)⟩
    have b13 : 0 ≤ u2 → 0 ≤ u4 → top2 c g bt L (-1) v p1 p3 := fun a b => ⟨z1, z3, fun w hw e1 e2 => bt' _ w (he w hw) (by rw [e1, e2]; have := pos u2 p2 w m2 hw a; have := pos u4 p4 w m4 hw b; omega)⟩
    have t24 : u1 ≤ 0 → u3 ≤ 0 → top2 c g bt L 1 v p2 p4 := fun a b => ⟨z2, z4, fun w hw e1 e2 => tp _ w (he w hw) (by rw [e1, e2]; have := neg u1 p1 w m1 hw a; have := neg u3 p3 w m3 hw b; omega)⟩
    have b24 : 0 ≤ u1 → 0 ≤ u3 → top2 c g bt L (-1) v p2 p4 := fun a b => ⟨z2, z4, fun w hw e1 e2 => bt' _ w (he w hw) (by rw [e1, e2]; have := pos u1 p1 w m1 hw a; have := pos u3 p3 w m3 hw b; omega)⟩
    have t14 : u2 ≤ 0 → u3 ≤ 0 → top2 c g bt L 1 v p1 p4 := fun a b => ⟨z1, z4, fun w hw e1 e2 => tp _ w (he w hw) (by rw [e1, e2]; have := neg u2 p2 w m2 hw a; have := neg u3 p3 w m3 hw b; omega)⟩
    have b14 : 0 ≤ u2 → 0 ≤ u3 → top2 c g bt L (-1) v p1 p4 := fun a b => ⟨z1, z4, fun w hw e1 e2 => bt' _ w (he w hw) (by rw [e1, e2]; have := pos u2 p2 w m2 hw a; have := pos u3 p3 w m3 hw b; omega)⟩
    have t23 : u1 ≤ 0 → u4 ≤ 0 → top2 c g bt L 1 v p2 p3 := fun a b => ⟨z2, z3, fun w hw e1 e2 => tp _ w (he w hw) (by rw [e1, e2]; have := neg u1 p1 w m1 hw a; have := neg u4 p4 w m4 hw b; omega)⟩
    have b23 : 0 ≤ u1 → 0 ≤ u4 → top2 c g bt L (-1) v p2 p3 := fun a b => ⟨z2, z3, fun w hw e1 e2 => bt' _ w (he w hw) (by rw [e1, e2]; have := pos u1 p1 w m1 hw a; have := pos u4 p4 w m4 hw b; omega)⟩
    have two : ∀ k1 k2 : (Nat × Nat) × Bool, k1 ≠ k2 → (k1 ∈ K ∧ R v k1) → (k2 ∈ K ∧ R v k2) → 2 ≤ cnt (R v) K := fun k1 k2 hk h1 h2 => cnt_ge (ks := [k1, k2]) (by simp [hk]) (fun k hk => by
      rcases List.mem_cons.mp hk with e | e
      · exact e ▸ h1
      · rcases List.mem_cons.mp e with e | e
        · exact e ▸ h2
        · cases e)
    have dj : ∀ {i j i' j' : Nat} {s s' : Bool}, (i ≠ i' ∨ j ≠ j') → ((i, j), s) ≠ ((i', j'), s') := fun h q => by
      simp only [Prod.mk.injEq] at q
      omega
    rcases Int.le_total u1 0 with a1 | a1 <;> rcases Int.le_total u2 0 with a2 | a2 <;> rcases Int.le_total u3 0 with a3 | a3 <;> rcases Int.le_total u4 0 with a4 | a4
    · exact two _ _ (dj (by omega)) ⟨hKm true m1 m2 l1, hR1 (t12 a3 a4)⟩ ⟨hKm true m3 m4 l3, hR1 (t34 a1 a2)⟩
    · exact two _ _ (dj (by omega)) ⟨hKm true m3 m4 l3, hR1 (t34 a1 a2)⟩ ⟨hKm true m2 m4 (by omega), hR1 (t24 a1 a3)⟩
    · exact two _ _ (dj (by omega)) ⟨hKm true m3 m4 l3, hR1 (t34 a1 a2)⟩ ⟨hKm true m1 m3 (by omega), hR1 (t13 a2 a4)⟩
    · exact two _ _ (dj (by omega)) ⟨hKm true m3 m4 l3, hR1 (t34 a1 a2)⟩ ⟨hKm false m1 m2 l1, hR2 (b12 a3 a4)⟩
    · exact two _ _ (dj (by omega)) ⟨hKm true m1 m2 l1, hR1 (t12 a3 a4)⟩ ⟨hKm true m2 m4 (by omega), hR1 (t24 a1 a3)⟩
    · exact two _ _ (dj (by omega)) ⟨hKm true m2 m4 (by omega), hR1 (t24 a1 a3)⟩ ⟨hKm false m1 m3 (by omega), hR2 (b13 a2 a4)⟩
    · exact two _ _ (dj (by omega)) ⟨hKm true m2 m3 l2, hR1 (t23 a1 a4)⟩ ⟨hKm false m1 m4 (by omega), hR2 (b14 a2 a3)⟩
    · exact two _ _ (dj (by omega)) ⟨hKm false m1 m2 l1, hR2 (b12 a3 a4)⟩ ⟨hKm false m1 m3 (by omega), hR2 (b13 a2 a4)⟩
    · exact two _ _ (dj (by omega)) ⟨hKm true m1 m2 l1, hR1 (t12 a3 a4)⟩ ⟨hKm true m1 m3 (by omega), hR1 (t13 a2 a4)⟩
    · exact two _ _ (dj (by omega)) ⟨hKm true m1 m4 (by omega), hR1 (t14 a2 a3)⟩ ⟨hKm false m2 m3 l2, hR2 (b23 a1 a4)⟩
    · exact two _ _ (dj (by omega)) ⟨hKm true m1 m3 (by omega), hR1 (t13 a2 a4)⟩ ⟨hKm false m2 m4 (by omega), hR2 (b24 a1 a3)⟩
    · exact two _ _ (dj (by omega)) ⟨hKm false m1 m2 l1, hR2 (b12 a3 a4)⟩ ⟨hKm false m2 m4 (by omega), hR2 (b24 a1 a3)⟩
    · exact two _ _ (dj (by omega)) ⟨hKm true m1 m2 l1, hR1 (t12 a3 a4)⟩ ⟨hKm false m3 m4 l3, hR2 (b34 a1 a2)⟩
    · exact two _ _ (dj (by omega)) ⟨hKm false m3 m4 l3, hR2 (b34 a1 a2)⟩ ⟨hKm false m1 m3 (by omega), hR2 (b13 a2 a4)⟩
    · exact two _ _ (dj (by omega)) ⟨hKm false m3 m4 l3, hR2 (b34 a1 a2)⟩ ⟨hKm false m2 m4 (by omega), hR2 (b24 a1 a3)⟩
    · exact two _ _ (dj (by omega)) ⟨hKm false m3 m4 l3, hR2 (b34 a1 a2)⟩ ⟨hKm false m1 m2 l1, hR2 (b12 a3 a4)⟩
  -- the highest and the lowest have six
  have h6 : ∀ (s : Bool), ∀ v ∈ L, (∀ w ∈ L, (if s = true then 1 else -1) * kap c g v w ≤ 0) → 2 + 4 ≤ cnt (R v) K := fun s v hv hm => by
    obtain ⟨p1, p2, p3, p4, ⟨l1, l2, l3⟩, ⟨m1, m2, m3, m4⟩, ⟨z1, z2, z3, z4⟩, -⟩ := hS v hv
    have tt : ∀ {i j : Nat}, bt i v = 0 → bt j v = 0 → R v ((i, j), s) := fun e1 e2 => by rw [hR]; exact ⟨e1, e2, fun w hw _ _ => hm w hw⟩
    refine cnt_ge (ks := [((p1, p2), s), ((p1, p3), s), ((p1, p4), s), ((p2, p3), s), ((p2, p4), s), ((p3, p4), s)]) ?_ (fun k hk => ?_)
    · simp only [List.nodup_cons, List.mem_cons, List.not_mem_nil, Prod.mk.injEq, or_false, not_or, not_and, not_false_eq_true, List.nodup_nil, and_true]
      omega
    · simp only [List.mem_cons, List.not_mem_nil, or_false] at hk
      rcases hk with e | e | e | e | e | e <;> rw [e]
      · exact ⟨hKm s m1 m2 l1, tt z1 z2⟩
      · exact ⟨hKm s m1 m3 (by omega), tt z1 z3⟩
      · exact ⟨hKm s m1 m4 (by omega), tt z1 z4⟩
      · exact ⟨hKm s m2 m3 l2, tt z2 z3⟩
      · exact ⟨hKm s m2 m4 (by omega), tt z2 z4⟩
      · exact ⟨hKm s m3 m4 l3, tt z3 z4⟩
  by_cases hlen : L.length ≤ 1
  · omega
  · have hLn : L ≠ [] := fun q => by rw [q] at hlen; simp at hlen
    obtain ⟨p, hp, hpm⟩ := kap_max c g hLn hg
    obtain ⟨q, hq, hqm⟩ := kap_max (fun v => -(c v)) g hLn hg
    have hqm' : ∀ w ∈ L, -1 * kap c g q w ≤ 0 := fun w hw => by
      have this : g q * -(c w) - -(c q) * g w ≤ 0 := hqm w hw
      unfold kap
      have e : g q * -(c w) - -(c q) * g w = -(g q * c w - c q * g w) := by grind
      omega
    have hpq : p ≠ q := fun e => by
      -- all are as high as p: then there is p alone
      have hall : ∀ w ∈ L, w = p := fun w hw => Classical.byContradiction (fun z => hne p hp w hw (fun y => z y.symm) (by
        have a := hpm w hw
        have b := hqm' w hw
        rw [← e] at b
        omega))
      have := len_sub (m := [p]) hL (fun w hw => by rw [hall w hw]; exact List.mem_cons_self)
      simp at this
      omega
    have := lsN_ge2 (k := 2) (e := 4) h2 hp hq hpq (h6 true p hp (fun w hw => by rw [if_pos rfl]; have := hpm w hw; omega)) (h6 false q hq (fun w hw => by rw [if_neg (by decide)]; exact hqm' w hw))
    omega
theorem cap3 {J : List Nat} (hJl : J.length ≤ 16) (hL : L.Nodup) (hg : ∀ v ∈ L, 0 < g v) (hne : ∀ v ∈ L, ∀ w ∈ L, v ≠ w → kap c g v w ≠ 0) (hb : ∀ i ∈ J, ∀ v ∈ L, 0 ≤ bt i v)
    (hS : ∀ v ∈ L, ∃ p1 p2 p3 : Nat, (p1 < p2 ∧ p2 < p3) ∧ (p1 ∈ J ∧ p2 ∈ J ∧ p3 ∈ J) ∧ (bt p1 v = 0 ∧ bt p2 v = 0 ∧ bt p3 v = 0) ∧ ∃ m u1 u2 u3 : Int, 0 < m ∧ ∀ w ∈ L, m * kap c g v w = u1 * bt p1 w + u2 * bt p2 w + u3 * bt p3 w) :
    L.length ≤ 28 := by
  obtain ⟨K, hK⟩ : ∃ K : List (Nat × Bool), K = J.flatMap (fun p => [(p, true), (p, false)]) := ⟨_, rfl⟩
  have hKl : K.length ≤ 32 := by
    have e : K.length = 2 * J.length := by
      rw [hK]
      generalize J = P
      induction P with
      | nil => rfl
      | cons p P ih => rw [List.flatMap_cons, List.length_append, ih]; simp only [List.length_cons, List.length_nil]; omega
    omega
  have hKm : ∀ {i : Nat} (s : Bool), i ∈ J → (i, s) ∈ K := fun {i} s hi => by
    rw [hK]
    refine List.mem_flatMap.mpr ⟨i, hi, ?_⟩
    cases s <;> simp
  obtain ⟨R, hR⟩ : ∃ R : β → (Nat × Bool) → Prop, R = fun v k => top1 c g bt L (if k.2 = true then 1 else -1) v k.1 := ⟨_, rfl⟩
  have hu : ∀ v ∈ L, ∀ w ∈ L, ∀ k, R v k → R w k → v = w := fun v hv w hw k h1 h2 => by
    rw [hR] at h1 h2
    refine Classical.byContradiction (fun q => hne v hv w hw q ?_)
    have a := h1.2 w hw h2.1
    have b := h2.2 v hv h1.1
    rw [kap_anti v w] at b
    by_cases hs : k.2 = true
    · rw [if_pos hs] at a b; omega
    · rw [if_neg hs] at a b; omega
  have hdbl := dbl hL hu K
  have hR1 : ∀ {v : β} {i : Nat}, top1 c g bt L 1 v i → R v (i, true) := fun h => by rw [hR]; exact h
  have hR2 : ∀ {v : β} {i : Nat}, top1 c g bt L (-1) v i → R v (i, false) := fun h => by rw [hR]; exact h
  have h1 : ∀ v ∈ L, 1 ≤ cnt (R v) K := fun v hv => by
    obtain ⟨p1, p2, p3, ⟨l1, l2⟩, ⟨m1, m2, m3⟩, ⟨z1, z2, z3⟩, m, u1, u2, u3, hm, he⟩ := hS v hv
    have tp : ∀ (x : Int) (w : β), m * kap c g v w = x → x ≤ 0 → 1 * kap c g v w ≤ 0 := fun x w e hx => by
      refine Classical.byContradiction (fun q => ?_)
      have := Int.mul_pos hm (show 0 < kap c g v w by omega)
      omega
    have bt' : ∀ (x : Int) (w : β), m * kap c g v w = x → 0 ≤ x → -1 * kap c g v w ≤ 0 := fun x w e hx => by
      refine Classical.byContradiction (fun q => ?_)
      have := Int.mul_pos hm (show 0 < -(kap c g v w) by omega)
      have e2 : m * -(kap c g v w) = -(m * kap c g v w) := by grind
      omega
    have neg : ∀ (u : Int) (i : Nat) (w : β), i ∈ J → w ∈ L → u ≤ 0 → u * bt i w ≤ 0 := fun u i w hi hw h => by
      have := Int.mul_nonneg (show 0 ≤ -u by omega) (hb i hi w hw)
      have e : -u * bt i w = -(u * bt i w) := by grind
      omega
    have pos : ∀ (u : Int) (i : Nat) (w : β), i ∈ J → w ∈ L → 0 ≤ u → 0 ≤ u * bt i w := fun u i w hi hw h => Int.mul_nonneg h (hb i hi w hw)
    have one : ∀ k1 : Nat × Bool, (k1 ∈ K ∧ R v k1) → 1 ≤ cnt (R v) K := fun k1 h1 => cnt_ge (ks := [k1]) (by simp) (fun k hk => by
      rcases List.mem_cons.mp hk with e | e
      · exact e ▸ h1
      · cases e)
    have t1 : u2 ≤ 0 → u3 ≤ 0 → top1 c g bt L 1 v p1 := fun a b => ⟨z1, fun w hw e1 => tp _ w (he w hw) (by rw [e1]; have := neg u2 p2 w m2 hw a; have := neg u3 p3 w m3 hw b; omega)⟩
    have b1 : 0 ≤ u2 → 0 ≤ u3 → top1 c g bt L (-1) v p1 := fun a b => ⟨z1, fun w hw e1 => bt' _ w (he w hw) (by rw [e1]; have := pos u2 p2 w m2 hw a; have := pos u3 p3 w m3 hw b; omega)⟩
    have t2 : u1 ≤ 0 → u3 ≤ 0 → top1 c g bt L 1 v p2 := fun a b => ⟨z2, fun w hw e1 => tp _ w (he w hw) (by rw [e1]; have := neg u1 p1 w m1 hw a; have := neg u3 p3 w m3 hw b; omega)⟩
    have b2 : 0 ≤ u1 → 0 ≤ u3 → top1 c g bt L (-1) v p2 := fun a b => ⟨z2, fun w hw e1 => bt' _ w (he w hw) (by rw [e1]; have := pos u1 p1 w m1 hw a; have := pos u3 p3 w m3 hw b; omega)⟩
    have t3 : u1 ≤ 0 → u2 ≤ 0 → top1 c g bt L 1 v p3 := fun a b => ⟨z3, fun w hw e1 => tp _ w (he w hw) (by rw [e1]; have := neg u1 p1 w m1 hw a; have := neg u2 p2 w m2 hw b; omega)⟩
    have b3 : 0 ≤ u1 → 0 ≤ u2 → top1 c g bt L (-1) v p3 := fun a b => ⟨z3, fun w hw e1 => bt' _ w (he w hw) (by rw [e1]; have := pos u1 p1 w m1 hw a; have := pos u2 p2 w m2 hw b; omega)⟩
    rcases Int.le_total u1 0 with a1 | a1 <;> rcases Int.le_total u2 0 with a2 | a2 <;> rcases Int.le_total u3 0 with a3 | a3
    · exact one _ ⟨hKm true m1, hR1 (t1 a2 a3)⟩
    · exact one _ ⟨hKm true m3, hR1 (t3 a1 a2)⟩
    · exact one _ ⟨hKm true m2, hR1 (t2 a1 a3)⟩
    · exact one _ ⟨hKm false m1, hR2 (b1 a2 a3)⟩
    · exact one _ ⟨hKm true m1, hR1 (t1 a2 a3)⟩
    · exact one _ ⟨hKm false m2, hR2 (b2 a1 a3)⟩
    · exact one _ ⟨hKm false m3, hR2 (b3 a1 a2)⟩
    · exact one _ ⟨hKm false m1, hR2 (b1 a2 a3)⟩
  have h3 : ∀ (s : Bool), ∀ v ∈ L, (∀ w ∈ L, (if s = true then 1 else -1) * kap c g v w ≤ 0) → 1 + 2 ≤ cnt (R v) K := fun s v hv hm => by
    obtain ⟨p1, p2, p3, ⟨l1, l2⟩, ⟨m1, m2, m3⟩, ⟨z1, z2, z3⟩, -⟩ := hS v hv
    have tt : ∀ {i : Nat}, bt i v = 0 → R v (i, s) := fun e1 => by rw [hR]; exact ⟨e1, fun w hw _ => hm w hw⟩
    refine cnt_ge (ks := [(p1, s), (p2, s), (p3, s)]) ?_ (fun k hk => ?_)
    · simp only [List.nodup_cons, List.mem_cons, List.not_mem_nil, Prod.mk.injEq, or_false, not_or, not_and, not_false_eq_true, List.nodup_nil, and_true]
      omega
    · simp only [List.mem_cons, List.not_mem_nil, or_false] at hk
      rcases hk with e | e | e <;> rw [e]
      · exact ⟨hKm s m1, tt z1⟩
      · exact ⟨hKm s m2, tt z2⟩
      · exact ⟨hKm s m3, tt z3⟩
  by_cases hlen : L.length ≤ 1
  · omega
  · have hLn : L ≠ [] := fun q => by rw [q] at hlen; simp at hlen
    obtain ⟨p, hp, hpm⟩ := kap_max c g hLn hg
    obtain ⟨q, hq, hqm⟩ := kap_max (fun v => -(c v)) g hLn hg
    have hqm' : ∀ w ∈ L, -1 * kap c g q w ≤ 0 := fun w hw => by
      have this : g q * -(c w) - -(c q) * g w ≤ 0 := hqm w hw
      unfold kap
      have e : g q * -(c w) - -(c q) * g w = -(g q * c w - c q * g w) := by grind
      omega
    have hpq : p ≠ q := fun e => by
      have hall : ∀ w ∈ L, w = p := fun w hw => Classical.byContradiction (fun z => hne p hp w hw (fun y => z y.symm) (by
        have a := hpm w hw
        have b := hqm' w hw
        rw [← e] at b
        omega))
      have := len_sub (m := [p]) hL (fun w hw => by rw [hall w hw]; exact List.mem_cons_self)
      simp at this
      omega
    have := lsN_ge2 (k := 1) (e := 2) h1 hp hq hpq (h3 true p hp (fun w hw => by rw [if_pos rfl]; have := hpm w hw; omega)) (h3 false q hq (fun w hw => by rw [if_neg (by decide)]; exact hqm' w hw))
    omega
end CAP
