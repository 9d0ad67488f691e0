/-! LINEAR ALGEBRA over whole numbers: vectors are functions on a list of columns -/
section LIN
abbrev lc (a : Int) (x : Nat → Int) (b : Int) (y : Nat → Int) : Nat → Int := fun c => a * x c + b * y c
def nz (cs : List Nat) (x : Nat → Int) : Prop := ∃ c ∈ cs, x c ≠ 0
def par2 (cs : List Nat) (x y : Nat → Int) : Prop := ∀ i ∈ cs, ∀ j ∈ cs, x i * y j = x j * y i
theorem not_nz {cs : List Nat} {x : Nat → Int} (h : ¬ nz cs x) : ∀ c ∈ cs, x c = 0 := fun c hc => Classical.byContradiction (fun q => h ⟨c, hc, q⟩)
theorem dot_comm (cs : List Nat) (x y : Nat → Int) : dot cs x y = dot cs y x := lsum_congr (fun c _ => Int.mul_comm _ _)
theorem dot_zr {cs : List Nat} {r z : Nat → Int} (h : ∀ c ∈ cs, z c = 0) : dot cs r z = 0 := lsum_z (fun c hc => by rw [h c hc, Int.mul_zero])
theorem dot_zl {cs : List Nat} {r z : Nat → Int} (h : ∀ c ∈ cs, r c = 0) : dot cs r z = 0 := lsum_z (fun c hc => by rw [h c hc, Int.zero_mul])
theorem lsum_nn {f : Nat → Int} : ∀ {cs : List Nat}, (∀ c ∈ cs, 0 ≤ f c) → 0 ≤ lsum f cs
  | [], _ => Int.le_refl _
  | c :: cs, h => by
    rw [lsum]
    have h1 := h c List.mem_cons_self
    have h2 := lsum_nn (f := f) (cs := cs) (fun d hd => h d (List.mem_cons_of_mem _ hd))
    omega
theorem lsum_pos {f : Nat → Int} : ∀ {cs : List Nat}, (∀ c ∈ cs, 0 ≤ f c) → (∃ c ∈ cs, f c ≠ 0) → 0 < lsum f cs
  | [], _, h => by obtain ⟨c, hc, -⟩ := h; cases hc
  | c :: cs, h, hz => by
    rw [lsum]
    have h1 := h c List.mem_cons_self
    have h2 := lsum_nn (f := f) (cs := cs) (fun d hd => h d (List.mem_cons_of_mem _ hd))
    by_cases e : f c = 0
    · obtain ⟨d, hd, hd0⟩ := hz
      rcases List.mem_cons.mp hd with q | q
      · rw [q] at hd0; exact absurd e hd0
      · have := lsum_pos (f := f) (cs := cs) (fun d hd => h d (List.mem_cons_of_mem _ hd)) ⟨d, q, hd0⟩
        omega
    · omega
theorem dot_self {cs : List Nat} {x : Nat → Int} (h : nz cs x) : 0 < dot cs x x := by
  obtain ⟨c, hc, h0⟩ := h
  refine lsum_pos (fun d _ => ?_) ⟨c, hc, fun q => ?_⟩
  · by_cases hx : 0 ≤ x d
    · exact Int.mul_nonneg hx hx
    · have := Int.mul_pos_of_neg_of_neg (show x d < 0 by omega) (show x d < 0 by omega)
      omega
  · rcases Int.mul_eq_zero.mp q with q | q <;> exact h0 q
theorem dot_dl {cs : List Nat} (hn : cs.Nodup) {c : Nat} (hc : c ∈ cs) (y : Nat → Int) : dot cs (dl c) y = y c := lsum_dr hn hc
theorem dot_lc (cs : List Nat) (r x y : Nat → Int) (a b : Int) : dot cs r (lc a x b y) = a * dot cs r x + b * dot cs r y := dot_lin cs r x y a b
theorem dot_lcl (cs : List Nat) (x y z : Nat → Int) (a b : Int) : dot cs (lc a x b y) z = a * dot cs x z + b * dot cs y z := dot_linl cs x y z a b
/-- a row is a sum of rows of a list, up to a factor -/
def Spn (cs : List Nat) : List (Nat → Int) → (Nat → Int) → Prop
  | [], r => ∀ c ∈ cs, r c = 0
  | t :: T, r => ∃ m k : Int, m ≠ 0 ∧ Spn cs T (lc m r k t)
theorem Spn_up {cs : List Nat} {t : Nat → Int} {T : List (Nat → Int)} {r : Nat → Int} (h : Spn cs T r) : Spn cs (t :: T) r := by
  refine ⟨1, 0, by decide, ?_⟩
  have e : lc 1 r 0 t = r := by
    funext c
    show 1 * r c + 0 * t c = r c
    omega
  rw [e]
  exact h
theorem fred (cs : List Nat) : ∀ (T : List (Nat → Int)) (r : Nat → Int), Spn cs T r ∨ ∃ y, (∀ t ∈ T, dot cs t y = 0) ∧ dot cs r y ≠ 0
  | [], r => by
    by_cases h : nz cs r
    · exact Or.inr ⟨r, fun _ q => (by cases q), fun q => by have := dot_self h; omega⟩
    · exact Or.inl (not_nz h)
  | t :: T, r => by
    rcases fred cs T r with h | ⟨y, h1, h2⟩
    · exact Or.inl (Spn_up h)
    · by_cases ht : dot cs t y = 0
      · exact Or.inr ⟨y, fun u hu => (List.mem_cons.mp hu).elim (fun e => e ▸ ht) (h1 u), h2⟩
      · rcases fred cs T (lc (dot cs t y) r (-(dot cs r y)) t) with h | ⟨z, h3, h4⟩
        · exact Or.inl ⟨dot cs t y, -(dot cs r y), ht, h⟩
        · refine Or.inr ⟨lc (dot cs t y) z (-(dot cs t z)) y, fun u hu => ?_, ?_⟩
          · rw [dot_lc]
            rcases List.mem_cons.mp hu with e | e
            · rw [e]; grind
            · rw [h3 u e, h1 u e]; omega
          · rw [dot_lc]
            rw [dot_lcl] at h4
            intro q
            apply h4
            grind
theorem Spn_dot {cs : List Nat} : ∀ {T : List (Nat → Int)} {r : Nat → Int}, Spn cs T r → ∀ y, (∀ t ∈ T, dot cs t y = 0) → dot cs r y = 0
  | [], r, h, y, _ => dot_zl h
  | t :: T, r, ⟨m, k, hm, h⟩, y, hy => by
    have h1 := Spn_dot h y (fun u hu => hy u (List.mem_cons_of_mem _ hu))
    rw [dot_lcl, hy t List.mem_cons_self] at h1
    rcases Int.mul_eq_zero.mp (show m * dot cs r y = 0 by omega) with q | q
    · exact absurd q hm
    · exact q
/-- a linear map that is not 0 at a row is not 0 at one of the rows that it is a sum of -/
theorem Spn_lin {cs : List Nat} (F : (Nat → Int) → Int) (hF : ∀ (a b : Int) (x y : Nat → Int), F (lc a x b y) = a * F x + b * F y) (h0 : ∀ x, (∀ c ∈ cs, x c = 0) → F x = 0) : ∀ {T : List (Nat → Int)} {r : Nat → Int}, Spn cs T r → F r ≠ 0 → ∃ t ∈ T, F t ≠ 0
  | [], r, h, hr => absurd (h0 r h) hr
  | t :: T, r, ⟨m, k, hm, h⟩, hr => by
    by_cases ht : F t = 0
    · obtain ⟨u, hu, hu0⟩ := Spn_lin F hF h0 h (by
        rw [hF, ht]
        intro q
        rcases Int.mul_eq_zero.mp (show m * F r = 0 by omega) with q | q
        · exact hm q
        · exact hr q)
      exact ⟨u, List.mem_cons_of_mem _ hu, hu0⟩
    · exact ⟨t, List.mem_cons_self, ht⟩
theorem det_mid (v : Nat → Int) (post : List (Nat → Int)) : ∀ (pre : List (Nat → Int)), ∃ σ : Int, (σ = 1 ∨ σ = -1) ∧ σ = (if pre.length % 2 = 0 then 1 else -1) ∧ ∀ cs : List Nat, det (pre ++ v :: post) cs = σ * det (v :: (pre ++ post)) cs
  | [] => ⟨1, Or.inl rfl, rfl, fun cs => (Int.one_mul _).symm⟩
  | p :: pre => by
    obtain ⟨σ, h1, h2, h3⟩ := det_mid v post pre
    refine ⟨-σ, by rcases h1 with q | q <;> omega, ?_, fun cs => ?_⟩
    · rw [h2, List.length_cons]
      split <;> split <;> omega
    · rw [List.cons_append, det_cons, List.cons_append, det_swap, det_cons]
      have e : alt p cs (fun x => det (pre ++ v :: post) x) = alt p cs (fun x => σ * det (v :: (pre ++ post)) x) := alt_congr (fun _ _ => rfl) (fun x _ => h3 x)
      rw [e, alt_smul, ← det_cons]
      grind
theorem det_midF (pre post : List (Nat → Int)) (cs : List Nat) : (∀ (a b : Int) (x y : Nat → Int), det (pre ++ lc a x b y :: post) cs = a * det (pre ++ x :: post) cs + b * det (pre ++ y :: post) cs) ∧ ∀ x, (∀ c ∈ cs, x c = 0) → det (pre ++ x :: post) cs = 0 := by
  refine ⟨fun a b x y => ?_, fun x hx => ?_⟩
  · obtain ⟨σ, -, h2, h3⟩ := det_mid (lc a x b y) post pre
    obtain ⟨τ, -, h4, h5⟩ := det_mid x post pre
    obtain ⟨υ, -, h6, h7⟩ := det_mid y post pre
    rw [h3, h5, h7, h2, h4, h6, det_lin]
    grind
  · obtain ⟨σ, -, -, h3⟩ := det_mid x post pre
    rw [h3, det_cons, alt_w0 hx, Int.mul_zero]
theorem det_pick {cs : List Nat} {T : List (Nat → Int)} : ∀ (es pre : List (Nat → Int)), (∀ e ∈ es, Spn cs T e) → det (pre ++ es) cs ≠ 0 → ∃ ts : List (Nat → Int), ts.length = es.length ∧ (∀ t ∈ ts, t ∈ T) ∧ det (pre ++ ts) cs ≠ 0
  | [], pre, _, h => ⟨[], rfl, fun _ q => (by cases q), h⟩
  | e :: es, pre, hs, h => by
    obtain ⟨hl, h0⟩ := det_midF pre es cs
    obtain ⟨t, ht, ht0⟩ := Spn_lin (cs := cs) (fun v => det (pre ++ v :: es) cs) hl h0 (hs e List.mem_cons_self) h
    have h2 : det ((pre ++ [t]) ++ es) cs ≠ 0 := by rw [List.append_assoc]; exact ht0
    obtain ⟨ts, l1, l2, l3⟩ := det_pick es (pre ++ [t]) (fun u hu => hs u (List.mem_cons_of_mem _ hu)) h2
    refine ⟨t :: ts, by simp [l1], fun u hu => (List.mem_cons.mp hu).elim (fun q => q ▸ ht) (l2 u), ?_⟩
    rw [List.append_assoc] at l3
    exact l3
theorem det_unit : ∀ {cs : List Nat}, cs.Nodup → det (cs.map dl) cs = 1
  | [], _ => rfl
  | c :: cs, hn => by
    have hn' := List.nodup_cons.mp hn
    rw [List.map_cons, det_cons, alt_cons, alt_w0 (fun d hd => by
      have : d ≠ c := fun e => hn'.1 (e ▸ hd)
      simp [dl, this]), det_unit hn'.2]
    simp [dl]
/-- rows that nothing but 0 is across have as many among them, with a determinant that is not 0 -/
theorem det_basis {cs : List Nat} (hn : cs.Nodup) {T : List (Nat → Int)} (h : ∀ y, (∀ t ∈ T, dot cs t y = 0) → ∀ c ∈ cs, y c = 0) : ∃ ts : List (Nat → Int), ts.length = cs.length ∧ (∀ t ∈ ts, t ∈ T) ∧ det ts cs ≠ 0 := by
  have hs : ∀ e ∈ cs.map dl, Spn cs T e := fun e he => by
    obtain ⟨c, hc, rfl⟩ := List.mem_map.mp he
    rcases fred cs T (dl c) with q | ⟨y, h1, h2⟩
    · exact q
    · rw [dot_dl hn hc] at h2
      exact absurd (h y h1 c hc) h2
  obtain ⟨ts, l1, l2, l3⟩ := det_pick (cs.map dl) [] hs (by rw [List.nil_append, det_unit hn]; decide)
  exact ⟨ts, by rw [l1, List.length_map], l2, l3⟩
theorem det_nodup {cs : List Nat} {ts : List (Nat → Int)} (h : det ts cs ≠ 0) : ts.Nodup := by
  induction ts generalizing cs with
  | nil => exact List.nodup_nil
  | cons t ts ih =>
    refine List.nodup_cons.mpr ⟨fun hm => h (det_rep hm cs), ?_⟩
    by_cases q : ∃ x : List Nat, det ts x ≠ 0
    · obtain ⟨x, hx⟩ := q
      exact ih hx
    · refine absurd ?_ h
      rw [det_cons]
      have e : (fun x => det ts x) = fun _ => 0 := funext (fun x => Classical.byContradiction (fun z => q ⟨x, z⟩))
      rw [e, alt_zero]
/-- where nothing but a line is across rows, some n - 1 of them have that line across them -/
theorem crs_basis {cs : List Nat} (hn : cs.Nodup) {T : List (Nat → Int)} {x : Nat → Int} (hx : nz cs x) (hT : ∀ t ∈ T, dot cs t x = 0) (h : ∀ y, (∀ t ∈ T, dot cs t y = 0) → par2 cs x y) : ∃ ts : List (Nat → Int), ts.length + 1 = cs.length ∧ (∀ t ∈ ts, t ∈ T) ∧ ts.Nodup ∧ nz cs (crs ts cs) := by
  obtain ⟨us, l1, l2, l3⟩ := det_basis hn (T := x :: T) (fun y hy c hc => by
    have hp := h y (fun t ht => hy t (List.mem_cons_of_mem _ ht))
    have h0 := hy x List.mem_cons_self
    obtain ⟨p, hp1, hp0⟩ := hx
    -- y is c's multiple of x: x p * y = y p * x; so x.y = 0 gives y p = 0
    have e : x p * dot cs x y = y p * dot cs x x := by
      have e1 := dot_lc cs x y x (x p) 0
      have e2 := dot_lc cs x x x (y p) 0
      have e3 : dot cs x (lc (x p) y 0 x) = dot cs x (lc (y p) x 0 x) := dot_congr (fun _ _ => rfl) (fun d hd => by
        have := hp p hp1 d hd
        show x p * y d + 0 * x d = y p * x d + 0 * x d
        rw [this, Int.mul_comm (x d)])
      rw [e1, e2] at e3
      omega
    rw [h0, Int.mul_zero] at e
    have hs := dot_self (cs := cs) (x := x) ⟨p, hp1, hp0⟩
    have hyp : y p = 0 := by
      rcases Int.mul_eq_zero.mp e.symm with q | q
      · exact q
      · omega
    have := hp p hp1 c hc
    rw [hyp, Int.mul_zero] at this
    rcases Int.mul_eq_zero.mp this with q | q
    · exact absurd q hp0
    · exact q)
  have hxm : x ∈ us := by
    refine Classical.byContradiction (fun q => l3 ?_)
    obtain ⟨p, hp1, hp0⟩ := hx
    have := det_sq l1 hn (z := x) (fun r hr => by
      rcases List.mem_cons.mp (l2 r hr) with e | e
      · exact absurd (e ▸ hr) q
      · exact hT r e) hp1
    rcases Int.mul_eq_zero.mp this with q | q
    · exact absurd q hp0
    · exact q
  obtain ⟨pre, post, rfl⟩ := List.append_of_mem hxm
  obtain ⟨σ, -, -, h3⟩ := det_mid x post pre
  rw [h3] at l3
  have hd : det (x :: (pre ++ post)) cs ≠ 0 := fun q => l3 (by rw [q, Int.mul_zero])
  have hnd := List.nodup_cons.mp (det_nodup hd)
  refine ⟨pre ++ post, by simp at l1 ⊢; omega, fun t ht => ?_, hnd.2, ?_⟩
  · have hm : t ∈ pre ++ x :: post := by
      rcases List.mem_append.mp ht with q | q
      · exact List.mem_append_left _ q
      · exact List.mem_append_right _ (List.mem_cons_of_mem _ q)
    rcases List.mem_cons.mp (l2 t hm) with e | e
    · exact absurd (e ▸ ht) hnd.1
    · exact e
  · refine Classical.byContradiction (fun q => hd ?_)
    rw [← dot_crs hn]
    exact dot_zr (not_nz q)
end LIN
