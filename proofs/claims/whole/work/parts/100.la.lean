/-! ALTERNATING SUMS AND DETERMINANTS over lists of rows and columns (plain mathematics) -/
section LA
variable {α β : Type}
def alt (w : α → Int) : List α → (List α → Int) → Int
  | [], _ => 0
  | c :: cs, F => w c * F cs - alt w cs (fun x => F (c :: x))
theorem alt_nil (w : α → Int) (F : List α → Int) : alt w [] F = 0 := rfl
theorem alt_cons (w : α → Int) (c : α) (cs : List α) (F : List α → Int) : alt w (c :: cs) F = w c * F cs - alt w cs (fun x => F (c :: x)) := rfl
theorem alt_congr {w v : α → Int} : ∀ {cs : List α} {F G : List α → Int}, (∀ c ∈ cs, w c = v c) → (∀ x : List α, x.length + 1 = cs.length → F x = G x) → alt w cs F = alt v cs G
  | [], _, _, _, _ => rfl
  | c :: cs, F, G, hw, h => by
    rw [alt_cons, alt_cons, hw c List.mem_cons_self, h cs rfl, alt_congr (fun d hd => hw d (List.mem_cons_of_mem _ hd)) (fun x hx => h (c :: x) (by simp only [List.length_cons]; omega))]
theorem alt_zero (w : α → Int) : ∀ cs : List α, alt w cs (fun _ => 0) = 0
  | [] => rfl
  | c :: cs => by rw [alt_cons, alt_zero w cs]; omega
theorem alt_sub (w : α → Int) (a : Int) : ∀ (cs : List α) (F G : List α → Int), alt w cs (fun x => a * F x - G x) = a * alt w cs F - alt w cs G
  | [], _, _ => by simp [alt_nil]
  | c :: cs, F, G => by
    rw [alt_cons, alt_cons, alt_cons, alt_sub w a cs (fun x => F (c :: x)) (fun x => G (c :: x))]
    grind
theorem alt_smul (w : α → Int) (a : Int) (cs : List α) (F : List α → Int) : alt w cs (fun x => a * F x) = a * alt w cs F := by
  have h := alt_sub w a cs F (fun _ => 0)
  rw [alt_zero] at h
  simpa using h
theorem alt_linw (w v : α → Int) (a b : Int) : ∀ (cs : List α) (F : List α → Int), alt (fun c => a * w c + b * v c) cs F = a * alt w cs F + b * alt v cs F
  | [], _ => by simp [alt_nil]
  | c :: cs, F => by
    rw [alt_cons, alt_cons, alt_cons, alt_linw w v a b cs (fun x => F (c :: x))]
    grind
theorem alt_comm (w : α → Int) (v : β → Int) (ds : List β) : ∀ (cs : List α) (G : List α → List β → Int), alt w cs (fun x => alt v ds (fun y => G x y)) = alt v ds (fun y => alt w cs (fun x => G x y))
  | [], G => by
    show (0 : Int) = alt v ds (fun _ => 0)
    rw [alt_zero]
  | c :: cs, G => by
    rw [alt_cons, alt_comm w v ds cs (fun x y => G (c :: x) y)]
    show _ = alt v ds (fun y => w c * G cs y - alt w cs (fun x => G (c :: x) y))
    rw [alt_sub v (w c) ds (fun y => G cs y) (fun y => alt w cs (fun x => G (c :: x) y))]
theorem alt_swap (w v : α → Int) : ∀ (cs : List α) (F : List α → Int), alt w cs (fun x => alt v x F) = - alt v cs (fun x => alt w x F)
  | [], _ => rfl
  | c :: cs, F => by
    rw [alt_cons, alt_cons]
    have e1 : alt w cs (fun x => alt v (c :: x) F) = v c * alt w cs F - alt w cs (fun x => alt v x (fun y => F (c :: y))) := alt_sub w (v c) cs F (fun x => alt v x (fun y => F (c :: y)))
    have e2 : alt v cs (fun x => alt w (c :: x) F) = w c * alt v cs F - alt v cs (fun x => alt w x (fun y => F (c :: y))) := alt_sub v (w c) cs F (fun x => alt w x (fun y => F (c :: y)))
    have e3 := alt_swap w v cs (fun y => F (c :: y))
    rw [e1, e2, e3]
    omega
theorem alt_same (w : α → Int) (cs : List α) (F : List α → Int) : alt w cs (fun x => alt w x F) = 0 := by
  have h := alt_swap w w cs F
  omega
theorem alt_w0 {w : α → Int} {cs : List α} (h : ∀ c ∈ cs, w c = 0) (F : List α → Int) : alt w cs F = 0 := by
  have e : alt w cs F = alt (fun c => 0 * w c + 0 * w c) cs F := alt_congr (fun c hc => by rw [h c hc]; omega) (fun _ _ => rfl)
  rw [e, alt_linw]
  omega
def det : List (α → Int) → List α → Int
  | [], _ => 1
  | r :: rs, cs => alt r cs (fun x => det rs x)
theorem det_cons (r : α → Int) (rs : List (α → Int)) (cs : List α) : det (r :: rs) cs = alt r cs (fun x => det rs x) := rfl
theorem det_swap (r s : α → Int) (rs : List (α → Int)) (cs : List α) : det (r :: s :: rs) cs = - det (s :: r :: rs) cs := alt_swap r s cs (fun x => det rs x)
theorem det_rep {r : α → Int} : ∀ {rs : List (α → Int)}, r ∈ rs → ∀ cs : List α, det (r :: rs) cs = 0
  | s :: rs, h, cs => by
    rcases List.mem_cons.mp h with e | h
    · subst e
      exact alt_same r cs (fun x => det rs x)
    · rw [det_swap, det_cons]
      have e : (fun x => det (r :: rs) x) = fun _ => 0 := funext (fun x => det_rep h x)
      rw [e, alt_zero]
      rfl
theorem det_lin (r s : α → Int) (a b : Int) (rs : List (α → Int)) (cs : List α) : det ((fun c => a * r c + b * s c) :: rs) cs = a * det (r :: rs) cs + b * det (s :: rs) cs := alt_linw r s a b cs _
theorem det_perm {rs rs' : List (α → Int)} (h : rs.Perm rs') : ∃ σ : Int, (σ = 1 ∨ σ = -1) ∧ ∀ cs : List α, det rs cs = σ * det rs' cs := by
  induction h with
  | nil => exact ⟨1, Or.inl rfl, fun cs => by simp [det]⟩
  | cons r _ ih =>
    obtain ⟨σ, h1, h2⟩ := ih
    refine ⟨σ, h1, fun cs => ?_⟩
    rw [det_cons, det_cons, ← alt_smul]
    exact alt_congr (fun _ _ => rfl) (fun x _ => h2 x)
  | swap r s rs =>
    refine ⟨-1, Or.inr rfl, fun cs => ?_⟩
    rw [det_swap]
    omega
  | trans _ _ ih1 ih2 =>
    obtain ⟨σ, h1, h2⟩ := ih1
    obtain ⟨τ, h3, h4⟩ := ih2
    refine ⟨σ * τ, ?_, fun cs => by rw [h2, h4, Int.mul_assoc]⟩
    rcases h1 with rfl | rfl <;> rcases h3 with rfl | rfl <;> simp
/-- the rows as functionals' arguments: a column, read off a row -/
def ev (c : α) : (α → Int) → Int := fun r => r c
theorem det_tr_aux : ∀ (n : Nat) (rs : List (α → Int)) (cs : List α), rs.length = n → cs.length = n → det rs cs = det (cs.map ev) rs
  | 0, rs, cs, h1, h2 => by
    rw [List.length_eq_zero_iff.mp h1, List.length_eq_zero_iff.mp h2]
    rfl
  | n + 1, [], _, h1, _ => by simp at h1
  | n + 1, _ :: _, [], _, h2 => by simp at h2
  | n + 1, r :: rs, c :: cs, h1, h2 => by
    have l1 : rs.length = n := by simpa using h1
    have l2 : cs.length = n := by simpa using h2
    show alt r (c :: cs) (fun x => det rs x) = alt (ev c) (r :: rs) (fun y => det (cs.map ev) y)
    rw [alt_cons, alt_cons, det_tr_aux n rs cs l1 l2]
    have e1 : alt r cs (fun x => det rs (c :: x)) = alt r cs (fun x => alt (ev c) rs (fun y => det y x)) := by
      refine alt_congr (fun _ _ => rfl) (fun x hx => ?_)
      rw [det_tr_aux n rs (c :: x) l1 (by simp only [List.length_cons]; omega)]
      show alt (ev c) rs (fun y => det (x.map ev) y) = _
      refine alt_congr (fun _ _ => rfl) (fun y hy => ?_)
      cases n with
      | zero => omega
      | succ n => exact (det_tr_aux n y x (by omega) (by omega)).symm
    have e2 : alt (ev c) rs (fun y => det (cs.map ev) (r :: y)) = alt (ev c) rs (fun y => alt r cs (fun x => det y x)) := by
      refine alt_congr (fun _ _ => rfl) (fun y hy => ?_)
      rw [← det_tr_aux n (r :: y) cs (by simp only [List.length_cons]; omega) l2]
      rfl
    rw [e1, e2, alt_comm]
    rfl
theorem det_tr {rs : List (α → Int)} {cs : List α} (h : rs.length = cs.length) : det rs cs = det (cs.map ev) rs := det_tr_aux cs.length rs cs h rfl
/-- columns in another order -/
theorem det_permC {cs cs' : List α} (h : cs.Perm cs') : ∃ σ : Int, (σ = 1 ∨ σ = -1) ∧ ∀ rs : List (α → Int), rs.length = cs.length → det rs cs = σ * det rs cs' := by
  obtain ⟨σ, h1, h2⟩ := det_perm (h.map ev)
  refine ⟨σ, h1, fun rs hr => ?_⟩
  rw [det_tr hr, det_tr (hr.trans h.length_eq), h2]
def lsum (f : α → Int) : List α → Int
  | [] => 0
  | c :: cs => f c + lsum f cs
theorem lsum_congr {f h : α → Int} : ∀ {cs : List α}, (∀ c ∈ cs, f c = h c) → lsum f cs = lsum h cs
  | [], _ => rfl
  | c :: cs, e => by rw [lsum, lsum, e c List.mem_cons_self, lsum_congr (fun d hd => e d (List.mem_cons_of_mem _ hd))]
theorem lsum_lin (f h : α → Int) (a b : Int) : ∀ cs : List α, lsum (fun c => a * f c + b * h c) cs = a * lsum f cs + b * lsum h cs
  | [] => by simp [lsum]
  | c :: cs => by
    rw [lsum, lsum, lsum, lsum_lin f h a b cs]
    grind
theorem lsum_zero : ∀ cs : List α, lsum (fun _ => 0) cs = 0
  | [] => rfl
  | c :: cs => by rw [lsum, lsum_zero cs]; rfl
theorem lsum_z {f : α → Int} {cs : List α} (h : ∀ c ∈ cs, f c = 0) : lsum f cs = 0 := by rw [lsum_congr h, lsum_zero]
def dl (c : Nat) : Nat → Int := fun d => if d = c then 1 else 0
theorem lsum_dl {w : Nat → Int} {d : Nat} : ∀ {cs : List Nat}, cs.Nodup → d ∈ cs → lsum (fun c => w c * dl c d) cs = w d
  | c :: cs, hn, hd => by
    rw [lsum]
    have hn' := List.nodup_cons.mp hn
    by_cases e : d = c
    · subst e
      rw [lsum_z (fun c hc => by
        have : d ≠ c := fun e => hn'.1 (e ▸ hc)
        simp [dl, this])]
      simp [dl]
    · have hd' : d ∈ cs := by
        rcases List.mem_cons.mp hd with h | h
        · exact absurd h e
        · exact h
      rw [lsum_dl hn'.2 hd']
      simp [dl, e]
theorem lsum_dr {w : Nat → Int} {d : Nat} : ∀ {cs : List Nat}, cs.Nodup → d ∈ cs → lsum (fun c => dl d c * w c) cs = w d
  | c :: cs, hn, hd => by
    rw [lsum]
    have hn' := List.nodup_cons.mp hn
    by_cases e : c = d
    · subst e
      rw [lsum_z (fun c' hc => by
        have : c' ≠ c := fun e => hn'.1 (e ▸ hc)
        simp [dl, this])]
      simp [dl]
    · have hd' : d ∈ cs := by
        rcases List.mem_cons.mp hd with h | h
        · exact absurd h.symm e
        · exact h
      rw [lsum_dr hn'.2 hd']
      simp [dl, e]
theorem alt_lsum (k : β → Int) (v : β → α → Int) (cs : List α) (F : List α → Int) : ∀ ds : List β, alt (fun d => lsum (fun c => k c * v c d) ds) cs F = lsum (fun c => k c * alt (v c) cs F) ds
  | [] => alt_w0 (fun _ _ => rfl) F
  | c :: ds => by
    rw [lsum, ← alt_lsum k v cs F ds]
    have h := alt_linw (v c) (fun d => lsum (fun c => k c * v c d) ds) (k c) 1 cs F
    rw [Int.one_mul] at h
    rw [← h]
    refine alt_congr (fun d _ => ?_) (fun _ _ => rfl)
    rw [lsum, Int.one_mul]
/-- a row against the vector of its cofactors -/
theorem alt_expand {w : Nat → Int} {cs : List Nat} (hn : cs.Nodup) (F : List Nat → Int) : alt w cs F = lsum (fun c => w c * alt (dl c) cs F) cs := by
  rw [← alt_lsum w dl cs F cs]
  exact alt_congr (fun d hd => (lsum_dl hn hd).symm) (fun _ _ => rfl)
/-- the product of a row and a vector over the columns -/
def dot (cs : List Nat) (r z : Nat → Int) : Int := lsum (fun c => r c * z c) cs
theorem dot_lin (cs : List Nat) (r y z : Nat → Int) (a b : Int) : dot cs r (fun c => a * y c + b * z c) = a * dot cs r y + b * dot cs r z := by
  unfold dot
  rw [← lsum_lin]
  exact lsum_congr (fun c _ => by grind)
theorem dot_linl (cs : List Nat) (r t z : Nat → Int) (a b : Int) : dot cs (fun c => a * r c + b * t c) z = a * dot cs r z + b * dot cs t z := by
  unfold dot
  rw [← lsum_lin]
  exact lsum_congr (fun c _ => by grind)
theorem dot_congr {cs : List Nat} {r r' z z' : Nat → Int} (h1 : ∀ c ∈ cs, r c = r' c) (h2 : ∀ c ∈ cs, z c = z' c) : dot cs r z = dot cs r' z' := lsum_congr (fun c hc => by rw [h1 c hc, h2 c hc])
/-- the vector across rows -/
def crs (rs : List (Nat → Int)) (cs : List Nat) : Nat → Int := fun c => det (dl c :: rs) cs
theorem dot_crs {r : Nat → Int} {rs : List (Nat → Int)} {cs : List Nat} (hn : cs.Nodup) : dot cs r (crs rs cs) = det (r :: rs) cs := (alt_expand hn _).symm
theorem crs_perp {r : Nat → Int} {rs : List (Nat → Int)} {cs : List Nat} (hn : cs.Nodup) (h : r ∈ rs) : dot cs r (crs rs cs) = 0 := by rw [dot_crs hn, det_rep h]
/-- a square system with a solution that is not 0 has the determinant 0 -/
theorem det_sq {rs : List (Nat → Int)} {cs : List Nat} (hl : rs.length = cs.length) (hn : cs.Nodup) {z : Nat → Int} (hz : ∀ r ∈ rs, dot cs r z = 0) {c : Nat} (hc : c ∈ cs) : z c * det rs cs = 0 := by
  obtain ⟨pre, post, rfl⟩ := List.append_of_mem hc
  have hp : (pre ++ c :: post).Perm (c :: (pre ++ post)) := List.perm_middle
  obtain ⟨σ, hσ, h2⟩ := det_perm (hp.map ev)
  rw [det_tr hl, h2]
  have e : det ((fun r => lsum (fun d => z d * ev d r) (pre ++ c :: post)) :: (pre ++ post).map ev) rs = 0 := by
    rw [det_cons]
    refine alt_w0 (fun r hr => ?_) _
    have := hz r hr
    unfold dot at this
    rw [← this]
    exact lsum_congr (fun d _ => Int.mul_comm _ _)
  rw [det_cons, alt_lsum z ev rs _ (pre ++ c :: post)] at e
  have e2 : lsum (fun d => z d * alt (ev d) rs (fun x => det ((pre ++ post).map ev) x)) (pre ++ c :: post) = lsum (fun d => (z c * det (ev c :: (pre ++ post).map ev) rs) * dl c d) (pre ++ c :: post) := by
    refine lsum_congr (fun d hd => ?_)
    by_cases h : d = c
    · subst h
      simp [dl, det_cons]
    · have hm : ev d ∈ (pre ++ post).map (ev (α := Nat)) := by
        refine List.mem_map_of_mem ?_
        rcases List.mem_append.mp hd with q | q
        · exact List.mem_append_left _ q
        · rcases List.mem_cons.mp q with q | q
          · exact absurd q h
          · exact List.mem_append_right _ q
      have := det_rep hm rs
      rw [det_cons] at this
      rw [this]
      simp [dl, h]
  rw [e2] at e
  have e3 : lsum (fun d => (z c * det (ev c :: (pre ++ post).map ev) rs) * dl c d) (pre ++ c :: post) = z c * det (ev c :: (pre ++ post).map ev) rs := by
    have h3 := lsum_dr (w := fun _ => z c * det (ev c :: (pre ++ post).map ev) rs) hn hc
    exact (lsum_congr (fun d _ => Int.mul_comm _ _)).trans h3
  rw [e3] at e
  rw [List.map_cons]
  rcases hσ with rfl | rfl
  · rw [Int.one_mul]
    exact e
  · rw [Int.neg_one_mul, Int.mul_neg, e]
    rfl
/-- what is across n - 1 rows is one line -/
theorem crs_line {rs : List (Nat → Int)} {cs : List Nat} (hl : rs.length + 1 = cs.length) (hn : cs.Nodup) {y : Nat → Int} (hy : ∀ r ∈ rs, dot cs r y = 0) {i j : Nat} (hi : i ∈ cs) (hj : j ∈ cs) : y i * crs rs cs j = y j * crs rs cs i := by
  by_cases h0 : ∀ c ∈ cs, y c = 0
  · rw [h0 i hi, h0 j hj]
    omega
  · obtain ⟨c, hc⟩ := Classical.not_forall.mp h0
    obtain ⟨hc, h1⟩ := Classical.not_imp.mp hc
    have h2 := det_sq (rs := (fun d => y j * dl i d + (- y i) * dl j d) :: rs) (cs := cs) (by simpa using hl) hn (z := y) (fun r hr => by
      rcases List.mem_cons.mp hr with e | hr
      · rw [e, dot_linl]
        have e1 : dot cs (dl i) y = y i := lsum_dr hn hi
        have e2 : dot cs (dl j) y = y j := lsum_dr hn hj
        rw [e1, e2]
        grind
      · exact hy r hr) hc
    rw [det_lin] at h2
    rcases Int.mul_eq_zero.mp h2 with h3 | h3
    · exact absurd h3 h1
    · show y i * det (dl j :: rs) cs = y j * det (dl i :: rs) cs
      grind
end LA
