theorem b_sshr (n : Nat) (hn : n < 32) (x : Int32) {i : Nat} (hi : i < 32) : bt (x >>> (nI n &&& 31)) i = if n + i < 32 then bt x (n + i) else bt x 31 := by
  unfold bt
  rw [Int32.toBitVec_shiftRight]
  show (x.toBitVec.sshiftRight ((nI n &&& 31).toBitVec.smod 32).toNat).getLsbD i = _
  rw [s_l n hn, BitVec.getLsbD_sshiftRight, BitVec.msb_eq_getLsbD_last]
  simp [hi]
/-! THE REFERENCE'S DETERMINANTS -/
section MDET
theorem ob_iff {o : Int32} {c : Nat} (hc : c < 32) : ((o >>> (nI c &&& 31)) &&& nI 1 = nI 1) ↔ bt o c = true := by
  have h1 : ∀ i, i < 32 → bt (nI 1) i = decide (i = 0) := by decide +kernel
  have h2 : bt (o >>> (nI c &&& 31)) 0 = bt o c := by
    rw [b_sshr c hc o (by decide), Nat.add_zero, if_pos hc]
  rw [b_sup]
  constructor
  · intro h
    have := h 0 (by decide) (by rw [h1 0 (by decide)]; rfl)
    rw [h2] at this
    exact this
  · intro h i hi hb
    rw [h1 i hi, decide_eq_true_eq] at hb
    rw [hb, h2]
    exact h
/-- the columns that are left, from one on -/
def cols (o : Int32) (c : Nat) : Nat → List Nat
  | 0 => []
  | n + 1 => if bt o c = true then cols o (c + 1) n else c :: cols o (c + 1) n
theorem cols_mem {o : Int32} {j : Nat} : ∀ {n c : Nat}, j ∈ cols o c n ↔ c ≤ j ∧ j < c + n ∧ ¬ bt o j = true
  | 0, c => by simp [cols]; omega
  | n + 1, c => by
    rw [cols]
    by_cases h : bt o c = true
    · rw [if_pos h, cols_mem (n := n) (c := c + 1)]
      constructor
      · rintro ⟨a, b, d⟩; exact ⟨by omega, by omega, d⟩
      · rintro ⟨a, b, d⟩
        have : j ≠ c := fun e => d (by rw [e]; exact h)
        exact ⟨by omega, by omega, d⟩
    · rw [if_neg h, List.mem_cons, cols_mem (n := n) (c := c + 1)]
      constructor
      · rintro (e | ⟨a, b, d⟩)
        · rw [e]; exact ⟨Nat.le_refl _, by omega, h⟩
        · exact ⟨by omega, by omega, d⟩
      · rintro ⟨a, b, d⟩
        by_cases e : j = c
        · exact Or.inl e
        · exact Or.inr ⟨by omega, by omega, d⟩
theorem cols_app (o : Int32) : ∀ (a c n : Nat), cols o c (a + n) = cols o c a ++ cols o (c + a) n
  | 0, c, n => by rw [Nat.zero_add, Nat.add_zero]; rfl
  | a + 1, c, n => by
    rw [show a + 1 + n = (a + n) + 1 by omega, cols, cols, cols_app o a (c + 1) n, show c + 1 + a = c + (a + 1) by omega]
    split <;> rfl
theorem cols_or {o : Int32} {c : Nat} (hc : c < 32) : ∀ (n i : Nat), i + n ≤ 32 → (c < i ∨ i + n ≤ c) → cols (o ||| (nI 1 <<< (nI c &&& 31))) i n = cols o i n
  | 0, _, _, _ => rfl
  | n + 1, i, hi, h => by
    rw [cols, cols, cols_or hc n (i + 1) (by omega) (by omega), b_or, b_one hc (by omega), decide_eq_false (by omega), Bool.or_false]
/-- the columns without one that is left -/
theorem cols_out {o : Int32} {c wd : Nat} (hw : wd ≤ 5) (hc : c < wd) : cols (o ||| (nI 1 <<< (nI c &&& 31))) 0 wd = cols o 0 c ++ cols o (c + 1) (wd - (c + 1)) := by
  rw [show wd = c + (1 + (wd - (c + 1))) by omega, cols_app, cols_app, Nat.zero_add, cols_or (by omega) c 0 (by omega) (by omega), cols_or (by omega) _ (c + 1) (by omega) (by omega)]
  have e : cols (o ||| (nI 1 <<< (nI c &&& 31))) c 1 = [] := by
    rw [cols, if_pos (by rw [b_or, b_one (by omega) (by omega), decide_eq_true rfl, Bool.or_true])]
    rfl
  rw [e, show c + (1 + (wd - (c + 1))) - (c + 1) = wd - (c + 1) by omega]
  rfl
theorem neg_one_i : (-(nI 1) : Int32) = -1 := by decide
theorem dtS_int {bd : Nat → Int64} {ch : Nat → Nat} {row wd : Nat} {D : Int32 → Int64} {o : Int32} {rs : List (Nat → Int)} {T : Nat} (hw : wd ≤ 5) (hT : T ≤ 100000000000000000) (hR : ∀ k, k < wd → (vc bd (ch row) k).natAbs ≤ 10000)
    (hDv : ∀ c, c < wd → ¬ bt o c = true → (D (o ||| (nI 1 <<< (nI c &&& 31)))).toInt = det rs (cols (o ||| (nI 1 <<< (nI c &&& 31))) 0 wd) ∧ (vc bd (ch row) c * det rs (cols (o ||| (nI 1 <<< (nI c &&& 31))) 0 wd)).natAbs ≤ T ∧ (det rs (cols (o ||| (nI 1 <<< (nI c &&& 31))) 0 wd)).natAbs ≤ 100000000000000) :
    ∀ (n c : Nat) (s : Int64) (sg : Int32), c + n = wd → (sg = nI 1 ∨ sg = -1) → s.toInt.natAbs ≤ c * T → (dtS bd ch row D o c n (s, sg)).1.toInt = s.toInt + sg.toInt * alt (vc bd (ch row)) (cols o c n) (fun x => det rs (cols o 0 c ++ x)) ∧ (dtS bd ch row D o c n (s, sg)).1.toInt.natAbs ≤ wd * T
  | 0, c, s, sg, hc, hsg, hs => by
    have e : c = wd := by omega
    refine ⟨?_, by show s.toInt.natAbs ≤ _; rw [← e]; exact hs⟩
    show s.toInt = s.toInt + sg.toInt * 0
    omega
  | n + 1, c, s, sg, hc, hsg, hs => by
    have hcT : c * T + T ≤ 6 * 100000000000000000 := by
      have : (c + 1) * T ≤ 6 * 100000000000000000 := Nat.mul_le_mul (by omega) hT
      rw [Nat.succ_mul] at this
      exact this
    have hσ : sg.toInt = 1 ∨ sg.toInt = -1 := by
      rcases hsg with e | e
      · left; rw [e]; decide
      · right; rw [e]; decide
    have hng : (-sg).toInt = -sg.toInt ∧ (-sg = nI 1 ∨ -sg = -1) := by
      rcases hsg with e | e
      · rw [e]; exact ⟨by decide, Or.inr (by decide)⟩
      · rw [e]; exact ⟨by decide, Or.inl (by decide)⟩
    rw [dtS, dtP]
    by_cases hb : bt o c = true
    · rw [if_pos ((ob_iff (by omega)).mpr hb)]
      have hs' : s.toInt.natAbs ≤ (c + 1) * T := by rw [Nat.succ_mul]; omega
      have ih := dtS_int hw hT hR hDv n (c + 1) s sg (by omega) hsg hs'
      refine ⟨?_, ih.2⟩
      have e2 : cols o c (n + 1) = cols o (c + 1) n := by rw [cols, if_pos hb]
      have e : cols o 0 (c + 1) = cols o 0 c := by
        rw [cols_app o c 0 1, Nat.zero_add]
        show cols o 0 c ++ (if bt o c = true then [] else [c]) = _
        rw [if_pos hb, List.append_nil]
      rw [ih.1, e, e2]
    · rw [if_neg (mt (ob_iff (by omega)).mp hb)]
      obtain ⟨hv1, hv2, hv3⟩ := hDv c (by omega) hb
      have hco := cols_out (o := o) hw (show c < wd by omega)
      have e : cols o 0 (c + 1) = cols o 0 c ++ [c] := by
        rw [cols_app o c 0 1, Nat.zero_add]
        show cols o 0 c ++ (if bt o c = true then [] else [c]) = _
        rw [if_neg hb]
      have halt : alt (vc bd (ch row)) (cols o c (n + 1)) (fun x => det rs (cols o 0 c ++ x)) = vc bd (ch row) c * det rs (cols (o ||| (nI 1 <<< (nI c &&& 31))) 0 wd) - alt (vc bd (ch row)) (cols o (c + 1) n) (fun x => det rs (cols o 0 (c + 1) ++ x)) := by
        rw [cols, if_neg hb, alt_cons, hco, show wd - (c + 1) = n by omega]
        congr 1
        refine alt_congr (fun _ _ => rfl) (fun x _ => ?_)
        rw [e, List.append_assoc]
        rfl
      rw [halt]
      by_cases h0 : bd (ch row * 5 + c) = 0
      · rw [if_pos h0]
        have hz : vc bd (ch row) c = 0 := by unfold vc; rw [h0]; rfl
        have hs' : s.toInt.natAbs ≤ (c + 1) * T := by rw [Nat.succ_mul]; omega
        have ih := dtS_int hw hT hR hDv n (c + 1) s (-sg) (by omega) hng.2 hs'
        refine ⟨?_, ih.2⟩
        rw [ih.1, hng.1, hz]
        grind
      · rw [if_neg h0]
        obtain ⟨d, hd⟩ : ∃ d, d = det rs (cols (o ||| (nI 1 <<< (nI c &&& 31))) 0 wd) := ⟨_, rfl⟩
        rw [← hd] at hv1 hv2 hv3 ⊢
        have hrc := hR c (by omega)
        have e1 : (sg.toInt64 * bd (ch row * 5 + c)).toInt = sg.toInt * vc bd (ch row) c := i64_mul (i32_to64 sg) rfl (by rcases hσ with z | z <;> rw [z] <;> omega) (by rcases hσ with z | z <;> rw [z] <;> omega)
        have e2 : (sg.toInt64 * bd (ch row * 5 + c) * D (o ||| (nI 1 <<< (nI c &&& 31)))).toInt = sg.toInt * vc bd (ch row) c * d := i64_mul e1 hv1 (by rcases hσ with z | z <;> rw [z] <;> (have q : ((1 : Int) * vc bd (ch row) c * d = vc bd (ch row) c * d) ∧ (-1 : Int) * vc bd (ch row) c * d = -(vc bd (ch row) c * d) := ⟨by grind, by grind⟩; omega)) (by rcases hσ with z | z <;> rw [z] <;> (have q : ((1 : Int) * vc bd (ch row) c * d = vc bd (ch row) c * d) ∧ (-1 : Int) * vc bd (ch row) c * d = -(vc bd (ch row) c * d) := ⟨by grind, by grind⟩; omega))
        have hab : (sg.toInt * vc bd (ch row) c * d).natAbs ≤ T := by
          rcases hσ with z | z <;> rw [z] <;> (have q : ((1 : Int) * vc bd (ch row) c * d = vc bd (ch row) c * d) ∧ (-1 : Int) * vc bd (ch row) c * d = -(vc bd (ch row) c * d) := ⟨by grind, by grind⟩; omega)
        have e3 : (s + sg.toInt64 * bd (ch row * 5 + c) * D (o ||| (nI 1 <<< (nI c &&& 31)))).toInt = s.toInt + sg.toInt * vc bd (ch row) c * d := i64_add rfl e2 (by omega) (by omega)
        have hs' : (s + sg.toInt64 * bd (ch row * 5 + c) * D (o ||| (nI 1 <<< (nI c &&& 31)))).toInt.natAbs ≤ (c + 1) * T := by rw [e3, Nat.succ_mul]; omega
        have ih := dtS_int hw hT hR hDv n (c + 1) _ (-sg) (by omega) hng.2 hs'
        refine ⟨?_, ih.2⟩
        rw [ih.1, hng.1, e3]
        grind
theorem prd_const (N : Nat) : ∀ cs : List Nat, prd (fun _ => N) cs = N ^ cs.length
  | [] => rfl
  | c :: cs => by rw [prd, prd_const N cs, List.length_cons, Nat.pow_succ, Nat.mul_comm]
def rwF (bd : Nat → Int64) (ch : Nat → Nat) (row : Nat) : Nat → List (Nat → Int)
  | 0 => []
  | d + 1 => vc bd (ch row) :: rwF bd ch (row + 1) d
theorem rwF_len (bd : Nat → Int64) (ch : Nat → Nat) : ∀ d row, (rwF bd ch row d).length = d
  | 0, _ => rfl
  | d + 1, row => by rw [rwF, List.length_cons, rwF_len bd ch d (row + 1)]
theorem rwF_mem {bd : Nat → Int64} {ch : Nat → Nat} {x : Nat → Int} : ∀ {d row : Nat}, x ∈ rwF bd ch row d → ∃ j, row ≤ j ∧ j < row + d ∧ x = vc bd (ch j)
  | 0, _, h => by cases h
  | d + 1, row, h => by
    rcases List.mem_cons.mp h with e | e
    · exact ⟨row, Nat.le_refl _, by omega, e⟩
    · obtain ⟨j, a, c, f⟩ := rwF_mem e
      exact ⟨j, by omega, by omega, f⟩
theorem det_small {bd : Nat → Int64} {ch : Nat → Nat} {wd d row : Nat} {l : List Nat} (hd : d ≤ 4) (hl : l.length = d) (hlw : ∀ c ∈ l, c < wd) (hR : ∀ j, row ≤ j → j < row + d → ∀ k, k < wd → (vc bd (ch j) k).natAbs ≤ 10000) : (det (rwF bd ch row d) l).natAbs ≤ fcN d * 10000 ^ d := by
  have := det_bnd (fun _ => 10000) (rwF bd ch row d) l (by rw [rwF_len, hl]) (fun r hr c hc => by
    obtain ⟨j, a, e, rfl⟩ := rwF_mem hr
    exact hR j a e c (hlw c hc))
  rw [prd_const, hl] at this
  exact this
theorem dtF_int {bd : Nat → Int64} {ch : Nat → Nat} {wd : Nat} (hw : wd ≤ 5) : ∀ (d row : Nat) (o : Int32), d ≤ 4 → (cols o 0 wd).length = d → (∀ j, row ≤ j → j < row + d → ∀ k, k < wd → (vc bd (ch j) k).natAbs ≤ 10000) → (dtF bd ch wd d row o).toInt = det (rwF bd ch row d) (cols o 0 wd)
  | 0, row, o, _, _, _ => rfl
  | d + 1, row, o, hd, hl, hR => by
    have hcl : ∀ c, c < wd → ¬ bt o c = true → (cols (o ||| (nI 1 <<< (nI c &&& 31))) 0 wd).length = d := fun c hc hb => by
      rw [cols_out hw hc, List.length_append]
      have e : cols o 0 wd = cols o 0 c ++ (c :: cols o (c + 1) (wd - (c + 1))) := by
        have e1 : cols o 0 wd = cols o 0 (c + (1 + (wd - (c + 1)))) := by rw [show c + (1 + (wd - (c + 1))) = wd by omega]
        rw [e1, cols_app, cols_app, Nat.zero_add]
        congr 1
        show (if bt o c = true then [] else [c]) ++ _ = _
        rw [if_neg hb]
        rfl
      rw [e, List.length_append, List.length_cons] at hl
      omega
    have key := dtS_int (bd := bd) (ch := ch) (row := row) (wd := wd) (D := fun z => dtF bd ch wd d (row + 1) z) (o := o) (rs := rwF bd ch (row + 1) d) (T := 60000000000000000) hw (by decide) (fun k hk => hR row (Nat.le_refl _) (by omega) k hk) (fun c hc hb => by
      have hlen := hcl c hc hb
      have hb3 : (det (rwF bd ch (row + 1) d) (cols (o ||| (nI 1 <<< (nI c &&& 31))) 0 wd)).natAbs ≤ 6000000000000 := by
        have := det_small (bd := bd) (ch := ch) (wd := wd) (d := d) (row := row + 1) (by omega) hlen (fun j hj => by have := (cols_mem.mp hj).2.1; omega) (fun j h1 h2 => hR j (by omega) (by omega))
        refine Nat.le_trans this ?_
        rcases (show d = 0 ∨ d = 1 ∨ d = 2 ∨ d = 3 by omega) with e | e | e | e <;> rw [e] <;> decide
      refine ⟨dtF_int hw d (row + 1) _ (by omega) hlen (fun j h1 h2 => hR j (by omega) (by omega)), ?_, Nat.le_trans hb3 (by decide)⟩
      rw [Int.natAbs_mul]
      exact Nat.le_trans (Nat.mul_le_mul (hR row (Nat.le_refl _) (by omega) c hc) hb3) (by decide)) wd 0 0 (nI 1) (by omega) (Or.inl rfl) (Nat.zero_le _)
    rw [dtF, key.1]
    show 0 + (nI 1).toInt * alt (vc bd (ch row)) (cols o 0 wd) (fun x => det (rwF bd ch (row + 1) d) ([] ++ x)) = _
    rw [show (nI 1).toInt = 1 by decide, Int.one_mul, Int.zero_add]
    rfl
/-- one column's minor, with its sign -/
theorem alt_dl {c : Nat} (F : List Nat → Int) : ∀ (pre post : List Nat), (pre ++ c :: post).Nodup → alt (dl c) (pre ++ c :: post) F = (if pre.length % 2 = 0 then 1 else -1) * F (pre ++ post)
  | [], post, hn => by
    have hn' := List.nodup_cons.mp hn
    rw [List.nil_append, alt_cons, alt_w0 (fun d hd => by
      have : d ≠ c := fun e => hn'.1 (e ▸ hd)
      unfold dl
      rw [if_neg this])]
    show dl c c * F post - 0 = (if 0 % 2 = 0 then 1 else -1) * F ([] ++ post)
    unfold dl
    rw [if_pos rfl]
    simp
  | p :: pre, post, hn => by
    have hn' := List.nodup_cons.mp hn
    have hpc : p ≠ c := fun e => hn'.1 (by rw [e]; exact List.mem_append_right _ List.mem_cons_self)
    rw [List.cons_append, alt_cons, alt_dl (fun x => F (p :: x)) pre post hn'.2]
    have e0 : dl c p = 0 := by unfold dl; rw [if_neg hpc]
    rw [e0, List.length_cons, List.cons_append]
    by_cases h : pre.length % 2 = 0
    · rw [if_pos h, if_neg (by omega)]; omega
    · rw [if_neg h, if_pos (by omega)]; omega
end MDET
