/-! more rows: a cell's contents may be told by another function that agrees inside; new arrays; new objects' constructors -/
theorem arrV_cg {cI : ClassId} {N : Nat} {f h : Nat → Value} (e : ∀ j, j < N → f j = h j) : arrV cI N f = arrV cI N h := by
  unfold arrV
  congr 1
  congr 1
  funext j
  exact e j.val j.isLt
section CG
variable {g : Gt} {A : Nat → Prop} {ws : va_W} {H : Heap} {a n : Nat}
theorem cg_any {e0 e1 : va_E} (hP : va_P g.1 vwCl ws H) (hD : va_D A ws) (q0 : Nat) (ha : ws[q0]? = some (a, e0)) (he : va_at g.1 vwCl (a, e0) H → va_at g.1 vwCl (a, e1) H) : va_P g.1 vwCl (ws.set q0 (a, e1)) H ∧ va_D A (ws.set q0 (a, e1)) := ⟨hP.set hD ha (he (hP q0 _ ha)) (fun _ _ => rfl), hD.set ha⟩
theorem cg_I {f h : Nat → Int32} (hP : va_P g.1 vwCl ws H) (hD : va_D A ws) (q0 : Nat) (ha : ws[q0]? = some (a, aI g n f)) (e : ∀ j, j < n → f j = h j) : va_P g.1 vwCl (ws.set q0 (a, aI g n h)) H ∧ va_D A (ws.set q0 (a, aI g n h)) :=
  cg_any hP hD q0 ha (fun q => by
    have q : H[a]? = some (arrV g.2.1 n (fun j => .int (f j))) := q
    show H[a]? = some (arrV g.2.1 n (fun j => .int (h j)))
    rw [q]
    congr 1
    exact arrV_cg (fun j hj => by rw [e j hj]))
theorem cg_Z {f h : Nat → Int32} (hP : va_P g.1 vwCl ws H) (hD : va_D A ws) (q0 : Nat) (ha : ws[q0]? = some (a, aZ g n f)) (e : ∀ j, j < n → f j = h j) : va_P g.1 vwCl (ws.set q0 (a, aZ g n h)) H ∧ va_D A (ws.set q0 (a, aZ g n h)) :=
  cg_any hP hD q0 ha (fun q => by
    have q : H[a]? = some (arrV g.2.2.2.1 n (fun j => .int (f j))) := q
    show H[a]? = some (arrV g.2.2.2.1 n (fun j => .int (h j)))
    rw [q]
    congr 1
    exact arrV_cg (fun j hj => by rw [e j hj]))
theorem cg_J {f h : Nat → Int64} (hP : va_P g.1 vwCl ws H) (hD : va_D A ws) (q0 : Nat) (ha : ws[q0]? = some (a, aJ g n f)) (e : ∀ j, j < n → f j = h j) : va_P g.1 vwCl (ws.set q0 (a, aJ g n h)) H ∧ va_D A (ws.set q0 (a, aJ g n h)) :=
  cg_any hP hD q0 ha (fun q => by
    have q : H[a]? = some (arrV g.2.2.1 n (fun j => .long (f j))) := q
    show H[a]? = some (arrV g.2.2.1 n (fun j => .long (h j)))
    rw [q]
    congr 1
    exact arrV_cg (fun j hj => by rw [e j hj]))
end CG
section NEWS
variable {p : Program} {l : Launch} {e : Env} {R : Room} {s : State} {m : MethodId} {args : Array Value} {below : List Frame} {meth : Method} {c : Code} {H : Heap} {locs : List Loc} {cells slots : Nat} {Q : State → Prop}
variable {cc : ByteArray} {pc : Nat} {ls : Array Slot} {rest : List Value} {g : Gt} {A : Nat → Prop} {a : Nat} {ws : va_W} {H0 : Heap}
theorem k_newI (hx : p.tables.exec = Jvm.exec) (hb : c.code = cc) (harr : (Cond.arrayClass .int).before args s = true) (hK : va_K g.1 vwCl (gTy g) s) (hP : va_P g.1 vwCl ws H) (hD : va_D A ws) (hS : va_S A H0 H locs) (hA : ∀ q : Nat, H0.size ≤ q → A q) {n : Nat} (hn : n < 2 ^ 20) (hcells : cells + 1 ≤ R.cells) (hslots : slots + n ≤ R.slots) (hdg : decode cc pc = .ok (.newarray .int, 2))
    (kk : ∀ (q : Nat) (H1 : Heap), va_P g.1 vwCl (ws ++ [(q, aI g n (fun _ => 0))]) H1 → va_D A (ws ++ [(q, aI g n (fun _ => 0))]) → va_S A H0 H1 locs → W p l e R s m args below meth c H1 locs (cells + 1) (slots + n) Q (F0 m (pc + 2) ls (.ref q :: rest))) : W p l e R s m args below meth c H locs cells slots Q (F0 m pc ls (.int (nI n) :: rest)) := by
  refine va_newa hx hb (atype := .int) harr (ty := .int) rfl hK hP hD hS hA (N' := n) (a0 := (n, .inl (fun _ => 0))) (fun cA => rfl) (nI_pos (by omega)) (nI_clamp (by omega)) (by show n * 4 ≤ 536870912; omega) hcells hslots hdg ?_
  intro q cA H1 hK1 hP1 hD1 hS1
  have e1 := (hK1.2 4 (cA, .int) rfl).2
  have e2 := (hK.2 0 (g.2.1, .int) rfl).2
  have e3 : cA = g.2.1 := Option.some.inj (e1.symm.trans e2)
  subst e3
  exact kk q H1 hP1 hD1 hS1
theorem k_newJ (hx : p.tables.exec = Jvm.exec) (hb : c.code = cc) (harr : (Cond.arrayClass .long).before args s = true) (hK : va_K g.1 vwCl (gTy g) s) (hP : va_P g.1 vwCl ws H) (hD : va_D A ws) (hS : va_S A H0 H locs) (hA : ∀ q : Nat, H0.size ≤ q → A q) {n : Nat} (hn : n < 2 ^ 20) (hcells : cells + 1 ≤ R.cells) (hslots : slots + n ≤ R.slots) (hdg : decode cc pc = .ok (.newarray .long, 2))
    (kk : ∀ (q : Nat) (H1 : Heap), va_P g.1 vwCl (ws ++ [(q, aJ g n (fun _ => 0))]) H1 → va_D A (ws ++ [(q, aJ g n (fun _ => 0))]) → va_S A H0 H1 locs → W p l e R s m args below meth c H1 locs (cells + 1) (slots + n) Q (F0 m (pc + 2) ls (.ref q :: rest))) : W p l e R s m args below meth c H locs cells slots Q (F0 m pc ls (.int (nI n) :: rest)) := by
  refine va_newa hx hb (atype := .long) harr (ty := .long) rfl hK hP hD hS hA (N' := n) (a0 := (n, .inr (.inl (fun _ => 0)))) (fun cA => rfl) (nI_pos (by omega)) (nI_clamp (by omega)) (by show n * 8 ≤ 536870912; omega) hcells hslots hdg ?_
  intro q cA H1 hK1 hP1 hD1 hS1
  have e1 := (hK1.2 4 (cA, .long) rfl).2
  have e2 := (hK.2 1 (g.2.2.1, .long) rfl).2
  have e3 : cA = g.2.2.1 := Option.some.inj (e1.symm.trans e2)
  subst e3
  exact kk q H1 hP1 hD1 hS1
theorem k_newZ (hx : p.tables.exec = Jvm.exec) (hb : c.code = cc) (harr : (Cond.arrayClass .boolean).before args s = true) (hK : va_K g.1 vwCl (gTy g) s) (hP : va_P g.1 vwCl ws H) (hD : va_D A ws) (hS : va_S A H0 H locs) (hA : ∀ q : Nat, H0.size ≤ q → A q) {n : Nat} (hn : n < 2 ^ 20) (hcells : cells + 1 ≤ R.cells) (hslots : slots + n ≤ R.slots) (hdg : decode cc pc = .ok (.newarray .boolean, 2))
    (kk : ∀ (q : Nat) (H1 : Heap), va_P g.1 vwCl (ws ++ [(q, aZ g n (fun _ => 0))]) H1 → va_D A (ws ++ [(q, aZ g n (fun _ => 0))]) → va_S A H0 H1 locs → W p l e R s m args below meth c H1 locs (cells + 1) (slots + n) Q (F0 m (pc + 2) ls (.ref q :: rest))) : W p l e R s m args below meth c H locs cells slots Q (F0 m pc ls (.int (nI n) :: rest)) := by
  refine va_newa hx hb (atype := .boolean) harr (ty := .boolean) rfl hK hP hD hS hA (N' := n) (a0 := (n, .inl (fun _ => 0))) (fun cA => rfl) (nI_pos (by omega)) (nI_clamp (by omega)) (by show n * 1 ≤ 536870912; omega) hcells hslots hdg ?_
  intro q cA H1 hK1 hP1 hD1 hS1
  have e1 := (hK1.2 4 (cA, .boolean) rfl).2
  have e2 := (hK.2 2 (g.2.2.2.1, .boolean) rfl).2
  have e3 : cA = g.2.2.2.1 := Option.some.inj (e1.symm.trans e2)
  subst e3
  exact kk q H1 hP1 hD1 hS1
end NEWS
/-! arrays of longs that are filled from a place on -/
def pL (f : Nat → Int64) (a : Nat) (F : Nat → Int64) (k : Nat) : Nat → Int64 := fun j => if a ≤ j ∧ j < a + k then F (j - a) else f j
theorem pL_0 (f : Nat → Int64) (a : Nat) (F : Nat → Int64) : pL f a F 0 = f := by
  funext j
  unfold pL
  rw [if_neg (by omega)]
theorem pL_in {f : Nat → Int64} {a : Nat} {F : Nat → Int64} {k i : Nat} (h : i < k) : pL f a F k (a + i) = F i := by
  unfold pL
  rw [if_pos (by omega), show a + i - a = i by omega]
theorem pL_out {f : Nat → Int64} {a : Nat} {F : Nat → Int64} {k j : Nat} (h : j < a ∨ a + k ≤ j) : pL f a F k j = f j := by
  unfold pL
  rw [if_neg (by omega)]
theorem pL_succ (f : Nat → Int64) (a : Nat) (F : Nat → Int64) (k : Nat) {x : Int64} (hx : x = F k) : vp_updL (pL f a F k) (a + k) x = pL f a F (k + 1) := by
  funext j
  unfold vp_updL pL
  by_cases h : j = a + k
  · subst h
    rw [if_pos rfl, if_pos (by omega), hx, show a + k - a = k by omega]
  · rw [if_neg h]
    by_cases h2 : a ≤ j ∧ j < a + k
    · rw [if_pos h2, if_pos (by omega)]
    · rw [if_neg h2, if_neg (by omega)]
def pI (f : Nat → Int32) (a : Nat) (F : Nat → Int32) (k : Nat) : Nat → Int32 := fun j => if a ≤ j ∧ j < a + k then F (j - a) else f j
theorem pI_0 (f : Nat → Int32) (a : Nat) (F : Nat → Int32) : pI f a F 0 = f := by
  funext j
  unfold pI
  rw [if_neg (by omega)]
theorem pI_in {f : Nat → Int32} {a : Nat} {F : Nat → Int32} {k i : Nat} (h : i < k) : pI f a F k (a + i) = F i := by
  unfold pI
  rw [if_pos (by omega), show a + i - a = i by omega]
theorem pI_out {f : Nat → Int32} {a : Nat} {F : Nat → Int32} {k j : Nat} (h : j < a ∨ a + k ≤ j) : pI f a F k j = f j := by
  unfold pI
  rw [if_neg (by omega)]
theorem pI_succ (f : Nat → Int32) (a : Nat) (F : Nat → Int32) (k : Nat) {x : Int32} (hx : x = F k) : upd (pI f a F k) (a + k) x = pI f a F (k + 1) := by
  funext j
  unfold upd pI
  by_cases h : j = a + k
  · subst h
    rw [if_pos rfl, if_pos (by omega), hx, show a + k - a = k by omega]
  · rw [if_neg h]
    by_cases h2 : a ≤ j ∧ j < a + k
    · rw [if_pos h2, if_pos (by omega)]
    · rw [if_neg h2, if_neg (by omega)]
