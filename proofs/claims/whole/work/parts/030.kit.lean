/-! THE WORLD OF THIS CLAIM: one object of the class, one of the reference; arrays' classes; nest words; contracts in one form -/
abbrev Gt : Type := va_G × ClassId × ClassId × ClassId × ClassId
abbrev gTy (g : Gt) : List (ClassId × FieldType) := [(g.2.1, .int), (g.2.2.1, .long), (g.2.2.2.1, .boolean), (g.2.2.2.2, .object RX0)]
abbrev aI (g : Gt) (n : Nat) (f : Nat → Int32) : va_E := .inl (g.2.1, n, .inl f)
abbrev aJ (g : Gt) (n : Nat) (f : Nat → Int64) : va_E := .inl (g.2.2.1, n, .inr (.inl f))
abbrev aZ (g : Gt) (n : Nat) (f : Nat → Int32) : va_E := .inl (g.2.2.2.1, n, .inl f)
abbrev aC (g : Gt) (n : Nat) (f : Nat → Option Nat) : va_E := .inl (g.2.2.2.2, n, .inr (.inr (.inr (.inr f))))
def nstF : List (String × Nat × String × String × String) := [(RX0, 22, "EdgeBench$Rows", "ins", "I"), (RX3, 171, "EdgeBench$Rows", "ins", "I"), (RX0, 29, "EdgeBench$Rows", "outs", "I"), (RX3, 172, "EdgeBench$Rows", "outs", "I"), (RX3, 147, "EdgeBench$Rows", "number", "[I"), (RX0, 42, "EdgeBench$Rows", "part", "[Z"), (RX3, 127, "EdgeBench$Rows", "part", "[Z"), (RX3, 153, "EdgeBench$Cone", "many", "I"), (RX3, 173, "EdgeBench$Cone", "isFresh", "Z"), (RX3, 156, "EdgeBench$Cone", "ray", "[J"), (RX3, 88, "EdgeBench$Fraction", "top", "J"), (RX0, 111, "EdgeBench$Fraction", "top", "J"), (RX3, 94, "EdgeBench$Fraction", "bottom", "J"), (RX0, 107, "EdgeBench$Fraction", "bottom", "J")]
def nstM : List (String × Nat × MethodName) := [(RX3, 22, yX2_init), (RX3, 36, yX0_init), (RX3, 136, yX2_takes), (RX2, 32, yX3_areZero), (RX3, 177, yX2_gives), (RX3, 191, yX2_shareByOne), (RX2, 46, yX1_init), (RX1, 7, yX3_commonDivisor), (RX3, 187, yX0_build), (RX0, 52, yX2_firstPart), (RX0, 59, yX2_of), (RX0, 91, yX3_commonDivisor), (RX3, 195, yX0_shareOf), (RX0, 104, yX1_init), (RX3, 184, yX1_isNone), (RX3, 97, yX2_isMatchedByItsLikeAlone), (RX3, 104, yX0_weighsAllThings), (RX3, 111, yX2_fits), (RX3, 115, yX0_isTightWhereBest), (RX3, 119, yX1_isLike), (RX3, 123, yX2_copy), (RX3, 199, yX2_firstPart), (RX3, 202, yX1_init), (RX3, 133, yX2_priceIns), (RX3, 160, yX0_insWeighed), (RX3, 164, yX0_isBest)]
def nsW (U : State) : Prop := (∀ q ∈ nstF, va_Nw (.fieldLinkNest q.1 q.2.1 q.2.2.1 q.2.2.2.1 q.2.2.2.2 RX3) U) ∧ ∀ q ∈ nstM, va_Nw (.methodLinkNest q.1 q.2.1 q.2.2 RX3) U
def kW (g : Gt) (U : State) : Prop := va_K g.1 vwCl (gTy g) U ∧ nsW U
theorem kW.warm {g : Gt} {s U : State} (hW : s.WarmedH U.vm) (h : kW g s) : kW g U := ⟨va_K.moved hW.alike h.1, fun q hq => va_Nw.warmF hW (h.2.1 q hq), fun q hq => va_Nw.warmM hW (h.2.2 q hq)⟩
theorem kW.same {g : Gt} {s U : State} (hv : s.vm = U.vm) (h : kW g s) : kW g U := ⟨va_K.moved (by rw [hv]; exact Vm.Alike.refl U.vm) h.1, fun q hq => va_Nw.same rfl hv (h.2.1 q hq), fun q hq => va_Nw.same rfl hv (h.2.2 q hq)⟩
def pW (g : Gt) (ws : va_W) (sz : Nat) (U : State) : Prop := U.heap.size = sz ∧ va_P g.1 vwCl ws U.heap ∧ kW g U ∧ va_D (fun _ => True) ws
def qW (g : Gt) (ws : va_W) (A : Nat → Prop) (t : State) : Prop := va_P g.1 vwCl ws t.heap ∧ va_D A ws
theorem pW_blind (g : Gt) (ws : va_W) (sz : Nat) (av : List Value) : FrameBlind (va_Pc av (pW g ws sz)) := fun a U gg mk q => ⟨q.1, q.2.1, q.2.2.1, kW.same (U := U.calling gg mk a) rfl q.2.2.2.1, q.2.2.2.2⟩
/-- a contract of a method that answers an int (long, nothing, a reference) -/
def CI {S : Type} (l : Launch) (y : MethodName) (wy : List Cond) (rm : Room) (g : Gt) (av : List Value) (wc : va_W) (post : Int32 → S → Prop) (w1 : S → va_W) (mc ms : Nat) : Prop := ∀ sz : Nat, Met l y wy rm (va_Pc av (pW g wc sz)) (va_Qi post (fun u => qW g (w1 u) (va_A wc sz)) (va_A wc sz)) mc ms (va_A wc sz)
def CL {S : Type} (l : Launch) (y : MethodName) (wy : List Cond) (rm : Room) (g : Gt) (av : List Value) (wc : va_W) (post : Int64 → S → Prop) (w1 : S → va_W) (mc ms : Nat) : Prop := ∀ sz : Nat, Met l y wy rm (va_Pc av (pW g wc sz)) (va_Ql post (fun u => qW g (w1 u) (va_A wc sz)) (va_A wc sz)) mc ms (va_A wc sz)
def CV {S : Type} (l : Launch) (y : MethodName) (wy : List Cond) (rm : Room) (g : Gt) (av : List Value) (wc : va_W) (post : S → Prop) (w1 : S → va_W) (mc ms : Nat) : Prop := ∀ sz : Nat, Met l y wy rm (va_Pc av (pW g wc sz)) (va_Qv post (fun u => qW g (w1 u) (va_A wc sz)) (va_A wc sz)) mc ms (va_A wc sz)
def CR {S : Type} (l : Launch) (y : MethodName) (wy : List Cond) (rm : Room) (g : Gt) (av : List Value) (wc : va_W) (post : S → Prop) (w1 : S → Nat → va_W) (mc ms : Nat) : Prop := ∀ sz : Nat, Met l y wy rm (va_Pc av (pW g wc sz)) (va_Qr post (fun u a => qW g (w1 u a) (va_A wc sz)) (va_A wc sz)) mc ms (va_A wc sz)
/-- what a method's body knows at its entry -/
def En (l : Launch) (y : MethodName) (wy : List Cond) (cc : ByteArray) (maxL : Nat) (ret : Option FieldType) (g : Gt) (av : List Value) (wc : va_W) (p : Program) (s : State) (m : MethodId) (args : Array Value) (meth : Method) (c : Code) (A : Nat → Prop) : Prop :=
  p.tables.exec = Jvm.exec ∧ c.code = cc ∧ c.maxLocals = maxL ∧ s.vm.findClass y.cls = some m.cls ∧ (∀ w ∈ wy, w.before args s = true) ∧ meth.name = y.name ∧ (∀ q : Nat, s.heap.size ≤ q → A q) ∧ va_P g.1 vwCl wc s.heap ∧ va_D A wc ∧ va_K g.1 vwCl (gTy g) s ∧ nsW s
section ENT
variable {S : Type} {l : Launch} {y : MethodName} {wy wy' : List Cond} {rm : Room} {g : Gt} {av : List Value} {wc : va_W} {mc ms : Nat} {cc : ByteArray} {maxL : Nat} {ret : Option FieldType}
theorem ent_any {Qf : (Nat → Prop) → Array Value → State → Outcome → State → Prop} (hy : plainName y.cls = true) (hw : wy = Cond.code y cc maxL ret :: wy') (hlen : (lg_sl av).length ≤ maxL)
    (k : ∀ (p : Program) (e : Env) (s : State) (m : MethodId) (below : List Frame) (meth : Method) (c : Code) (A : Nat → Prop), En l y wy cc maxL ret g av wc p s m av.toArray meth c A → meth.sig.returnType = ret → meth.locks = false → ∀ ls : Array Slot, lv_has ls maxL (lv_args 0 av) → W p l e rm s m av.toArray below meth c s.heap [] 0 0 (MQ below (Qf A) av.toArray s mc ms A) (F0 m 0 ls [])) (sz : Nat) :
    Met l y wy rm (va_Pc av (pW g wc sz)) (Qf (va_A wc sz)) mc ms (va_A wc sz) := by
  refine Met.ofW (cc := cc) (maxL := maxL) (ret := ret) hy hw ?_
  intro p e s m args below meth c s₁ B hml hv
  obtain ⟨rfl, hsz, hP, hK, hD0⟩ := hv
  subst hsz
  rw [lg_entry_eq]
  exact k p e s m below meth c _ ⟨B.exec, B.bytes, hml, findClass_of_methodNamed B.named, atoms_spec (ws := wy) B.pre, (name_of_methodNamed B.named B.method).1, fun q h => Or.inr h, hP, hD0.self, hK.1, hK.2⟩ B.returns B.notSynchronized _ (lv_entry av hlen)
theorem ent_i {post : Int32 → S → Prop} {w1 : S → va_W} (hy : plainName y.cls = true) (hw : wy = Cond.code y cc maxL (some .int) :: wy') (hlen : (lg_sl av).length ≤ maxL)
    (k : ∀ (p : Program) (e : Env) (s : State) (m : MethodId) (below : List Frame) (meth : Method) (c : Code) (A : Nat → Prop) (args : Array Value) (Q : State → Prop), En l y wy cc maxL (some .int) g av wc p s m args meth c A → (∀ {H : Heap} {locs : List Loc} {pc : Nat} {ls : Array Slot} {v : Int32}, decode cc pc = .ok (.ireturn, 1) → ∀ u : S, post v u → va_P g.1 vwCl (w1 u) H → va_D A (w1 u) → va_S A s.heap H locs → W p l e rm s m args below meth c H locs mc ms Q (F0 m pc ls [.int v])) → ∀ ls : Array Slot, lv_has ls maxL (lv_args 0 av) → W p l e rm s m args below meth c s.heap [] 0 0 Q (F0 m 0 ls [])) :
    CI l y wy rm g av wc post w1 mc ms := by
  intro sz
  refine ent_any (ret := some .int) (Qf := fun A => va_Qi post (fun u => qW g (w1 u) A) A) hy hw hlen ?_ sz
  intro p e s m below meth c A hE hr hlocks ls hl
  refine k p e s m below meth c A _ _ hE ?_ ls hl
  intro H locs pc ls v hd u hp hP hD hS
  exact W.iret hE.1 hE.2.1 hr (fun t ht hW => ⟨⟨v, u, rfl, hp, by rw [ht]; exact hP, hD⟩, hS.F ht⟩) hS.2.2 hd
theorem ent_z {post : Int32 → S → Prop} {w1 : S → va_W} (hy : plainName y.cls = true) (hw : wy = Cond.code y cc maxL (some .boolean) :: wy') (hlen : (lg_sl av).length ≤ maxL)
    (k : ∀ (p : Program) (e : Env) (s : State) (m : MethodId) (below : List Frame) (meth : Method) (c : Code) (A : Nat → Prop) (args : Array Value) (Q : State → Prop), En l y wy cc maxL (some .boolean) g av wc p s m args meth c A → (∀ {H : Heap} {locs : List Loc} {pc : Nat} {ls : Array Slot} {v : Int32}, decode cc pc = .ok (.ireturn, 1) → ∀ u : S, post v u → (v = 0 ∨ v = 1) → va_P g.1 vwCl (w1 u) H → va_D A (w1 u) → va_S A s.heap H locs → W p l e rm s m args below meth c H locs mc ms Q (F0 m pc ls [.int v])) → ∀ ls : Array Slot, lv_has ls maxL (lv_args 0 av) → W p l e rm s m args below meth c s.heap [] 0 0 Q (F0 m 0 ls [])) :
    CI l y wy rm g av wc post w1 mc ms := by
  intro sz
  refine ent_any (ret := some .boolean) (Qf := fun A => va_Qi post (fun u => qW g (w1 u) A) A) hy hw hlen ?_ sz
  intro p e s m below meth c A hE hr hlocks ls hl
  refine k p e s m below meth c A _ _ hE ?_ ls hl
  intro H locs pc ls v hd u hp h01 hP hD hS
  exact W.zret hE.1 hE.2.1 hr (by rcases h01 with rfl | rfl <;> rfl) (fun t ht hW => ⟨⟨v, u, rfl, hp, by rw [ht]; exact hP, hD⟩, hS.F ht⟩) hS.2.2 hd
theorem ent_l {post : Int64 → S → Prop} {w1 : S → va_W} (hy : plainName y.cls = true) (hw : wy = Cond.code y cc maxL (some .long) :: wy') (hlen : (lg_sl av).length ≤ maxL)
    (k : ∀ (p : Program) (e : Env) (s : State) (m : MethodId) (below : List Frame) (meth : Method) (c : Code) (A : Nat → Prop) (args : Array Value) (Q : State → Prop), En l y wy cc maxL (some .long) g av wc p s m args meth c A → (∀ {H : Heap} {locs : List Loc} {pc : Nat} {ls : Array Slot} {v : Int64}, decode cc pc = .ok (.lreturn, 1) → ∀ u : S, post v u → va_P g.1 vwCl (w1 u) H → va_D A (w1 u) → va_S A s.heap H locs → W p l e rm s m args below meth c H locs mc ms Q (F0 m pc ls [.long v])) → ∀ ls : Array Slot, lv_has ls maxL (lv_args 0 av) → W p l e rm s m args below meth c s.heap [] 0 0 Q (F0 m 0 ls [])) :
    CL l y wy rm g av wc post w1 mc ms := by
  intro sz
  refine ent_any (ret := some .long) (Qf := fun A => va_Ql post (fun u => qW g (w1 u) A) A) hy hw hlen ?_ sz
  intro p e s m below meth c A hE hr hlocks ls hl
  refine k p e s m below meth c A _ _ hE ?_ ls hl
  intro H locs pc ls v hd u hp hP hD hS
  exact W.lret hE.1 hE.2.1 hr (fun t ht hW => ⟨⟨v, u, rfl, hp, by rw [ht]; exact hP, hD⟩, hS.F ht⟩) hS.2.2 hd
theorem ent_v {post : S → Prop} {w1 : S → va_W} (hy : plainName y.cls = true) (hw : wy = Cond.code y cc maxL none :: wy') (hlen : (lg_sl av).length ≤ maxL)
    (k : ∀ (p : Program) (e : Env) (s : State) (m : MethodId) (below : List Frame) (meth : Method) (c : Code) (A : Nat → Prop) (args : Array Value) (Q : State → Prop), En l y wy cc maxL none g av wc p s m args meth c A → (∀ {H : Heap} {locs : List Loc} {pc : Nat} {ls : Array Slot}, decode cc pc = .ok (.return_, 1) → ∀ u : S, post u → va_P g.1 vwCl (w1 u) H → va_D A (w1 u) → va_S A s.heap H locs → W p l e rm s m args below meth c H locs mc ms Q (F0 m pc ls [])) → ∀ ls : Array Slot, lv_has ls maxL (lv_args 0 av) → W p l e rm s m args below meth c s.heap [] 0 0 Q (F0 m 0 ls [])) :
    CV l y wy rm g av wc post w1 mc ms := by
  intro sz
  refine ent_any (ret := none) (Qf := fun A => va_Qv post (fun u => qW g (w1 u) A) A) hy hw hlen ?_ sz
  intro p e s m below meth c A hE hr hlocks ls hl
  refine k p e s m below meth c A _ _ hE ?_ ls hl
  intro H locs pc ls hd u hp hP hD hS
  exact W.vret hE.1 hE.2.1 hr (fun t ht hW => ⟨⟨u, rfl, hp, by rw [ht]; exact hP, hD⟩, hS.F ht⟩) hS.2.2 hd
theorem ent_r {post : S → Prop} {w1 : S → Nat → va_W} {rn : String} (hy : plainName y.cls = true) (hw : wy = Cond.code y cc maxL (some (.object rn)) :: wy') (hlen : (lg_sl av).length ≤ maxL)
    (k : ∀ (p : Program) (e : Env) (s : State) (m : MethodId) (below : List Frame) (meth : Method) (c : Code) (A : Nat → Prop) (args : Array Value) (Q : State → Prop), En l y wy cc maxL (some (.object rn)) g av wc p s m args meth c A → (∀ {H : Heap} {locs : List Loc} {pc : Nat} {ls : Array Slot} {v : Nat}, decode cc pc = .ok (.areturn, 1) → ∀ u : S, post u → va_P g.1 vwCl (w1 u v) H → va_D A (w1 u v) → va_S A s.heap H locs → W p l e rm s m args below meth c H locs mc ms Q (F0 m pc ls [.ref v])) → ∀ ls : Array Slot, lv_has ls maxL (lv_args 0 av) → W p l e rm s m args below meth c s.heap [] 0 0 Q (F0 m 0 ls [])) :
    CR l y wy rm g av wc post w1 mc ms := by
  intro sz
  refine ent_any (ret := some (.object rn)) (Qf := fun A => va_Qr post (fun u a => qW g (w1 u a) A) A) hy hw hlen ?_ sz
  intro p e s m below meth c A hE hr hlocks ls hl
  refine k p e s m below meth c A _ _ hE ?_ ls hl
  intro H locs pc ls v hd u hp hP hD hS
  exact W.aret hE.1 hE.2.1 hr (Or.inl ⟨rn, rfl⟩) (Or.inr ⟨v, rfl⟩) (fun t ht hW => ⟨⟨u, v, rfl, hp, by rw [ht]; exact hP, hD⟩, hS.F ht⟩) hS.2.2 hd
end ENT
theorem nI_in2 {i n : Nat} (hi : i < n) (hn : i < 2 ^ 31) : vp_in (nI i) n := by
  intro h
  rcases h with h | h
  · exact nI_pos hn h
  · rw [nI_clamp hn] at h
    omega
section ROWS
variable {p : Program} {l : Launch} {e : Env} {R : Room} {s : State} {m : MethodId} {args : Array Value} {below : List Frame} {meth : Method} {c : Code} {H : Heap} {locs : List Loc} {cells slots : Nat} {Q : State → Prop}
variable {cc : ByteArray} {pc : Nat} {ls : Array Slot} {rest : List Value} {g : Gt} {A : Nat → Prop} {a : Nat} {ws : va_W} {H0 : Heap}
theorem k_ei {x y : Int32} (h : x = y) (k : W p l e R s m args below meth c H locs cells slots Q (F0 m pc ls (.int y :: rest))) : W p l e R s m args below meth c H locs cells slots Q (F0 m pc ls (.int x :: rest)) := h ▸ k
theorem k_el {x y : Int64} (h : x = y) (k : W p l e R s m args below meth c H locs cells slots Q (F0 m pc ls (.long y :: rest))) : W p l e R s m args below meth c H locs cells slots Q (F0 m pc ls (.long x :: rest)) := h ▸ k
theorem k_iald (hx : p.tables.exec = Jvm.exec) (hb : c.code = cc) (hK : va_K g.1 vwCl (gTy g) s) (hP : va_P g.1 vwCl ws H) (q0 : Nat) {n i : Nat} {f : Nat → Int32} (ha : ws[q0]? = some (a, aI g n f)) (hi : i < n) (hn : i < 2 ^ 31) (hdg : decode cc pc = .ok (.iaload, 1)) (kk : W p l e R s m args below meth c H locs cells slots Q (F0 m (pc + 1) ls (.int (f i) :: rest))) : W p l e R s m args below meth c H locs cells slots Q (F0 m pc ls (.int (nI i) :: .ref a :: rest)) := by
  refine va_iald hx hb hK hP q0 0 ha rfl (nI_in2 hi hn) hdg ?_
  rw [nI_clamp hn]
  exact kk
theorem k_zald (hx : p.tables.exec = Jvm.exec) (hb : c.code = cc) (hK : va_K g.1 vwCl (gTy g) s) (hP : va_P g.1 vwCl ws H) (q0 : Nat) {n i : Nat} {f : Nat → Int32} (ha : ws[q0]? = some (a, aZ g n f)) (hi : i < n) (hn : i < 2 ^ 31) (hdg : decode cc pc = .ok (.baload, 1)) (kk : W p l e R s m args below meth c H locs cells slots Q (F0 m (pc + 1) ls (.int (f i) :: rest))) : W p l e R s m args below meth c H locs cells slots Q (F0 m pc ls (.int (nI i) :: .ref a :: rest)) := by
  refine va_zald hx hb hK hP q0 2 ha rfl (nI_in2 hi hn) hdg ?_
  rw [nI_clamp hn]
  exact kk
theorem k_lald (hx : p.tables.exec = Jvm.exec) (hb : c.code = cc) (hK : va_K g.1 vwCl (gTy g) s) (hP : va_P g.1 vwCl ws H) (q0 : Nat) {n i : Nat} {f : Nat → Int64} (ha : ws[q0]? = some (a, aJ g n f)) (hi : i < n) (hn : i < 2 ^ 31) (hdg : decode cc pc = .ok (.laload, 1)) (kk : W p l e R s m args below meth c H locs cells slots Q (F0 m (pc + 1) ls (.long (f i) :: rest))) : W p l e R s m args below meth c H locs cells slots Q (F0 m pc ls (.int (nI i) :: .ref a :: rest)) := by
  refine va_lald hx hb hK hP q0 1 ha rfl (nI_in2 hi hn) hdg ?_
  rw [nI_clamp hn]
  exact kk
theorem k_cald (hx : p.tables.exec = Jvm.exec) (hb : c.code = cc) (hK : va_K g.1 vwCl (gTy g) s) (hP : va_P g.1 vwCl ws H) (q0 : Nat) {n i q : Nat} {f : Nat → Option Nat} (ha : ws[q0]? = some (a, aC g n f)) (hi : i < n) (hn : i < 2 ^ 31) (hq : f i = some q) (hdg : decode cc pc = .ok (.aaload, 1)) (kk : W p l e R s m args below meth c H locs cells slots Q (F0 m (pc + 1) ls (.ref q :: rest))) : W p l e R s m args below meth c H locs cells slots Q (F0 m pc ls (.int (nI i) :: .ref a :: rest)) := by
  refine va_aldq hx hb hK hP q0 3 ha rfl (nI_in2 hi hn) hdg ?_
  rw [nI_clamp hn, hq]
  exact kk
theorem k_iast (hx : p.tables.exec = Jvm.exec) (hb : c.code = cc) (hK : va_K g.1 vwCl (gTy g) s) (hP : va_P g.1 vwCl ws H) (hD : va_D A ws) (hS : va_S A H0 H locs) (q0 : Nat) {n i : Nat} {f : Nat → Int32} {x : Int32} (ha : ws[q0]? = some (a, aI g n f)) (hi : i < n) (hn : i < 2 ^ 31) (hdg : decode cc pc = .ok (.iastore, 1)) (kk : ∀ (H1 : Heap) (locs1 : List Loc), va_P g.1 vwCl (ws.set q0 (a, aI g n (upd f i x))) H1 → va_D A (ws.set q0 (a, aI g n (upd f i x))) → va_S A H0 H1 locs1 → W p l e R s m args below meth c H1 locs1 cells slots Q (F0 m (pc + 1) ls rest)) : W p l e R s m args below meth c H locs cells slots Q (F0 m pc ls (.int x :: .int (nI i) :: .ref a :: rest)) := by
  refine va_iast hx hb hK hP hD hS q0 0 ha rfl (nI_in2 hi hn) hdg ?_
  rw [nI_clamp hn]
  exact kk
theorem k_last (hx : p.tables.exec = Jvm.exec) (hb : c.code = cc) (hK : va_K g.1 vwCl (gTy g) s) (hP : va_P g.1 vwCl ws H) (hD : va_D A ws) (hS : va_S A H0 H locs) (q0 : Nat) {n i : Nat} {f : Nat → Int64} {x : Int64} (ha : ws[q0]? = some (a, aJ g n f)) (hi : i < n) (hn : i < 2 ^ 31) (hdg : decode cc pc = .ok (.lastore, 1)) (kk : ∀ (H1 : Heap) (locs1 : List Loc), va_P g.1 vwCl (ws.set q0 (a, aJ g n (vp_updL f i x))) H1 → va_D A (ws.set q0 (a, aJ g n (vp_updL f i x))) → va_S A H0 H1 locs1 → W p l e R s m args below meth c H1 locs1 cells slots Q (F0 m (pc + 1) ls rest)) : W p l e R s m args below meth c H locs cells slots Q (F0 m pc ls (.long x :: .int (nI i) :: .ref a :: rest)) := by
  refine va_last hx hb hK hP hD hS q0 1 ha rfl (nI_in2 hi hn) hdg ?_
  rw [nI_clamp hn]
  exact kk
end ROWS
section ROWS2
variable {p : Program} {l : Launch} {e : Env} {R : Room} {s : State} {m : MethodId} {args : Array Value} {below : List Frame} {meth : Method} {c : Code} {H : Heap} {locs : List Loc} {cells slots : Nat} {Q : State → Prop}
variable {cc : ByteArray} {pc : Nat} {ls : Array Slot} {rest : List Value} {g : Gt} {A : Nat → Prop} {a : Nat} {ws : va_W} {H0 : Heap}
theorem k_zast (hx : p.tables.exec = Jvm.exec) (hb : c.code = cc) (hK : va_K g.1 vwCl (gTy g) s) (hP : va_P g.1 vwCl ws H) (hD : va_D A ws) (hS : va_S A H0 H locs) (q0 : Nat) {n i : Nat} {f : Nat → Int32} {x : Int32} (ha : ws[q0]? = some (a, aZ g n f)) (hi : i < n) (hn : i < 2 ^ 31) (h01 : x = 0 ∨ x = 1) (hdg : decode cc pc = .ok (.bastore, 1)) (kk : ∀ (H1 : Heap) (locs1 : List Loc), va_P g.1 vwCl (ws.set q0 (a, aZ g n (upd f i x))) H1 → va_D A (ws.set q0 (a, aZ g n (upd f i x))) → va_S A H0 H1 locs1 → W p l e R s m args below meth c H1 locs1 cells slots Q (F0 m (pc + 1) ls rest)) : W p l e R s m args below meth c H locs cells slots Q (F0 m pc ls (.int x :: .int (nI i) :: .ref a :: rest)) := by
  refine va_zast hx hb hK hP hD hS q0 2 ha rfl (nI_in2 hi hn) hdg ?_
  have e : vp_nar .boolean x = x := by rcases h01 with rfl | rfl <;> rfl
  rw [nI_clamp hn, e]
  exact kk
theorem k_get {own C : String} {T : u_T} {N ci index : Nat} {Ts : List Cond} {fs : List Value} {v : Value} (hx : p.tables.exec = Jvm.exec) (hb : c.code = cc) (hts : ∀ w ∈ Ts, w.before args s = true) (hown : s.vm.findClass own = some m.cls) (hK : va_K g.1 vwCl (gTy g) s) (hP : va_P g.1 vwCl ws H) (hin : ∀ w ∈ u_ws C T N, w ∈ Ts) (hc : vwCl[ci]? = some (C, T, N)) (q0 k : Nat) (hmem : Cond.fieldLink own index (T k).1 (T k).2.1 (T k).2.2.1 ∈ Ts) (hk : k < N) (he : ws[q0]? = some (a, .inr (ci, fs))) (hv : fs[k]? = some v) (hdg : decode cc pc = .ok (.getfield index, 3))
    (kk : W p l e R s m args below meth c H locs cells slots Q (F0 m (pc + 3) ls (v :: rest))) : W p l e R s m args below meth c H locs cells slots Q (F0 m pc ls (.ref a :: rest)) :=
  va_get hx hb hts hin hown hK hP q0 he hc k hk (hts _ hmem) (fun _ h => h) hv hdg kk
theorem k_put {own C : String} {T : u_T} {N ci index : Nat} {Ts : List Cond} {fs : List Value} {v : Value} {ty : FieldType} (hx : p.tables.exec = Jvm.exec) (hb : c.code = cc) (hts : ∀ w ∈ Ts, w.before args s = true) (hown : s.vm.findClass own = some m.cls) (hK : va_K g.1 vwCl (gTy g) s) (hP : va_P g.1 vwCl ws H) (hD : va_D A ws) (hS : va_S A H0 H locs) (hin : ∀ w ∈ u_ws C T N, w ∈ Ts) (hc : vwCl[ci]? = some (C, T, N)) (ty0 : Nat → FieldType) (hty : ∀ k, k < N → parseFieldDescriptor (T k).2.2.1 = some (ty0 k)) (hnm : ∀ a, a < N → ∀ b, b < N → a ≠ b → (T a).2.1 ≠ (T b).2.1) (q0 k : Nat) (hmem : Cond.fieldLink own index (T k).1 (T k).2.1 (T k).2.2.1 ∈ Ts) (hk : k < N) (he : ws[q0]? = some (a, .inr (ci, fs))) (hfin : (T k).2.2.2 = false) (hd : ty0 k = ty) (hn : narrow ty v = v) (hfit : fits ty v = true) (hl : k < fs.length) (hdg : decode cc pc = .ok (.putfield index, 3))
    (kk : ∀ (H1 : Heap) (locs1 : List Loc), va_P g.1 vwCl (ws.set q0 (a, .inr (ci, fs.set k v))) H1 → va_D A (ws.set q0 (a, .inr (ci, fs.set k v))) → va_S A H0 H1 locs1 → W p l e R s m args below meth c H1 locs1 cells slots Q (F0 m (pc + 3) ls rest)) : W p l e R s m args below meth c H locs cells slots Q (F0 m pc ls (v :: .ref a :: rest)) :=
  va_put hx hb hts hin ty0 hty hnm hown hK hP hD hS q0 he hc k hk (hts _ hmem) (fun _ h => h) hfin (hd ▸ hty k hk) hn hfit hl hdg kk
theorem k_putF {own C : String} {T : u_T} {N ci index : Nat} {Ts : List Cond} {fs : List Value} {v : Value} {ty : FieldType} (hx : p.tables.exec = Jvm.exec) (hb : c.code = cc) (hts : ∀ w ∈ Ts, w.before args s = true) (hown : s.vm.findClass own = some m.cls) (hK : va_K g.1 vwCl (gTy g) s) (hP : va_P g.1 vwCl ws H) (hD : va_D A ws) (hS : va_S A H0 H locs) (hin : ∀ w ∈ u_ws C T N, w ∈ Ts) (hc : vwCl[ci]? = some (C, T, N)) (ty0 : Nat → FieldType) (hty : ∀ k, k < N → parseFieldDescriptor (T k).2.2.1 = some (ty0 k)) (hnm : ∀ a, a < N → ∀ b, b < N → a ≠ b → (T a).2.1 ≠ (T b).2.1) (hname : meth.name = "<init>") (q0 k : Nat) (hmem : Cond.fieldLink own index (T k).1 (T k).2.1 (T k).2.2.1 ∈ Ts) (hk : k < N) (he : ws[q0]? = some (a, .inr (ci, fs))) (hfin : (T k).2.2.2 = true) (hdecl : (T k).1 = own) (hd : ty0 k = ty) (hn : narrow ty v = v) (hfit : fits ty v = true) (hl : k < fs.length) (hdg : decode cc pc = .ok (.putfield index, 3))
    (kk : ∀ (H1 : Heap) (locs1 : List Loc), va_P g.1 vwCl (ws.set q0 (a, .inr (ci, fs.set k v))) H1 → va_D A (ws.set q0 (a, .inr (ci, fs.set k v))) → va_S A H0 H1 locs1 → W p l e R s m args below meth c H1 locs1 cells slots Q (F0 m (pc + 3) ls rest)) : W p l e R s m args below meth c H locs cells slots Q (F0 m pc ls (v :: .ref a :: rest)) :=
  va_putF hx hb hts hin ty0 hty hnm hown hK hP hD hS q0 he hc k hk (hts _ hmem) (fun _ h => h) hfin hname hdecl (hd ▸ hty k hk) hn hfit hl hdg kk
theorem k_getN {own C : String} {T : u_T} {N ci index : Nat} {Ts : List Cond} {fs : List Value} {v : Value} (hx : p.tables.exec = Jvm.exec) (hb : c.code = cc) (hts : ∀ w ∈ Ts, w.before args s = true) (hown : s.vm.findClass own = some m.cls) (hK : va_K g.1 vwCl (gTy g) s) (hN : nsW s) (hP : va_P g.1 vwCl ws H) (hin : ∀ w ∈ u_ws C T N, w ∈ Ts) (hc : vwCl[ci]? = some (C, T, N)) (q0 k : Nat) (hmem : (own, index, (T k).1, (T k).2.1, (T k).2.2.1) ∈ nstF) (hk : k < N) (he : ws[q0]? = some (a, .inr (ci, fs))) (hv : fs[k]? = some v) (hdg : decode cc pc = .ok (.getfield index, 3))
    (kk : W p l e R s m args below meth c H locs cells slots Q (F0 m (pc + 3) ls (v :: rest))) : W p l e R s m args below meth c H locs cells slots Q (F0 m pc ls (.ref a :: rest)) :=
  va_getN hx hb hts hin hown hK hP q0 he hc k hk (va_Nw.use rfl (hN.1 _ hmem)) (fun _ h => h) hv hdg kk
theorem k_putN {own C : String} {T : u_T} {N ci index : Nat} {Ts : List Cond} {fs : List Value} {v : Value} {ty : FieldType} (hx : p.tables.exec = Jvm.exec) (hb : c.code = cc) (hts : ∀ w ∈ Ts, w.before args s = true) (hown : s.vm.findClass own = some m.cls) (hK : va_K g.1 vwCl (gTy g) s) (hN : nsW s) (hP : va_P g.1 vwCl ws H) (hD : va_D A ws) (hS : va_S A H0 H locs) (hin : ∀ w ∈ u_ws C T N, w ∈ Ts) (hc : vwCl[ci]? = some (C, T, N)) (ty0 : Nat → FieldType) (hty : ∀ k, k < N → parseFieldDescriptor (T k).2.2.1 = some (ty0 k)) (hnm : ∀ a, a < N → ∀ b, b < N → a ≠ b → (T a).2.1 ≠ (T b).2.1) (q0 k : Nat) (hmem : (own, index, (T k).1, (T k).2.1, (T k).2.2.1) ∈ nstF) (hk : k < N) (he : ws[q0]? = some (a, .inr (ci, fs))) (hfin : (T k).2.2.2 = false) (hd : ty0 k = ty) (hn : narrow ty v = v) (hfit : fits ty v = true) (hl : k < fs.length) (hdg : decode cc pc = .ok (.putfield index, 3))
    (kk : ∀ (H1 : Heap) (locs1 : List Loc), va_P g.1 vwCl (ws.set q0 (a, .inr (ci, fs.set k v))) H1 → va_D A (ws.set q0 (a, .inr (ci, fs.set k v))) → va_S A H0 H1 locs1 → W p l e R s m args below meth c H1 locs1 cells slots Q (F0 m (pc + 3) ls rest)) : W p l e R s m args below meth c H locs cells slots Q (F0 m pc ls (v :: .ref a :: rest)) :=
  va_putN hx hb hts hin ty0 hty hnm hown hK hP hD hS q0 he hc k hk (va_Nw.use rfl (hN.1 _ hmem)) (fun _ h => h) hfin (hd ▸ hty k hk) hn hfit hl hdg kk
end ROWS2
section CALLS
variable {p : Program} {l : Launch} {e : Env} {R : Room} {s : State} {m : MethodId} {args : Array Value} {below : List Frame} {meth : Method} {c : Code} {H : Heap} {locs : List Loc} {cells slots : Nat} {Q : State → Prop}
variable {pc : Nat} {ls : Array Slot} {rest st0 : List Value} {g : Gt} {A : Nat → Prop} {ws wc wr : va_W} {a : Array Value} {mc ms : Nat}
variable {y : MethodName} {bytes cc : ByteArray} {maxL nL n index : Nat} {ret : Option FieldType} {wy : List Cond} {rm : Room} {Qc : Array Value → State → Outcome → State → Prop} {free : Addr → Prop} {Ts : List Cond} {own C : String} {b : Addr} {As : List Value} {T : u_T} {N ci : Nat} {fs : List Value}
theorem sub_of_map {is : List Nat} (hC : is.map (fun i => ws[i]?) = wc.map some) : is.filterMap (fun i => ws[i]?) = wc := by
  induction is generalizing wc with
  | nil => cases wc with
    | nil => rfl
    | cons x xs => simp at hC
  | cons i is ih => cases wc with
    | nil => simp at hC
    | cons x xs =>
      simp only [List.map_cons, List.cons.injEq] at hC
      rw [List.filterMap_cons, hC.1, ih hC.2]
theorem pre_ok (hK : va_K g.1 vwCl (gTy g) s) (hN : nsW s) (hP : va_P g.1 vwCl wc H) (hD : va_D A wc) {av : List Value} : ∀ U : State, U.heap = H → s.WarmedH U.vm → va_Pc av (pW g wc H.size) av.toArray U := fun U hU hWm => ⟨rfl, by rw [hU], by rw [hU]; exact hP, kW.warm hWm ⟨hK, hN⟩, hD.weaken (fun _ _ _ _ => trivial)⟩
theorem rn_V (S : CallFix p m c cc nL s args Ts own) (hM : Met l y wy rm (va_Pc (.ref b :: As) (pW g wc H.size)) Qc mc ms free) (cw : CallW R s args own C index y bytes maxL ret wy rm mc ms n) (hK : va_K g.1 vwCl (gTy g) s) (hN : nsW s) (hP : va_P g.1 vwCl wc H) (hD : va_D A wc) (q0 : Nat) (hc : vwCl[ci]? = some (C, T, N)) (he : wc[q0]? = some (b, .inr (ci, fs))) (hst : st0 = As.reverse ++ .ref b :: rest) (hn : As.length = n) (hsz : ls.size = nL) (hW : (rest.map fun v => v.category).sum ≤ 8) (hdg : decode cc pc = .ok (.invokevirtual index, 3)) (hf : cells + mc ≤ R.cells ∧ slots + ms ≤ R.slots) :
    va_Run p l e R s m args below meth c H locs cells slots mc ms (F0 m pc ls st0) rest (Qc (Value.ref b :: As).toArray) free :=
  va_runV S hM cw ⟨pW_blind _ _ _ _, va_recv hK hP hc he, pre_ok hK hN hP hD⟩ rfl hn hsz hst (lv_room hW) hdg hf
theorem rn_S (S : CallFix p m c cc nL s args Ts own) (hM : Met l y wy rm (va_Pc As (pW g wc H.size)) Qc mc ms free) (cw : CallB R s args own index y bytes maxL ret wy rm mc ms n ∧ (Cond.static y).before args s = true) (hK : va_K g.1 vwCl (gTy g) s) (hN : nsW s) (hP : va_P g.1 vwCl wc H) (hD : va_D A wc) (hst : st0 = As.reverse ++ rest) (hn : As.length = n) (hsz : ls.size = nL) (hW : (rest.map fun v => v.category).sum ≤ 8) (hdg : decode cc pc = .ok (.invokestatic index, 3)) (hf : cells + mc ≤ R.cells ∧ slots + ms ≤ R.slots) :
    va_Run p l e R s m args below meth c H locs cells slots mc ms (F0 m pc ls st0) rest (Qc As.toArray) free :=
  va_runS S hM cw ⟨pW_blind _ _ _ _, pre_ok hK hN hP hD⟩ rfl hn hsz hst (lv_room hW) hdg hf
theorem rn_I (S : CallFix p m c cc nL s args Ts own) (hM : Met l y wy rm (va_Pc (.ref b :: As) (pW g wc H.size)) Qc mc ms free) (cw : CallB R s args own index y bytes maxL none wy rm mc ms n ∧ y.name = "<init>" ∧ (Cond.instanceMethod y).before args s = true) (hK : va_K g.1 vwCl (gTy g) s) (hN : nsW s) (hP : va_P g.1 vwCl wc H) (hD : va_D A wc) (hst : st0 = As.reverse ++ .ref b :: rest) (hn : As.length = n) (hsz : ls.size = nL) (hW : (rest.map fun v => v.category).sum ≤ 8) (hdg : decode cc pc = .ok (.invokespecial index, 3)) (hf : cells + mc ≤ R.cells ∧ slots + ms ≤ R.slots) :
    va_Run p l e R s m args below meth c H locs cells slots mc ms (F0 m pc ls st0) rest (Qc (Value.ref b :: As).toArray) free :=
  va_runI S hM cw ⟨pW_blind _ _ _ _, pre_ok hK hN hP hD⟩ rfl hn hsz hst (lv_room hW) hdg hf
theorem rn_VN (S : CallFix p m c cc nL s args Ts own) (hM : Met l y wy rm (va_Pc (.ref b :: As) (pW g wc H.size)) Qc mc ms free) {host : String} (cw : va_CN R s args own index y host bytes maxL ret wy rm mc ms n ∧ (Cond.instanceMethod y).before args s = true ∧ (Cond.selects C y y).before args s = true) (hK : va_K g.1 vwCl (gTy g) s) (hN : nsW s) (hP : va_P g.1 vwCl wc H) (hD : va_D A wc) (q0 : Nat) (hc : vwCl[ci]? = some (C, T, N)) (he : wc[q0]? = some (b, .inr (ci, fs))) (hst : st0 = As.reverse ++ .ref b :: rest) (hn : As.length = n) (hsz : ls.size = nL) (hW : (rest.map fun v => v.category).sum ≤ 8) (hdg : decode cc pc = .ok (.invokevirtual index, 3)) (hf : cells + mc ≤ R.cells ∧ slots + ms ≤ R.slots) :
    va_Run p l e R s m args below meth c H locs cells slots mc ms (F0 m pc ls st0) rest (Qc (Value.ref b :: As).toArray) free :=
  va_runVN S hM cw ⟨pW_blind _ _ _ _, va_recv hK hP hc he, pre_ok hK hN hP hD⟩ rfl hn hsz hst (lv_room hW) hdg hf
theorem rn_SN (S : CallFix p m c cc nL s args Ts own) (hM : Met l y wy rm (va_Pc As (pW g wc H.size)) Qc mc ms free) {host : String} (cw : va_CN R s args own index y host bytes maxL ret wy rm mc ms n ∧ (Cond.static y).before args s = true ∧ True) (hK : va_K g.1 vwCl (gTy g) s) (hN : nsW s) (hP : va_P g.1 vwCl wc H) (hD : va_D A wc) (hst : st0 = As.reverse ++ rest) (hn : As.length = n) (hsz : ls.size = nL) (hW : (rest.map fun v => v.category).sum ≤ 8) (hdg : decode cc pc = .ok (.invokestatic index, 3)) (hf : cells + mc ≤ R.cells ∧ slots + ms ≤ R.slots) :
    va_Run p l e R s m args below meth c H locs cells slots mc ms (F0 m pc ls st0) rest (Qc As.toArray) free :=
  va_runSN S hM cw ⟨pW_blind _ _ _ _, pre_ok hK hN hP hD⟩ rfl hn hsz hst (lv_room hW) hdg hf
theorem rn_IN (S : CallFix p m c cc nL s args Ts own) (hM : Met l y wy rm (va_Pc (.ref b :: As) (pW g wc H.size)) Qc mc ms free) {host : String} (cw : va_CN R s args own index y host bytes maxL none wy rm mc ms n ∧ y.name = "<init>" ∧ (Cond.instanceMethod y).before args s = true) (hK : va_K g.1 vwCl (gTy g) s) (hN : nsW s) (hP : va_P g.1 vwCl wc H) (hD : va_D A wc) (hst : st0 = As.reverse ++ .ref b :: rest) (hn : As.length = n) (hsz : ls.size = nL) (hW : (rest.map fun v => v.category).sum ≤ 8) (hdg : decode cc pc = .ok (.invokespecial index, 3)) (hf : cells + mc ≤ R.cells ∧ slots + ms ≤ R.slots) :
    va_Run p l e R s m args below meth c H locs cells slots mc ms (F0 m pc ls st0) rest (Qc (Value.ref b :: As).toArray) free :=
  va_runIN S hM cw ⟨pW_blind _ _ _ _, pre_ok hK hN hP hD⟩ rfl hn hsz hst (lv_room hW) hdg hf
theorem go_i {S : Type} {post : Int32 → S → Prop} {w1 : S → va_W} (hP : va_P g.1 vwCl ws H) (hD : va_D A ws) (hS : va_S A s.heap H locs) (hA : ∀ q : Nat, s.heap.size ≤ q → A q) (isC isR : List Nat) (hC : isC.map (fun i => ws[i]?) = wc.map some) (hR : isR.map (fun i => ws[i]?) = wr.map some) (hnC : va_nd isC = true) (hnd : va_nd isR = true) (hdis : ∀ i ∈ isR, i ∉ isC)
    (hr : va_P g.1 vwCl wc H → va_D A wc → va_Run p l e R s m args below meth c H locs cells slots mc ms (F0 m pc ls st0) rest (va_Qi post (fun u => qW g (w1 u) (va_A wc H.size)) (va_A wc H.size) a) (va_A wc H.size))
    (kk : ∀ (r : Int32) (u : S) (H1 : Heap) (locs1 : List Loc), post r u → va_P g.1 vwCl (wr ++ w1 u) H1 → va_D A (wr ++ w1 u) → va_S A s.heap H1 locs1 → W p l e R s m args below meth c H1 locs1 (cells + mc) (slots + ms) Q (F0 m (pc + 3) ls (.int r :: rest))) : W p l e R s m args below meth c H locs cells slots Q (F0 m pc ls st0) := by
  have hF := va_free (wc := wc) hD hS hA isC hC
  refine va_calli (hr (hP.sub isC (sub_of_map hC)) (hD.sub isC hnC hC)) hS (fun q _ h => hF q h) hF (fun r u t H1 locs1 ht hvm hw hB hz1 hk1 hS1 => ?_)
  obtain ⟨hP1, hD1⟩ := hB
  rw [ht] at hP1
  obtain ⟨hP', hD'⟩ := va_join hP hD isC isR hC hR hnd hdis hk1 hF hP1 hD1
  exact kk r u H1 locs1 hw hP' hD' hS1
theorem go_l {S : Type} {post : Int64 → S → Prop} {w1 : S → va_W} (hP : va_P g.1 vwCl ws H) (hD : va_D A ws) (hS : va_S A s.heap H locs) (hA : ∀ q : Nat, s.heap.size ≤ q → A q) (isC isR : List Nat) (hC : isC.map (fun i => ws[i]?) = wc.map some) (hR : isR.map (fun i => ws[i]?) = wr.map some) (hnC : va_nd isC = true) (hnd : va_nd isR = true) (hdis : ∀ i ∈ isR, i ∉ isC)
    (hr : va_P g.1 vwCl wc H → va_D A wc → va_Run p l e R s m args below meth c H locs cells slots mc ms (F0 m pc ls st0) rest (va_Ql post (fun u => qW g (w1 u) (va_A wc H.size)) (va_A wc H.size) a) (va_A wc H.size))
    (kk : ∀ (r : Int64) (u : S) (H1 : Heap) (locs1 : List Loc), post r u → va_P g.1 vwCl (wr ++ w1 u) H1 → va_D A (wr ++ w1 u) → va_S A s.heap H1 locs1 → W p l e R s m args below meth c H1 locs1 (cells + mc) (slots + ms) Q (F0 m (pc + 3) ls (.long r :: rest))) : W p l e R s m args below meth c H locs cells slots Q (F0 m pc ls st0) := by
  have hF := va_free (wc := wc) hD hS hA isC hC
  refine va_calll (hr (hP.sub isC (sub_of_map hC)) (hD.sub isC hnC hC)) hS (fun q _ h => hF q h) hF (fun r u t H1 locs1 ht hvm hw hB hz1 hk1 hS1 => ?_)
  obtain ⟨hP1, hD1⟩ := hB
  rw [ht] at hP1
  obtain ⟨hP', hD'⟩ := va_join hP hD isC isR hC hR hnd hdis hk1 hF hP1 hD1
  exact kk r u H1 locs1 hw hP' hD' hS1
theorem go_v {S : Type} {post : S → Prop} {w1 : S → va_W} (hP : va_P g.1 vwCl ws H) (hD : va_D A ws) (hS : va_S A s.heap H locs) (hA : ∀ q : Nat, s.heap.size ≤ q → A q) (isC isR : List Nat) (hC : isC.map (fun i => ws[i]?) = wc.map some) (hR : isR.map (fun i => ws[i]?) = wr.map some) (hnC : va_nd isC = true) (hnd : va_nd isR = true) (hdis : ∀ i ∈ isR, i ∉ isC)
    (hr : va_P g.1 vwCl wc H → va_D A wc → va_Run p l e R s m args below meth c H locs cells slots mc ms (F0 m pc ls st0) rest (va_Qv post (fun u => qW g (w1 u) (va_A wc H.size)) (va_A wc H.size) a) (va_A wc H.size))
    (kk : ∀ (u : S) (H1 : Heap) (locs1 : List Loc), post u → va_P g.1 vwCl (wr ++ w1 u) H1 → va_D A (wr ++ w1 u) → va_S A s.heap H1 locs1 → W p l e R s m args below meth c H1 locs1 (cells + mc) (slots + ms) Q (F0 m (pc + 3) ls rest)) : W p l e R s m args below meth c H locs cells slots Q (F0 m pc ls st0) := by
  have hF := va_free (wc := wc) hD hS hA isC hC
  refine va_callv (hr (hP.sub isC (sub_of_map hC)) (hD.sub isC hnC hC)) hS (fun q _ h => hF q h) hF (fun u t H1 locs1 ht hvm hw hB hz1 hk1 hS1 => ?_)
  obtain ⟨hP1, hD1⟩ := hB
  rw [ht] at hP1
  obtain ⟨hP', hD'⟩ := va_join hP hD isC isR hC hR hnd hdis hk1 hF hP1 hD1
  exact kk u H1 locs1 hw hP' hD' hS1
theorem go_r {S : Type} {post : S → Prop} {w1 : S → Nat → va_W} (hP : va_P g.1 vwCl ws H) (hD : va_D A ws) (hS : va_S A s.heap H locs) (hA : ∀ q : Nat, s.heap.size ≤ q → A q) (isC isR : List Nat) (hC : isC.map (fun i => ws[i]?) = wc.map some) (hR : isR.map (fun i => ws[i]?) = wr.map some) (hnC : va_nd isC = true) (hnd : va_nd isR = true) (hdis : ∀ i ∈ isR, i ∉ isC)
    (hr : va_P g.1 vwCl wc H → va_D A wc → va_Run p l e R s m args below meth c H locs cells slots mc ms (F0 m pc ls st0) rest (va_Qr post (fun u a => qW g (w1 u a) (va_A wc H.size)) (va_A wc H.size) a) (va_A wc H.size))
    (kk : ∀ (u : S) (ra : Nat) (H1 : Heap) (locs1 : List Loc), post u → va_P g.1 vwCl (wr ++ w1 u ra) H1 → va_D A (wr ++ w1 u ra) → va_S A s.heap H1 locs1 → W p l e R s m args below meth c H1 locs1 (cells + mc) (slots + ms) Q (F0 m (pc + 3) ls (.ref ra :: rest))) : W p l e R s m args below meth c H locs cells slots Q (F0 m pc ls st0) := by
  have hF := va_free (wc := wc) hD hS hA isC hC
  refine va_callr (hr (hP.sub isC (sub_of_map hC)) (hD.sub isC hnC hC)) hS (fun q _ h => hF q h) hF (fun u ra t H1 locs1 ht hvm hw hB hz1 hk1 hS1 => ?_)
  obtain ⟨hP1, hD1⟩ := hB
  rw [ht] at hP1
  obtain ⟨hP', hD'⟩ := va_join hP hD isC isR hC hR hnd hdis hk1 hF hP1 hD1
  exact kk u ra H1 locs1 hw hP' hD' hS1
end CALLS
theorem nI_inc1 (k : Nat) : nI k + Int32.ofInt 1 = nI (k + 1) := nI_1 k
theorem nI_inc6 (k : Nat) : nI k + Int32.ofInt 6 = nI (k + 6) := nI_add k 6
theorem nI_dec {k : Nat} (h : 1 ≤ k) : nI k + Int32.ofInt (-1) = nI (k - 1) := by
  obtain ⟨j, rfl⟩ : ∃ j, k = j + 1 := ⟨k - 1, by omega⟩
  exact pk_m1 j
theorem nI_eq0 {a : Nat} (h : a < 2 ^ 31) : nI a = 0 ↔ a = 0 := nI_eq (b := 0) h (by decide)
theorem nI_lt0 {a : Nat} (h : a < 2 ^ 31) : nI a < 0 ↔ False := ⟨fun q => nI_pos h q, False.elim⟩
theorem nI_ge0 {a : Nat} (h : a < 2 ^ 31) : 0 ≤ nI a ↔ True := ⟨fun _ => trivial, fun _ => nI_pos' h⟩
theorem nI_le0 {a : Nat} (h : a < 2 ^ 31) : nI a ≤ 0 ↔ a ≤ 0 := nI_leI (b := 0) h (by decide)
theorem nI_gt0 {a : Nat} (h : a < 2 ^ 31) : 0 < nI a ↔ 0 < a := nI_ltI (a := 0) (by decide) h
theorem i64_lt (a b : Int64) : a < b ↔ a.toInt < b.toInt := Int64.lt_iff_toInt_lt
theorem i64_le (a b : Int64) : a ≤ b ↔ a.toInt ≤ b.toInt := Int64.le_iff_toInt_le
theorem i64_eq (a b : Int64) : a = b ↔ a.toInt = b.toInt := Int64.toInt_inj.symm
theorem lc_val (x y : Int64) : (y.toInt < x.toInt ∧ lg_cmp x y = 1) ∨ (x.toInt = y.toInt ∧ lg_cmp x y = 0) ∨ (x.toInt < y.toInt ∧ lg_cmp x y = -1) := by
  unfold lg_cmp
  by_cases h : y < x
  · exact Or.inl ⟨(i64_lt _ _).mp h, if_pos h⟩
  · have h' := mt (i64_lt _ _).mpr h
    rw [if_neg h]
    by_cases h2 : x = y
    · exact Or.inr (Or.inl ⟨congrArg _ h2, if_pos h2⟩)
    · have h3 := mt (i64_eq _ _).mpr h2
      exact Or.inr (Or.inr ⟨by omega, if_neg h2⟩)
theorem lc_lt (x y : Int64) : lg_cmp x y < 0 ↔ x < y := by
  rw [i64_lt]
  rcases lc_val x y with ⟨a, b⟩ | ⟨a, b⟩ | ⟨a, b⟩ <;> rw [b] <;> constructor <;> intro q <;> first | omega | (exact absurd q (by decide)) | decide
theorem lc_gt (x y : Int64) : 0 < lg_cmp x y ↔ y < x := by
  rw [i64_lt]
  rcases lc_val x y with ⟨a, b⟩ | ⟨a, b⟩ | ⟨a, b⟩ <;> rw [b] <;> constructor <;> intro q <;> first | omega | (exact absurd q (by decide)) | decide
theorem lc_eq (x y : Int64) : lg_cmp x y = 0 ↔ x = y := by
  rw [i64_eq]
  rcases lc_val x y with ⟨a, b⟩ | ⟨a, b⟩ | ⟨a, b⟩ <;> rw [b] <;> constructor <;> intro q <;> first | omega | (exact absurd q (by decide)) | decide
theorem lc_le (x y : Int64) : lg_cmp x y ≤ 0 ↔ x ≤ y := by
  rw [i64_le]
  rcases lc_val x y with ⟨a, b⟩ | ⟨a, b⟩ | ⟨a, b⟩ <;> rw [b] <;> constructor <;> intro q <;> first | omega | (exact absurd q (by decide)) | decide
theorem lc_ge (x y : Int64) : 0 ≤ lg_cmp x y ↔ y ≤ x := by
  rw [i64_le]
  rcases lc_val x y with ⟨a, b⟩ | ⟨a, b⟩ | ⟨a, b⟩ <;> rw [b] <;> constructor <;> intro q <;> first | omega | (exact absurd q (by decide)) | decide
