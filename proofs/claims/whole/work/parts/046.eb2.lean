/-- a contract of a method that answers a cell that is known -/
def CK {S : Type} (l : Launch) (y : MethodName) (wy : List Cond) (rm : Room) (g : Gt) (av : List Value) (wc : va_W) (rk : Nat) (post : S → Prop) (w1 : S → va_W) (mc ms : Nat) : Prop := ∀ sz : Nat, Met l y wy rm (va_Pc av (pW g wc sz)) (va_Qr post (fun u a t => a = rk ∧ qW g (w1 u) (va_A wc sz) t) (va_A wc sz)) mc ms (va_A wc sz)
theorem ent_k {S : Type} {l : Launch} {y : MethodName} {wy wy' : List Cond} {rm : Room} {g : Gt} {av : List Value} {wc : va_W} {mc ms : Nat} {cc : ByteArray} {maxL : Nat} {post : S → Prop} {w1 : S → va_W} {rn : String} {rk : Nat} (hy : plainName y.cls = true) (hw : wy = Cond.code y cc maxL (some (.object rn)) :: wy') (hlen : (lg_sl av).length ≤ maxL)
    (k : ∀ (p : Program) (e : Env) (s : State) (m : MethodId) (below : List Frame) (meth : Method) (c : Code) (A : Nat → Prop) (args : Array Value) (Q : State → Prop), En l y wy cc maxL (some (.object rn)) g av wc p s m args meth c A → (∀ {H : Heap} {locs : List Loc} {pc : Nat} {ls : Array Slot}, decode cc pc = .ok (.areturn, 1) → ∀ u : S, post u → va_P g.1 vwCl (w1 u) H → va_D A (w1 u) → va_S A s.heap H locs → W p l e rm s m args below meth c H locs mc ms Q (F0 m pc ls [.ref rk])) → ∀ ls : Array Slot, lv_has ls maxL (lv_args 0 av) → W p l e rm s m args below meth c s.heap [] 0 0 Q (F0 m 0 ls [])) :
    CK l y wy rm g av wc rk post w1 mc ms := by
  intro sz
  refine ent_any (ret := some (.object rn)) (Qf := fun A => va_Qr post (fun u a t => a = rk ∧ qW g (w1 u) A t) A) hy hw hlen ?_ sz
  intro p e s m below meth c A hE hr hlocks ls hl
  refine k p e s m below meth c A _ _ hE ?_ ls hl
  intro H locs pc ls hd u hp hP hD hS
  exact W.aret hE.1 hE.2.1 hr (Or.inl ⟨rn, rfl⟩) (Or.inr ⟨rk, rfl⟩) (fun t ht hW => ⟨⟨u, rk, rfl, hp, rfl, by rw [ht]; exact hP, hD⟩, hS.F ht⟩) hS.2.2 hd
theorem go_k {p : Program} {l : Launch} {e : Env} {R : Room} {s : State} {m : MethodId} {args : Array Value} {below : List Frame} {meth : Method} {c : Code} {H : Heap} {locs : List Loc} {cells slots : Nat} {Q : State → Prop} {pc : Nat} {ls : Array Slot} {rest st0 : List Value} {g : Gt} {A : Nat → Prop} {ws wc wr : va_W} {a : Array Value} {mc ms : Nat} {S : Type} {post : S → Prop} {w1 : S → va_W} {rk : Nat} (hP : va_P g.1 vwCl ws H) (hD : va_D A ws) (hS : va_S A s.heap H locs) (hA : ∀ q : Nat, s.heap.size ≤ q → A q) (isC isR : List Nat) (hC : isC.map (fun i => ws[i]?) = wc.map some) (hR : isR.map (fun i => ws[i]?) = wr.map some) (hnC : va_nd isC = true) (hnd : va_nd isR = true) (hdis : ∀ i ∈ isR, i ∉ isC)
    (hr : va_P g.1 vwCl wc H → va_D A wc → va_Run p l e R s m args below meth c H locs cells slots mc ms (F0 m pc ls st0) rest (va_Qr post (fun u a t => a = rk ∧ qW g (w1 u) (va_A wc H.size) t) (va_A wc H.size) a) (va_A wc H.size))
    (kk : ∀ (u : S) (H1 : Heap) (locs1 : List Loc), post u → va_P g.1 vwCl (wr ++ w1 u) H1 → va_D A (wr ++ w1 u) → va_S A s.heap H1 locs1 → W p l e R s m args below meth c H1 locs1 (cells + mc) (slots + ms) Q (F0 m (pc + 3) ls (.ref rk :: rest))) : W p l e R s m args below meth c H locs cells slots Q (F0 m pc ls st0) := by
  have hF := va_free (wc := wc) hD hS hA isC hC
  refine va_callr (hr (hP.sub isC (sub_of_map hC)) (hD.sub isC hnC hC)) hS (fun q _ h => hF q h) hF (fun u ra t H1 locs1 ht hvm hw hB hz1 hk1 hS1 => ?_)
  obtain ⟨rfl, hP1, hD1⟩ := hB
  rw [ht] at hP1
  obtain ⟨hP', hD'⟩ := va_join hP hD isC isR hC hR hnd hdis hk1 hF hP1 hD1
  exact kk u H1 locs1 hw hP' hD' hS1
def rtI (lo hi : Nat → Int32) (bi w k : Nat) : Nat → (Nat → Int32) → Nat → Int32
  | 0, nu => nu
  | n + 1, nu => rtI lo hi bi w (k + 1) n (upd nu (w * 4 + k) (if k < bi then lo (w * 4 + k) else hi (w * 4 + k)))
def rtO (lo hi : Nat → Int32) (bi t w : Nat) : Nat → (Nat → Int32) → Nat → Int32
  | 0, nu => nu
  | n + 1, nu => rtO lo hi bi t (w + 1) n (rtI lo hi bi w 0 t nu)
/-- what a cone holds: inputs, things, the fewest shared, many, whether it is fresh, rays, bounds, slacks -/
abbrev Cn : Type := Nat × Nat × Nat × Nat × Int32 × (Nat → Int64) × (Nat → Int32) × (Nat → Int64)
/-- a cone that is built: of these rows, by this view -/
def cnOK (nu pt : Nat → Int32) (ri ro v : Nat) (u : Cn) : Prop := u.1 = ri ∧ u.2.1 = ri + ro ∧ u.2.2.1 = bdK v (ri + ro) ∧ ∃ (ray : Nat → Int64) (tg : Nat → Int32) (sl : Nat → Int64) (km : Nat), (u.2.2.2.1, u.2.2.2.2.2.1, u.2.2.2.2.2.2.1) = bdS nu pt v ri (ri + ro) ray tg sl km
def cnFR (nu pt : Nat → Int32) (ri ro v : Nat) (u : Cn) : Prop := u.2.2.2.2.1 = 0 ∨ (u.2.2.2.2.1 = 1 ∧ cnOK nu pt ri ro v u)
theorem cnOK_le {nu pt : Nat → Int32} {ri ro v : Nat} {u : Cn} (h : cnOK nu pt ri ro v u) (h1 : ri ≤ 2) (h2 : ro ≤ 2) : u.2.2.2.1 ≤ 144 := by
  obtain ⟨-, -, -, ray, tg, sl, km, e⟩ := h
  have e1 : u.2.2.2.1 = (bdS nu pt v ri (ri + ro) ray tg sl km).1 := congrArg Prod.fst e
  rw [e1]
  exact bdS_le nu pt v ri (ri + ro) (by omega) ray tg sl km
theorem iw_X3_retell_X3 : ∀ w ∈ wsX30, w ∈ wsX3_retell := by decide +kernel
theorem fm_X3_retell_23 : Cond.fieldLink RX3 23 "EdgeBench" "told" "LEdgeBench$Rows;" ∈ wsX3_retell := by decide +kernel
theorem fm_X3_retell_49 : Cond.fieldLink RX3 49 "EdgeBench" "ins" "I" ∈ wsX3_retell := by decide +kernel
theorem iw_X3_retell_X2 : ∀ w ∈ wsX20, w ∈ wsX3_retell := by decide +kernel
theorem fm_X3_retell_52 : Cond.fieldLink RX3 52 "EdgeBench" "outs" "I" ∈ wsX3_retell := by decide +kernel
theorem fm_X3_retell_32 : Cond.fieldLink RX3 32 "EdgeBench" "toldCones" "[LEdgeBench$Cone;" ∈ wsX3_retell := by decide +kernel
theorem iw_X3_retell_X0 : ∀ w ∈ wsX00, w ∈ wsX3_retell := by decide +kernel
theorem fm_X3_retell_16 : Cond.fieldLink RX3 16 "EdgeBench" "there" "[Z" ∈ wsX3_retell := by decide +kernel
theorem fm_X3_retell_13 : Cond.fieldLink RX3 13 "EdgeBench" "high" "[I" ∈ wsX3_retell := by decide +kernel
theorem fm_X3_retell_9 : Cond.fieldLink RX3 9 "EdgeBench" "low" "[I" ∈ wsX3_retell := by decide +kernel
set_option maxHeartbeats 4000000 in
set_option maxRecDepth 100000 in
theorem c_X3_retell (l : Launch) (g : Gt) (e0 : Nat) (bi : Nat) (bo : Nat) (bw : Nat) (al : Nat) (ah : Nat) (az : Nat) (r0 : Nat) (s0 : Nat) (ac : Nat) (h9 : Nat) (lo : Nat → Int32) (hi : Nat → Int32) (th : Nat → Int32) (rn : Nat) (rp : Nat) (ri : Nat) (ro : Nat) (nu : Nat → Int32) (pt : Nat → Int32) (cf : Nat → Option Nat) (c0 : Nat) (ki0 : Int32) (kt0 : Int32) (kf0 : Int32) (km0 : Int32) (fr0 : Int32) (x0 : Nat) (y0 : Nat) (z0 : Nat) (c1 : Nat) (ki1 : Int32) (kt1 : Int32) (kf1 : Int32) (km1 : Int32) (fr1 : Int32) (x1 : Nat) (y1 : Nat) (z1 : Nat) (c2 : Nat) (ki2 : Int32) (kt2 : Int32) (kf2 : Int32) (km2 : Int32) (fr2 : Int32) (x2 : Nat) (y2 : Nat) (z2 : Nat) (hbi : bi ≤ 2) (hbo : bo ≤ 2) (h01 : ∀ j : Nat, th j = 0 ∨ th j = 1) (hc0 : cf 0 = some c0) (hc1 : cf 1 = some c1) (hc2 : cf 2 = some c2) : CV l yX3_retell wsX3_retell { frames := 0, cells := 0, slots := 0, locals := 0 } g [.ref (e0)] [(e0, .inr (3, [.int (nI bi), .int (nI bo), .int (nI bw), .ref (al), .ref (ah), .ref (az), .ref (r0), .ref (s0), .ref (ac), .ref (h9)])), (al, aI g 48 lo), (ah, aI g 48 hi), (az, aZ g 12 th), (r0, .inr (2, [.int (nI ri), .int (nI ro), .ref (rn), .ref (rp)])), (rn, aI g 48 nu), (rp, aZ g 12 pt), (ac, aC g 3 cf), (c0, .inr (0, [.int (ki0), .int (kt0), .int (kf0), .int (km0), .int (fr0), .ref (x0), .ref (y0), .ref (z0)])), (c1, .inr (0, [.int (ki1), .int (kt1), .int (kf1), .int (km1), .int (fr1), .ref (x1), .ref (y1), .ref (z1)])), (c2, .inr (0, [.int (ki2), .int (kt2), .int (kf2), .int (km2), .int (fr2), .ref (x2), .ref (y2), .ref (z2)]))] (fun (zu : Unit) => True) (fun (zu : Unit) => [(e0, .inr (3, [.int (nI bi), .int (nI bo), .int (nI bw), .ref (al), .ref (ah), .ref (az), .ref (r0), .ref (s0), .ref (ac), .ref (h9)])), (al, aI g 48 lo), (ah, aI g 48 hi), (az, aZ g 12 th), (r0, .inr (2, [.int (nI bi), .int (nI bo), .ref (rn), .ref (rp)])), (rn, aI g 48 (rtO lo hi bi (bi + bo) 0 12 nu)), (rp, aZ g 12 th), (ac, aC g 3 cf), (c0, .inr (0, [.int (ki0), .int (kt0), .int (kf0), .int (km0), .int (0), .ref (x0), .ref (y0), .ref (z0)])), (c1, .inr (0, [.int (ki1), .int (kt1), .int (kf1), .int (km1), .int (0), .ref (x1), .ref (y1), .ref (z1)])), (c2, .inr (0, [.int (ki2), .int (kt2), .int (kf2), .int (km2), .int (0), .ref (x2), .ref (y2), .ref (z2)]))]) 0 0 := by
  refine ent_v (cc := cX3_retell) (maxL := 4) (by decide) rfl (Nat.le_of_ble_eq_true rfl) ?_
  intro p e s m below meth c A args Q hE ret ls hl
  obtain ⟨hx, hb, hml, hown, hts, hnm, hA, hP, hD, hK, hN⟩ := hE
  have hS : va_S A s.heap s.heap [] := va_S.rf
  have hl : lv_has ls 4 [(0, .ref (e0))] := hl
  have hP : va_P g.1 vwCl [(e0, .inr (3, [.int (nI bi), .int (nI bo), .int (nI bw), .ref (al), .ref (ah), .ref (az), .ref (r0), .ref (s0), .ref (ac), .ref (h9)])), (al, aI g 48 lo), (ah, aI g 48 hi), (az, aZ g 12 th), (r0, .inr (2, [.int (nI ri), .int (nI ro), .ref (rn), .ref (rp)])), (rn, aI g 48 nu), (rp, aZ g 12 pt), (ac, aC g 3 cf), (c0, .inr (0, [.int (ki0), .int (kt0), .int (kf0), .int (km0), .int (fr0), .ref (x0), .ref (y0), .ref (z0)])), (c1, .inr (0, [.int (ki1), .int (kt1), .int (kf1), .int (km1), .int (fr1), .ref (x1), .ref (y1), .ref (z1)])), (c2, .inr (0, [.int (ki2), .int (kt2), .int (kf2), .int (km2), .int (fr2), .ref (x2), .ref (y2), .ref (z2)]))] s.heap := hP
  refine lv_aload_n hx hb dX3_retell_0 rfl (lv_at hl 0 rfl) ?_
  refine k_get hx hb hts hown hK hP iw_X3_retell_X3 rfl 0 6 fm_X3_retell_23 (by decide) rfl rfl dX3_retell_1 ?_
  refine lv_aload_n hx hb dX3_retell_4 rfl (lv_at hl 0 rfl) ?_
  refine k_get hx hb hts hown hK hP iw_X3_retell_X3 rfl 0 0 fm_X3_retell_49 (by decide) rfl rfl dX3_retell_5 ?_
  refine k_putN hx hb hts hown hK hN hP hD hS iw_X3_retell_X2 rfl tyX2 tyX2_ok nmX2 4 0 (List.mem_of_getElem? (i := 1) rfl) (by decide) rfl rfl rfl rfl rfl (Nat.le_of_ble_eq_true rfl) dX3_retell_8 (fun H locs hP hD hS => ?_)
  have hP : va_P g.1 vwCl [(e0, .inr (3, [.int (nI bi), .int (nI bo), .int (nI bw), .ref (al), .ref (ah), .ref (az), .ref (r0), .ref (s0), .ref (ac), .ref (h9)])), (al, aI g 48 lo), (ah, aI g 48 hi), (az, aZ g 12 th), (r0, .inr (2, [.int (nI bi), .int (nI ro), .ref (rn), .ref (rp)])), (rn, aI g 48 nu), (rp, aZ g 12 pt), (ac, aC g 3 cf), (c0, .inr (0, [.int (ki0), .int (kt0), .int (kf0), .int (km0), .int (fr0), .ref (x0), .ref (y0), .ref (z0)])), (c1, .inr (0, [.int (ki1), .int (kt1), .int (kf1), .int (km1), .int (fr1), .ref (x1), .ref (y1), .ref (z1)])), (c2, .inr (0, [.int (ki2), .int (kt2), .int (kf2), .int (km2), .int (fr2), .ref (x2), .ref (y2), .ref (z2)]))] H := hP
  have hD : va_D A [(e0, .inr (3, [.int (nI bi), .int (nI bo), .int (nI bw), .ref (al), .ref (ah), .ref (az), .ref (r0), .ref (s0), .ref (ac), .ref (h9)])), (al, aI g 48 lo), (ah, aI g 48 hi), (az, aZ g 12 th), (r0, .inr (2, [.int (nI bi), .int (nI ro), .ref (rn), .ref (rp)])), (rn, aI g 48 nu), (rp, aZ g 12 pt), (ac, aC g 3 cf), (c0, .inr (0, [.int (ki0), .int (kt0), .int (kf0), .int (km0), .int (fr0), .ref (x0), .ref (y0), .ref (z0)])), (c1, .inr (0, [.int (ki1), .int (kt1), .int (kf1), .int (km1), .int (fr1), .ref (x1), .ref (y1), .ref (z1)])), (c2, .inr (0, [.int (ki2), .int (kt2), .int (kf2), .int (km2), .int (fr2), .ref (x2), .ref (y2), .ref (z2)]))] := hD
  refine lv_aload_n hx hb dX3_retell_11 rfl (lv_at hl 0 rfl) ?_
  refine k_get hx hb hts hown hK hP iw_X3_retell_X3 rfl 0 6 fm_X3_retell_23 (by decide) rfl rfl dX3_retell_12 ?_
  refine lv_aload_n hx hb dX3_retell_15 rfl (lv_at hl 0 rfl) ?_
  refine k_get hx hb hts hown hK hP iw_X3_retell_X3 rfl 0 1 fm_X3_retell_52 (by decide) rfl rfl dX3_retell_16 ?_
  refine k_putN hx hb hts hown hK hN hP hD hS iw_X3_retell_X2 rfl tyX2 tyX2_ok nmX2 4 1 (List.mem_of_getElem? (i := 3) rfl) (by decide) rfl rfl rfl rfl rfl (Nat.le_of_ble_eq_true rfl) dX3_retell_19 (fun H locs hP hD hS => ?_)
  have hP : va_P g.1 vwCl [(e0, .inr (3, [.int (nI bi), .int (nI bo), .int (nI bw), .ref (al), .ref (ah), .ref (az), .ref (r0), .ref (s0), .ref (ac), .ref (h9)])), (al, aI g 48 lo), (ah, aI g 48 hi), (az, aZ g 12 th), (r0, .inr (2, [.int (nI bi), .int (nI bo), .ref (rn), .ref (rp)])), (rn, aI g 48 nu), (rp, aZ g 12 pt), (ac, aC g 3 cf), (c0, .inr (0, [.int (ki0), .int (kt0), .int (kf0), .int (km0), .int (fr0), .ref (x0), .ref (y0), .ref (z0)])), (c1, .inr (0, [.int (ki1), .int (kt1), .int (kf1), .int (km1), .int (fr1), .ref (x1), .ref (y1), .ref (z1)])), (c2, .inr (0, [.int (ki2), .int (kt2), .int (kf2), .int (km2), .int (fr2), .ref (x2), .ref (y2), .ref (z2)]))] H := hP
  have hD : va_D A [(e0, .inr (3, [.int (nI bi), .int (nI bo), .int (nI bw), .ref (al), .ref (ah), .ref (az), .ref (r0), .ref (s0), .ref (ac), .ref (h9)])), (al, aI g 48 lo), (ah, aI g 48 hi), (az, aZ g 12 th), (r0, .inr (2, [.int (nI bi), .int (nI bo), .ref (rn), .ref (rp)])), (rn, aI g 48 nu), (rp, aZ g 12 pt), (ac, aC g 3 cf), (c0, .inr (0, [.int (ki0), .int (kt0), .int (kf0), .int (km0), .int (fr0), .ref (x0), .ref (y0), .ref (z0)])), (c1, .inr (0, [.int (ki1), .int (kt1), .int (kf1), .int (km1), .int (fr1), .ref (x1), .ref (y1), .ref (z1)])), (c2, .inr (0, [.int (ki2), .int (kt2), .int (kf2), .int (km2), .int (fr2), .ref (x2), .ref (y2), .ref (z2)]))] := hD
  refine lv_iconst (v := nI 0) hx hb dX3_retell_22 (by decide) ?_
  refine lv_istore_n (lv' := [(1, .int (nI 0)), (0, .ref (e0))]) hx hb dX3_retell_23 rfl hl (by decide) rfl (fun ls hl => ?_)
  have lp_24 : ∀ (n : Nat) (w : Nat) (f : Nat → Int32), 12 - w < n → w ≤ 12 → rtO lo hi bi (bi + bo) 0 12 nu = rtO lo hi bi (bi + bo) w (12 - w) f → ∀ (H : Heap) (locs : List Loc), va_P g.1 vwCl [(e0, .inr (3, [.int (nI bi), .int (nI bo), .int (nI bw), .ref (al), .ref (ah), .ref (az), .ref (r0), .ref (s0), .ref (ac), .ref (h9)])), (al, aI g 48 lo), (ah, aI g 48 hi), (az, aZ g 12 th), (r0, .inr (2, [.int (nI bi), .int (nI bo), .ref (rn), .ref (rp)])), (rn, aI g 48 f), (rp, aZ g 12 (pI pt 0 th w)), (ac, aC g 3 cf), (c0, .inr (0, [.int (ki0), .int (kt0), .int (kf0), .int (km0), .int (fr0), .ref (x0), .ref (y0), .ref (z0)])), (c1, .inr (0, [.int (ki1), .int (kt1), .int (kf1), .int (km1), .int (fr1), .ref (x1), .ref (y1), .ref (z1)])), (c2, .inr (0, [.int (ki2), .int (kt2), .int (kf2), .int (km2), .int (fr2), .ref (x2), .ref (y2), .ref (z2)]))] H → va_D A [(e0, .inr (3, [.int (nI bi), .int (nI bo), .int (nI bw), .ref (al), .ref (ah), .ref (az), .ref (r0), .ref (s0), .ref (ac), .ref (h9)])), (al, aI g 48 lo), (ah, aI g 48 hi), (az, aZ g 12 th), (r0, .inr (2, [.int (nI bi), .int (nI bo), .ref (rn), .ref (rp)])), (rn, aI g 48 f), (rp, aZ g 12 (pI pt 0 th w)), (ac, aC g 3 cf), (c0, .inr (0, [.int (ki0), .int (kt0), .int (kf0), .int (km0), .int (fr0), .ref (x0), .ref (y0), .ref (z0)])), (c1, .inr (0, [.int (ki1), .int (kt1), .int (kf1), .int (km1), .int (fr1), .ref (x1), .ref (y1), .ref (z1)])), (c2, .inr (0, [.int (ki2), .int (kt2), .int (kf2), .int (km2), .int (fr2), .ref (x2), .ref (y2), .ref (z2)]))] → va_S A s.heap H locs → ∀ ls : Array Slot, lv_has ls 4 [(0, .ref (e0)), (1, .int (nI w))] → W p l e { frames := 0, cells := 0, slots := 0, locals := 0 } s m args below meth c H locs 0 0 Q (F0 m 24 ls []) := by
    intro n
    induction n with
    | zero =>
      intro w f hms
      omega
    | succ n ih_24 =>
      intro w f hms_24 hw hv H locs hP hD hS ls hl
      refine lv_iload_n hx hb dX3_retell_24 rfl (lv_at hl 1 rfl) ?_
      refine lv_bipush (v := nI 12) hx hb dX3_retell_25 (by decide) ?_
      refine lv_icmp_ge (tgt := 110) hx hb dX3_retell_27 (by decide) (fun c_1 => ?_) (fun c_1 => ?_)
      · skip
        have c_1 := (nI_leI (by omega) (by omega)).mp c_1
        have hfin : rtO lo hi bi (bi + bo) 0 12 nu = f := by rw [hv, show 12 - w = 0 by omega]; rfl
        rw [← hfin] at hP hD
        obtain ⟨hP, hD⟩ := cg_Z (h := th) hP hD 6 rfl (fun j hj => by have e := pI_in (f := pt) (a := 0) (F := th) (k := w) (i := j) (by omega); rw [Nat.zero_add] at e; exact e)
        refine lv_iconst (v := nI 0) hx hb dX3_retell_110 (by decide) ?_
        refine lv_istore_n (lv' := [(1, .int (nI 0)), (0, .ref (e0))]) hx hb dX3_retell_111 rfl hl (by decide) rfl (fun ls hl => ?_)
        refine lv_iload_n hx hb dX3_retell_112 rfl (lv_at hl 0 rfl) ?_
        refine lv_iconst (v := nI 3) hx hb dX3_retell_113 (by decide) ?_
        refine lv_icmp_ge (tgt := 133) hx hb dX3_retell_114 (by decide) (fun c_2 => ?_) (fun c_2 => ?_)
        · skip
          have c_2 := (nI_leI (by omega) (by omega)).mp c_2
          omega
        · skip
          have c_2 := mt (nI_leI (by omega) (by omega)).mpr c_2
          refine lv_aload_n hx hb dX3_retell_117 rfl (lv_at hl 1 rfl) ?_
          refine k_get hx hb hts hown hK hP iw_X3_retell_X3 rfl 0 8 fm_X3_retell_32 (by decide) rfl rfl dX3_retell_118 ?_
          refine lv_iload_n hx hb dX3_retell_121 rfl (lv_at hl 0 rfl) ?_
          refine k_cald hx hb hK hP 7 rfl (by omega) (by omega) (hc0) dX3_retell_122 ?_
          refine lv_iconst (v := nI 0) hx hb dX3_retell_123 (by decide) ?_
          refine k_putN hx hb hts hown hK hN hP hD hS iw_X3_retell_X0 rfl tyX0 tyX0_ok nmX0 8 4 (List.mem_of_getElem? (i := 8) rfl) (by decide) rfl rfl rfl rfl rfl (Nat.le_of_ble_eq_true rfl) dX3_retell_124 (fun H locs hP hD hS => ?_)
          have hP : va_P g.1 vwCl [(e0, .inr (3, [.int (nI bi), .int (nI bo), .int (nI bw), .ref (al), .ref (ah), .ref (az), .ref (r0), .ref (s0), .ref (ac), .ref (h9)])), (al, aI g 48 lo), (ah, aI g 48 hi), (az, aZ g 12 th), (r0, .inr (2, [.int (nI bi), .int (nI bo), .ref (rn), .ref (rp)])), (rn, aI g 48 (rtO lo hi bi (bi + bo) 0 12 nu)), (rp, aZ g 12 th), (ac, aC g 3 cf), (c0, .inr (0, [.int (ki0), .int (kt0), .int (kf0), .int (km0), .int (nI 0), .ref (x0), .ref (y0), .ref (z0)])), (c1, .inr (0, [.int (ki1), .int (kt1), .int (kf1), .int (km1), .int (fr1), .ref (x1), .ref (y1), .ref (z1)])), (c2, .inr (0, [.int (ki2), .int (kt2), .int (kf2), .int (km2), .int (fr2), .ref (x2), .ref (y2), .ref (z2)]))] H := hP
          have hD : va_D A [(e0, .inr (3, [.int (nI bi), .int (nI bo), .int (nI bw), .ref (al), .ref (ah), .ref (az), .ref (r0), .ref (s0), .ref (ac), .ref (h9)])), (al, aI g 48 lo), (ah, aI g 48 hi), (az, aZ g 12 th), (r0, .inr (2, [.int (nI bi), .int (nI bo), .ref (rn), .ref (rp)])), (rn, aI g 48 (rtO lo hi bi (bi + bo) 0 12 nu)), (rp, aZ g 12 th), (ac, aC g 3 cf), (c0, .inr (0, [.int (ki0), .int (kt0), .int (kf0), .int (km0), .int (nI 0), .ref (x0), .ref (y0), .ref (z0)])), (c1, .inr (0, [.int (ki1), .int (kt1), .int (kf1), .int (km1), .int (fr1), .ref (x1), .ref (y1), .ref (z1)])), (c2, .inr (0, [.int (ki2), .int (kt2), .int (kf2), .int (km2), .int (fr2), .ref (x2), .ref (y2), .ref (z2)]))] := hD
          refine lv_iinc (v := nI 1) (lv' := [(1, .int (nI 1)), (0, .ref (e0))]) hx hb dX3_retell_127 hl (k := 0) rfl (nI_inc1 0) (by decide) rfl (fun ls hl => ?_)
          refine lv_goto (tgt := 112) hx hb dX3_retell_130 (by decide) ?_
          refine lv_iload_n hx hb dX3_retell_112 rfl (lv_at hl 0 rfl) ?_
          refine lv_iconst (v := nI 3) hx hb dX3_retell_113 (by decide) ?_
          refine lv_icmp_ge (tgt := 133) hx hb dX3_retell_114 (by decide) (fun c_3 => ?_) (fun c_3 => ?_)
          · skip
            have c_3 := (nI_leI (by omega) (by omega)).mp c_3
            omega
          · skip
            have c_3 := mt (nI_leI (by omega) (by omega)).mpr c_3
            refine lv_aload_n hx hb dX3_retell_117 rfl (lv_at hl 1 rfl) ?_
            refine k_get hx hb hts hown hK hP iw_X3_retell_X3 rfl 0 8 fm_X3_retell_32 (by decide) rfl rfl dX3_retell_118 ?_
            refine lv_iload_n hx hb dX3_retell_121 rfl (lv_at hl 0 rfl) ?_
            refine k_cald hx hb hK hP 7 rfl (by omega) (by omega) (hc1) dX3_retell_122 ?_
            refine lv_iconst (v := nI 0) hx hb dX3_retell_123 (by decide) ?_
            refine k_putN hx hb hts hown hK hN hP hD hS iw_X3_retell_X0 rfl tyX0 tyX0_ok nmX0 9 4 (List.mem_of_getElem? (i := 8) rfl) (by decide) rfl rfl rfl rfl rfl (Nat.le_of_ble_eq_true rfl) dX3_retell_124 (fun H locs hP hD hS => ?_)
            have hP : va_P g.1 vwCl [(e0, .inr (3, [.int (nI bi), .int (nI bo), .int (nI bw), .ref (al), .ref (ah), .ref (az), .ref (r0), .ref (s0), .ref (ac), .ref (h9)])), (al, aI g 48 lo), (ah, aI g 48 hi), (az, aZ g 12 th), (r0, .inr (2, [.int (nI bi), .int (nI bo), .ref (rn), .ref (rp)])), (rn, aI g 48 (rtO lo hi bi (bi + bo) 0 12 nu)), (rp, aZ g 12 th), (ac, aC g 3 cf), (c0, .inr (0, [.int (ki0), .int (kt0), .int (kf0), .int (km0), .int (nI 0), .ref (x0), .ref (y0), .ref (z0)])), (c1, .inr (0, [.int (ki1), .int (kt1), .int (kf1), .int (km1), .int (nI 0), .ref (x1), .ref (y1), .ref (z1)])), (c2, .inr (0, [.int (ki2), .int (kt2), .int (kf2), .int (km2), .int (fr2), .ref (x2), .ref (y2), .ref (z2)]))] H := hP
            have hD : va_D A [(e0, .inr (3, [.int (nI bi), .int (nI bo), .int (nI bw), .ref (al), .ref (ah), .ref (az), .ref (r0), .ref (s0), .ref (ac), .ref (h9)])), (al, aI g 48 lo), (ah, aI g 48 hi), (az, aZ g 12 th), (r0, .inr (2, [.int (nI bi), .int (nI bo), .ref (rn), .ref (rp)])), (rn, aI g 48 (rtO lo hi bi (bi + bo) 0 12 nu)), (rp, aZ g 12 th), (ac, aC g 3 cf), (c0, .inr (0, [.int (ki0), .int (kt0), .int (kf0), .int (km0), .int (nI 0), .ref (x0), .ref (y0), .ref (z0)])), (c1, .inr (0, [.int (ki1), .int (kt1), .int (kf1), .int (km1), .int (nI 0), .ref (x1), .ref (y1), .ref (z1)])), (c2, .inr (0, [.int (ki2), .int (kt2), .int (kf2), .int (km2), .int (fr2), .ref (x2), .ref (y2), .ref (z2)]))] := hD
            refine lv_iinc (v := nI 2) (lv' := [(1, .int (nI 2)), (0, .ref (e0))]) hx hb dX3_retell_127 hl (k := 0) rfl (nI_inc1 1) (by decide) rfl (fun ls hl => ?_)
            refine lv_goto (tgt := 112) hx hb dX3_retell_130 (by decide) ?_
            refine lv_iload_n hx hb dX3_retell_112 rfl (lv_at hl 0 rfl) ?_
            refine lv_iconst (v := nI 3) hx hb dX3_retell_113 (by decide) ?_
            refine lv_icmp_ge (tgt := 133) hx hb dX3_retell_114 (by decide) (fun c_4 => ?_) (fun c_4 => ?_)
            · skip
              have c_4 := (nI_leI (by omega) (by omega)).mp c_4
              omega
            · skip
              have c_4 := mt (nI_leI (by omega) (by omega)).mpr c_4
              refine lv_aload_n hx hb dX3_retell_117 rfl (lv_at hl 1 rfl) ?_
              refine k_get hx hb hts hown hK hP iw_X3_retell_X3 rfl 0 8 fm_X3_retell_32 (by decide) rfl rfl dX3_retell_118 ?_
              refine lv_iload_n hx hb dX3_retell_121 rfl (lv_at hl 0 rfl) ?_
              refine k_cald hx hb hK hP 7 rfl (by omega) (by omega) (hc2) dX3_retell_122 ?_
              refine lv_iconst (v := nI 0) hx hb dX3_retell_123 (by decide) ?_
              refine k_putN hx hb hts hown hK hN hP hD hS iw_X3_retell_X0 rfl tyX0 tyX0_ok nmX0 10 4 (List.mem_of_getElem? (i := 8) rfl) (by decide) rfl rfl rfl rfl rfl (Nat.le_of_ble_eq_true rfl) dX3_retell_124 (fun H locs hP hD hS => ?_)
              have hP : va_P g.1 vwCl [(e0, .inr (3, [.int (nI bi), .int (nI bo), .int (nI bw), .ref (al), .ref (ah), .ref (az), .ref (r0), .ref (s0), .ref (ac), .ref (h9)])), (al, aI g 48 lo), (ah, aI g 48 hi), (az, aZ g 12 th), (r0, .inr (2, [.int (nI bi), .int (nI bo), .ref (rn), .ref (rp)])), (rn, aI g 48 (rtO lo hi bi (bi + bo) 0 12 nu)), (rp, aZ g 12 th), (ac, aC g 3 cf), (c0, .inr (0, [.int (ki0), .int (kt0), .int (kf0), .int (km0), .int (nI 0), .ref (x0), .ref (y0), .ref (z0)])), (c1, .inr (0, [.int (ki1), .int (kt1), .int (kf1), .int (km1), .int (nI 0), .ref (x1), .ref (y1), .ref (z1)])), (c2, .inr (0, [.int (ki2), .int (kt2), .int (kf2), .int (km2), .int (nI 0), .ref (x2), .ref (y2), .ref (z2)]))] H := hP
              have hD : va_D A [(e0, .inr (3, [.int (nI bi), .int (nI bo), .int (nI bw), .ref (al), .ref (ah), .ref (az), .ref (r0), .ref (s0), .ref (ac), .ref (h9)])), (al, aI g 48 lo), (ah, aI g 48 hi), (az, aZ g 12 th), (r0, .inr (2, [.int (nI bi), .int (nI bo), .ref (rn), .ref (rp)])), (rn, aI g 48 (rtO lo hi bi (bi + bo) 0 12 nu)), (rp, aZ g 12 th), (ac, aC g 3 cf), (c0, .inr (0, [.int (ki0), .int (kt0), .int (kf0), .int (km0), .int (nI 0), .ref (x0), .ref (y0), .ref (z0)])), (c1, .inr (0, [.int (ki1), .int (kt1), .int (kf1), .int (km1), .int (nI 0), .ref (x1), .ref (y1), .ref (z1)])), (c2, .inr (0, [.int (ki2), .int (kt2), .int (kf2), .int (km2), .int (nI 0), .ref (x2), .ref (y2), .ref (z2)]))] := hD
              refine lv_iinc (v := nI 3) (lv' := [(1, .int (nI 3)), (0, .ref (e0))]) hx hb dX3_retell_127 hl (k := 0) rfl (nI_inc1 2) (by decide) rfl (fun ls hl => ?_)
              refine lv_goto (tgt := 112) hx hb dX3_retell_130 (by decide) ?_
              refine lv_iload_n hx hb dX3_retell_112 rfl (lv_at hl 0 rfl) ?_
              refine lv_iconst (v := nI 3) hx hb dX3_retell_113 (by decide) ?_
              refine lv_icmp_ge (tgt := 133) hx hb dX3_retell_114 (by decide) (fun c_5 => ?_) (fun c_5 => ?_)
              · skip
                have c_5 := (nI_leI (by omega) (by omega)).mp c_5
                exact ret dX3_retell_133 () (trivial) hP hD hS
              · skip
                have c_5 := mt (nI_leI (by omega) (by omega)).mpr c_5
                omega
      · skip
        have c_1 := mt (nI_leI (by omega) (by omega)).mpr c_1
        refine lv_aload_n hx hb dX3_retell_30 rfl (lv_at hl 0 rfl) ?_
        refine k_get hx hb hts hown hK hP iw_X3_retell_X3 rfl 0 6 fm_X3_retell_23 (by decide) rfl rfl dX3_retell_31 ?_
        refine k_getN hx hb hts hown hK hN hP iw_X3_retell_X2 rfl 4 3 (List.mem_of_getElem? (i := 6) rfl) (by decide) rfl rfl dX3_retell_34 ?_
        refine lv_iload_n hx hb dX3_retell_37 rfl (lv_at hl 1 rfl) ?_
        refine lv_aload_n hx hb dX3_retell_38 rfl (lv_at hl 0 rfl) ?_
        refine k_get hx hb hts hown hK hP iw_X3_retell_X3 rfl 0 5 fm_X3_retell_16 (by decide) rfl rfl dX3_retell_39 ?_
        refine lv_iload_n hx hb dX3_retell_42 rfl (lv_at hl 1 rfl) ?_
        refine k_zald hx hb hK hP 3 rfl (by omega) (by omega) dX3_retell_43 ?_
        refine k_zast hx hb hK hP hD hS 6 rfl (by omega) (by omega) (h01 w) dX3_retell_44 (fun H locs hP hD hS => ?_)
        have hP : va_P g.1 vwCl [(e0, .inr (3, [.int (nI bi), .int (nI bo), .int (nI bw), .ref (al), .ref (ah), .ref (az), .ref (r0), .ref (s0), .ref (ac), .ref (h9)])), (al, aI g 48 lo), (ah, aI g 48 hi), (az, aZ g 12 th), (r0, .inr (2, [.int (nI bi), .int (nI bo), .ref (rn), .ref (rp)])), (rn, aI g 48 f), (rp, aZ g 12 (upd (pI pt 0 th w) w (th w))), (ac, aC g 3 cf), (c0, .inr (0, [.int (ki0), .int (kt0), .int (kf0), .int (km0), .int (fr0), .ref (x0), .ref (y0), .ref (z0)])), (c1, .inr (0, [.int (ki1), .int (kt1), .int (kf1), .int (km1), .int (fr1), .ref (x1), .ref (y1), .ref (z1)])), (c2, .inr (0, [.int (ki2), .int (kt2), .int (kf2), .int (km2), .int (fr2), .ref (x2), .ref (y2), .ref (z2)]))] H := hP
        have hD : va_D A [(e0, .inr (3, [.int (nI bi), .int (nI bo), .int (nI bw), .ref (al), .ref (ah), .ref (az), .ref (r0), .ref (s0), .ref (ac), .ref (h9)])), (al, aI g 48 lo), (ah, aI g 48 hi), (az, aZ g 12 th), (r0, .inr (2, [.int (nI bi), .int (nI bo), .ref (rn), .ref (rp)])), (rn, aI g 48 f), (rp, aZ g 12 (upd (pI pt 0 th w) w (th w))), (ac, aC g 3 cf), (c0, .inr (0, [.int (ki0), .int (kt0), .int (kf0), .int (km0), .int (fr0), .ref (x0), .ref (y0), .ref (z0)])), (c1, .inr (0, [.int (ki1), .int (kt1), .int (kf1), .int (km1), .int (fr1), .ref (x1), .ref (y1), .ref (z1)])), (c2, .inr (0, [.int (ki2), .int (kt2), .int (kf2), .int (km2), .int (fr2), .ref (x2), .ref (y2), .ref (z2)]))] := hD
        have e_6 : upd (pI pt 0 th w) w (th w) = pI pt 0 th (w + 1) := by rw [← pI_succ pt 0 th w (x := th w) rfl, Nat.zero_add]
        rw [e_6] at hP hD
        refine lv_iconst (v := nI 0) hx hb dX3_retell_45 (by decide) ?_
        refine lv_istore_n (lv' := [(2, .int (nI 0)), (0, .ref (e0)), (1, .int (nI w))]) hx hb dX3_retell_46 rfl hl (by decide) rfl (fun ls hl => ?_)
        have lp_47 : ∀ (n : Nat) (k : Nat) (h : Nat → Int32), bi + bo - k < n → k ≤ 4 → rtI lo hi bi w 0 (bi + bo) f = rtI lo hi bi w k (bi + bo - k) h → ∀ (H : Heap) (locs : List Loc), va_P g.1 vwCl [(e0, .inr (3, [.int (nI bi), .int (nI bo), .int (nI bw), .ref (al), .ref (ah), .ref (az), .ref (r0), .ref (s0), .ref (ac), .ref (h9)])), (al, aI g 48 lo), (ah, aI g 48 hi), (az, aZ g 12 th), (r0, .inr (2, [.int (nI bi), .int (nI bo), .ref (rn), .ref (rp)])), (rn, aI g 48 h), (rp, aZ g 12 (pI pt 0 th (w + 1))), (ac, aC g 3 cf), (c0, .inr (0, [.int (ki0), .int (kt0), .int (kf0), .int (km0), .int (fr0), .ref (x0), .ref (y0), .ref (z0)])), (c1, .inr (0, [.int (ki1), .int (kt1), .int (kf1), .int (km1), .int (fr1), .ref (x1), .ref (y1), .ref (z1)])), (c2, .inr (0, [.int (ki2), .int (kt2), .int (kf2), .int (km2), .int (fr2), .ref (x2), .ref (y2), .ref (z2)]))] H → va_D A [(e0, .inr (3, [.int (nI bi), .int (nI bo), .int (nI bw), .ref (al), .ref (ah), .ref (az), .ref (r0), .ref (s0), .ref (ac), .ref (h9)])), (al, aI g 48 lo), (ah, aI g 48 hi), (az, aZ g 12 th), (r0, .inr (2, [.int (nI bi), .int (nI bo), .ref (rn), .ref (rp)])), (rn, aI g 48 h), (rp, aZ g 12 (pI pt 0 th (w + 1))), (ac, aC g 3 cf), (c0, .inr (0, [.int (ki0), .int (kt0), .int (kf0), .int (km0), .int (fr0), .ref (x0), .ref (y0), .ref (z0)])), (c1, .inr (0, [.int (ki1), .int (kt1), .int (kf1), .int (km1), .int (fr1), .ref (x1), .ref (y1), .ref (z1)])), (c2, .inr (0, [.int (ki2), .int (kt2), .int (kf2), .int (km2), .int (fr2), .ref (x2), .ref (y2), .ref (z2)]))] → va_S A s.heap H locs → ∀ ls : Array Slot, lv_has ls 4 [(0, .ref (e0)), (1, .int (nI w)), (2, .int (nI k))] → W p l e { frames := 0, cells := 0, slots := 0, locals := 0 } s m args below meth c H locs 0 0 Q (F0 m 47 ls []) := by
          intro n
          induction n with
          | zero =>
            intro k h hms
            omega
          | succ n ih_47 =>
            intro k h hms_47 hk hI H locs hP hD hS ls hl
            refine lv_iload_n hx hb dX3_retell_47 rfl (lv_at hl 2 rfl) ?_
            refine lv_aload_n hx hb dX3_retell_48 rfl (lv_at hl 0 rfl) ?_
            refine k_get hx hb hts hown hK hP iw_X3_retell_X3 rfl 0 0 fm_X3_retell_49 (by decide) rfl rfl dX3_retell_49 ?_
            refine lv_aload_n hx hb dX3_retell_52 rfl (lv_at hl 0 rfl) ?_
            refine k_get hx hb hts hown hK hP iw_X3_retell_X3 rfl 0 1 fm_X3_retell_52 (by decide) rfl rfl dX3_retell_53 ?_
            refine lv_iadd hx hb dX3_retell_56 ?_
            refine k_ei (y := nI (bi + bo)) (nI_add _ _) ?_
            refine lv_icmp_ge (tgt := 104) hx hb dX3_retell_57 (by decide) (fun c_7 => ?_) (fun c_7 => ?_)
            · skip
              have c_7 := (nI_leI (by omega) (by omega)).mp c_7
              have hv2 : rtO lo hi bi (bi + bo) 0 12 nu = rtO lo hi bi (bi + bo) (w + 1) (12 - (w + 1)) h := by rw [hv, show 12 - w = (12 - (w + 1)) + 1 by omega, rtO, hI, show bi + bo - k = 0 by omega]; rfl
              refine lv_iinc (v := nI (w + 1)) (lv' := [(1, .int (nI (w + 1))), (0, .ref (e0)), (2, .int (nI k))]) hx hb dX3_retell_104 hl (k := 1) rfl (nI_inc1 w) (by decide) rfl (fun ls hl => ?_)
              refine lv_goto (tgt := 24) hx hb dX3_retell_107 (by decide) ?_
              exact ih_24 (w + 1) h (by omega) (by omega) hv2 _ _ hP hD hS ls (lv_sub hl [1, 0] rfl)
            · skip
              have c_7 := mt (nI_leI (by omega) (by omega)).mpr c_7
              refine lv_iload_n hx hb dX3_retell_60 rfl (lv_at hl 1 rfl) ?_
              refine lv_iconst (v := nI 4) hx hb dX3_retell_61 (by decide) ?_
              refine lv_imul hx hb dX3_retell_62 ?_
              refine k_ei (y := nI (w * 4)) (pk_mul _ _) ?_
              refine lv_iload_n hx hb dX3_retell_63 rfl (lv_at hl 2 rfl) ?_
              refine lv_iadd hx hb dX3_retell_64 ?_
              refine k_ei (y := nI (w * 4 + k)) (nI_add _ _) ?_
              refine lv_istore_n (lv' := [(3, .int (nI (w * 4 + k))), (0, .ref (e0)), (1, .int (nI w)), (2, .int (nI k))]) hx hb dX3_retell_65 rfl hl (by decide) rfl (fun ls hl => ?_)
              refine lv_aload_n hx hb dX3_retell_66 rfl (lv_at hl 1 rfl) ?_
              refine k_get hx hb hts hown hK hP iw_X3_retell_X3 rfl 0 6 fm_X3_retell_23 (by decide) rfl rfl dX3_retell_67 ?_
              refine k_getN hx hb hts hown hK hN hP iw_X3_retell_X2 rfl 4 2 (List.mem_of_getElem? (i := 4) rfl) (by decide) rfl rfl dX3_retell_70 ?_
              refine lv_iload_n hx hb dX3_retell_73 rfl (lv_at hl 0 rfl) ?_
              refine lv_iload_n hx hb dX3_retell_74 rfl (lv_at hl 3 rfl) ?_
              refine lv_aload_n hx hb dX3_retell_75 rfl (lv_at hl 1 rfl) ?_
              refine k_get hx hb hts hown hK hP iw_X3_retell_X3 rfl 0 0 fm_X3_retell_49 (by decide) rfl rfl dX3_retell_76 ?_
              refine lv_icmp_ge (tgt := 91) hx hb dX3_retell_79 (by decide) (fun c_8 => ?_) (fun c_8 => ?_)
              · skip
                have c_8 := (nI_leI (by omega) (by omega)).mp c_8
                refine lv_aload_n hx hb dX3_retell_91 rfl (lv_at hl 1 rfl) ?_
                refine k_get hx hb hts hown hK hP iw_X3_retell_X3 rfl 0 4 fm_X3_retell_13 (by decide) rfl rfl dX3_retell_92 ?_
                refine lv_iload_n hx hb dX3_retell_95 rfl (lv_at hl 0 rfl) ?_
                refine k_iald hx hb hK hP 2 rfl (by omega) (by omega) dX3_retell_96 ?_
                refine k_ei (y := if k < bi then lo (w * 4 + k) else hi (w * 4 + k)) ((if_neg (show ¬ k < bi by omega)).symm) ?_
                refine k_iast hx hb hK hP hD hS 5 rfl (by omega) (by omega) dX3_retell_97 (fun H locs hP hD hS => ?_)
                have hP : va_P g.1 vwCl [(e0, .inr (3, [.int (nI bi), .int (nI bo), .int (nI bw), .ref (al), .ref (ah), .ref (az), .ref (r0), .ref (s0), .ref (ac), .ref (h9)])), (al, aI g 48 lo), (ah, aI g 48 hi), (az, aZ g 12 th), (r0, .inr (2, [.int (nI bi), .int (nI bo), .ref (rn), .ref (rp)])), (rn, aI g 48 (upd h (w * 4 + k) (if k < bi then lo (w * 4 + k) else hi (w * 4 + k)))), (rp, aZ g 12 (pI pt 0 th (w + 1))), (ac, aC g 3 cf), (c0, .inr (0, [.int (ki0), .int (kt0), .int (kf0), .int (km0), .int (fr0), .ref (x0), .ref (y0), .ref (z0)])), (c1, .inr (0, [.int (ki1), .int (kt1), .int (kf1), .int (km1), .int (fr1), .ref (x1), .ref (y1), .ref (z1)])), (c2, .inr (0, [.int (ki2), .int (kt2), .int (kf2), .int (km2), .int (fr2), .ref (x2), .ref (y2), .ref (z2)]))] H := hP
                have hD : va_D A [(e0, .inr (3, [.int (nI bi), .int (nI bo), .int (nI bw), .ref (al), .ref (ah), .ref (az), .ref (r0), .ref (s0), .ref (ac), .ref (h9)])), (al, aI g 48 lo), (ah, aI g 48 hi), (az, aZ g 12 th), (r0, .inr (2, [.int (nI bi), .int (nI bo), .ref (rn), .ref (rp)])), (rn, aI g 48 (upd h (w * 4 + k) (if k < bi then lo (w * 4 + k) else hi (w * 4 + k)))), (rp, aZ g 12 (pI pt 0 th (w + 1))), (ac, aC g 3 cf), (c0, .inr (0, [.int (ki0), .int (kt0), .int (kf0), .int (km0), .int (fr0), .ref (x0), .ref (y0), .ref (z0)])), (c1, .inr (0, [.int (ki1), .int (kt1), .int (kf1), .int (km1), .int (fr1), .ref (x1), .ref (y1), .ref (z1)])), (c2, .inr (0, [.int (ki2), .int (kt2), .int (kf2), .int (km2), .int (fr2), .ref (x2), .ref (y2), .ref (z2)]))] := hD
                refine lv_iinc (v := nI (k + 1)) (lv' := [(2, .int (nI (k + 1))), (3, .int (nI (w * 4 + k))), (0, .ref (e0)), (1, .int (nI w))]) hx hb dX3_retell_98 hl (k := 3) rfl (nI_inc1 k) (by decide) rfl (fun ls hl => ?_)
                refine lv_goto (tgt := 47) hx hb dX3_retell_101 (by decide) ?_
                exact ih_47 (k + 1) (upd h (w * 4 + k) (if k < bi then lo (w * 4 + k) else hi (w * 4 + k))) (by omega) (by omega) (by rw [hI, show bi + bo - k = (bi + bo - (k + 1)) + 1 by omega, rtI]) _ _ hP hD hS ls (lv_sub hl [2, 3, 0] rfl)
              · skip
                have c_8 := mt (nI_leI (by omega) (by omega)).mpr c_8
                refine lv_aload_n hx hb dX3_retell_82 rfl (lv_at hl 1 rfl) ?_
                refine k_get hx hb hts hown hK hP iw_X3_retell_X3 rfl 0 3 fm_X3_retell_9 (by decide) rfl rfl dX3_retell_83 ?_
                refine lv_iload_n hx hb dX3_retell_86 rfl (lv_at hl 0 rfl) ?_
                refine k_iald hx hb hK hP 1 rfl (by omega) (by omega) dX3_retell_87 ?_
                refine k_ei (y := if k < bi then lo (w * 4 + k) else hi (w * 4 + k)) ((if_pos (show k < bi by omega)).symm) ?_
                refine lv_goto (tgt := 97) hx hb dX3_retell_88 (by decide) ?_
                refine k_iast hx hb hK hP hD hS 5 rfl (by omega) (by omega) dX3_retell_97 (fun H locs hP hD hS => ?_)
                have hP : va_P g.1 vwCl [(e0, .inr (3, [.int (nI bi), .int (nI bo), .int (nI bw), .ref (al), .ref (ah), .ref (az), .ref (r0), .ref (s0), .ref (ac), .ref (h9)])), (al, aI g 48 lo), (ah, aI g 48 hi), (az, aZ g 12 th), (r0, .inr (2, [.int (nI bi), .int (nI bo), .ref (rn), .ref (rp)])), (rn, aI g 48 (upd h (w * 4 + k) (if k < bi then lo (w * 4 + k) else hi (w * 4 + k)))), (rp, aZ g 12 (pI pt 0 th (w + 1))), (ac, aC g 3 cf), (c0, .inr (0, [.int (ki0), .int (kt0), .int (kf0), .int (km0), .int (fr0), .ref (x0), .ref (y0), .ref (z0)])), (c1, .inr (0, [.int (ki1), .int (kt1), .int (kf1), .int (km1), .int (fr1), .ref (x1), .ref (y1), .ref (z1)])), (c2, .inr (0, [.int (ki2), .int (kt2), .int (kf2), .int (km2), .int (fr2), .ref (x2), .ref (y2), .ref (z2)]))] H := hP
                have hD : va_D A [(e0, .inr (3, [.int (nI bi), .int (nI bo), .int (nI bw), .ref (al), .ref (ah), .ref (az), .ref (r0), .ref (s0), .ref (ac), .ref (h9)])), (al, aI g 48 lo), (ah, aI g 48 hi), (az, aZ g 12 th), (r0, .inr (2, [.int (nI bi), .int (nI bo), .ref (rn), .ref (rp)])), (rn, aI g 48 (upd h (w * 4 + k) (if k < bi then lo (w * 4 + k) else hi (w * 4 + k)))), (rp, aZ g 12 (pI pt 0 th (w + 1))), (ac, aC g 3 cf), (c0, .inr (0, [.int (ki0), .int (kt0), .int (kf0), .int (km0), .int (fr0), .ref (x0), .ref (y0), .ref (z0)])), (c1, .inr (0, [.int (ki1), .int (kt1), .int (kf1), .int (km1), .int (fr1), .ref (x1), .ref (y1), .ref (z1)])), (c2, .inr (0, [.int (ki2), .int (kt2), .int (kf2), .int (km2), .int (fr2), .ref (x2), .ref (y2), .ref (z2)]))] := hD
                refine lv_iinc (v := nI (k + 1)) (lv' := [(2, .int (nI (k + 1))), (3, .int (nI (w * 4 + k))), (0, .ref (e0)), (1, .int (nI w))]) hx hb dX3_retell_98 hl (k := 3) rfl (nI_inc1 k) (by decide) rfl (fun ls hl => ?_)
                refine lv_goto (tgt := 47) hx hb dX3_retell_101 (by decide) ?_
                exact ih_47 (k + 1) (upd h (w * 4 + k) (if k < bi then lo (w * 4 + k) else hi (w * 4 + k))) (by omega) (by omega) (by rw [hI, show bi + bo - k = (bi + bo - (k + 1)) + 1 by omega, rtI]) _ _ hP hD hS ls (lv_sub hl [2, 3, 0] rfl)
        exact lp_47 (bi + bo - 0 + 1) 0 f (by omega) (by omega) rfl _ _ hP hD hS ls (lv_sub hl [1, 2, 0] rfl)
  exact lp_24 (12 - 0 + 1) 0 nu (by omega) (by omega) rfl _ _ (by rw [pI_0]; exact hP) (by rw [pI_0]; exact hD) hS ls (lv_sub hl [1, 0] rfl)
theorem iw_X3_clear_X3 : ∀ w ∈ wsX30, w ∈ wsX3_clear := by decide +kernel
theorem fm_X3_clear_49 : Cond.fieldLink RX3 49 "EdgeBench" "ins" "I" ∈ wsX3_clear := by decide +kernel
theorem fm_X3_clear_52 : Cond.fieldLink RX3 52 "EdgeBench" "outs" "I" ∈ wsX3_clear := by decide +kernel
theorem fm_X3_clear_45 : Cond.fieldLink RX3 45 "EdgeBench" "works" "I" ∈ wsX3_clear := by decide +kernel
theorem fm_X3_clear_16 : Cond.fieldLink RX3 16 "EdgeBench" "there" "[Z" ∈ wsX3_clear := by decide +kernel
set_option maxHeartbeats 4000000 in
set_option maxRecDepth 100000 in
theorem c_X3_clear (l : Launch) (g : Gt) (e0 : Nat) (bi : Nat) (bo : Nat) (bw : Nat) (al : Nat) (ah : Nat) (az : Nat) (r0 : Nat) (s0 : Nat) (ac : Nat) (h9 : Nat) (lo : Nat → Int32) (hi : Nat → Int32) (th : Nat → Int32) (rn : Nat) (rp : Nat) (ri : Nat) (ro : Nat) (nu : Nat → Int32) (pt : Nat → Int32) (cf : Nat → Option Nat) (c0 : Nat) (ki0 : Int32) (kt0 : Int32) (kf0 : Int32) (km0 : Int32) (fr0 : Int32) (x0 : Nat) (y0 : Nat) (z0 : Nat) (c1 : Nat) (ki1 : Int32) (kt1 : Int32) (kf1 : Int32) (km1 : Int32) (fr1 : Int32) (x1 : Nat) (y1 : Nat) (z1 : Nat) (c2 : Nat) (ki2 : Int32) (kt2 : Int32) (kf2 : Int32) (km2 : Int32) (fr2 : Int32) (x2 : Nat) (y2 : Nat) (z2 : Nat) (a1 : Nat) (a2 : Nat) (h1 : a1 ≤ 2) (h2 : a2 ≤ 2) (hc0 : cf 0 = some c0) (hc1 : cf 1 = some c1) (hc2 : cf 2 = some c2) : CV l yX3_clear wsX3_clear { frames := 1, cells := 0, slots := 0, locals := 23 } g [.ref (e0), .int (nI a1), .int (nI a2)] [(e0, .inr (3, [.int (nI bi), .int (nI bo), .int (nI bw), .ref (al), .ref (ah), .ref (az), .ref (r0), .ref (s0), .ref (ac), .ref (h9)])), (al, aI g 48 lo), (ah, aI g 48 hi), (az, aZ g 12 th), (r0, .inr (2, [.int (nI ri), .int (nI ro), .ref (rn), .ref (rp)])), (rn, aI g 48 nu), (rp, aZ g 12 pt), (ac, aC g 3 cf), (c0, .inr (0, [.int (ki0), .int (kt0), .int (kf0), .int (km0), .int (fr0), .ref (x0), .ref (y0), .ref (z0)])), (c1, .inr (0, [.int (ki1), .int (kt1), .int (kf1), .int (km1), .int (fr1), .ref (x1), .ref (y1), .ref (z1)])), (c2, .inr (0, [.int (ki2), .int (kt2), .int (kf2), .int (km2), .int (fr2), .ref (x2), .ref (y2), .ref (z2)]))] (fun (zu : Unit) => True) (fun (zu : Unit) => [(e0, .inr (3, [.int (nI a1), .int (nI a2), .int (nI 0), .ref (al), .ref (ah), .ref (az), .ref (r0), .ref (s0), .ref (ac), .ref (h9)])), (al, aI g 48 lo), (ah, aI g 48 hi), (az, aZ g 12 (fun _ => 0)), (r0, .inr (2, [.int (nI a1), .int (nI a2), .ref (rn), .ref (rp)])), (rn, aI g 48 (rtO lo hi a1 (a1 + a2) 0 12 nu)), (rp, aZ g 12 (fun _ => 0)), (ac, aC g 3 cf), (c0, .inr (0, [.int (ki0), .int (kt0), .int (kf0), .int (km0), .int (0), .ref (x0), .ref (y0), .ref (z0)])), (c1, .inr (0, [.int (ki1), .int (kt1), .int (kf1), .int (km1), .int (0), .ref (x1), .ref (y1), .ref (z1)])), (c2, .inr (0, [.int (ki2), .int (kt2), .int (kf2), .int (km2), .int (0), .ref (x2), .ref (y2), .ref (z2)]))]) 0 0 := by
  refine ent_v (cc := cX3_clear) (maxL := 4) (by decide) rfl (Nat.le_of_ble_eq_true rfl) ?_
  intro p e s m below meth c A args Q hE ret ls hl
  obtain ⟨hx, hb, hml, hown, hts, hnm, hA, hP, hD, hK, hN⟩ := hE
  have hS : va_S A s.heap s.heap [] := va_S.rf
  have hl : lv_has ls 4 [(0, .ref (e0)), (1, .int (nI a1)), (2, .int (nI a2))] := hl
  have hP : va_P g.1 vwCl [(e0, .inr (3, [.int (nI bi), .int (nI bo), .int (nI bw), .ref (al), .ref (ah), .ref (az), .ref (r0), .ref (s0), .ref (ac), .ref (h9)])), (al, aI g 48 lo), (ah, aI g 48 hi), (az, aZ g 12 th), (r0, .inr (2, [.int (nI ri), .int (nI ro), .ref (rn), .ref (rp)])), (rn, aI g 48 nu), (rp, aZ g 12 pt), (ac, aC g 3 cf), (c0, .inr (0, [.int (ki0), .int (kt0), .int (kf0), .int (km0), .int (fr0), .ref (x0), .ref (y0), .ref (z0)])), (c1, .inr (0, [.int (ki1), .int (kt1), .int (kf1), .int (km1), .int (fr1), .ref (x1), .ref (y1), .ref (z1)])), (c2, .inr (0, [.int (ki2), .int (kt2), .int (kf2), .int (km2), .int (fr2), .ref (x2), .ref (y2), .ref (z2)]))] s.heap := hP
  refine lv_aload_n hx hb dX3_clear_0 rfl (lv_at hl 0 rfl) ?_
  refine lv_iload_n hx hb dX3_clear_1 rfl (lv_at hl 1 rfl) ?_
  refine k_put hx hb hts hown hK hP hD hS iw_X3_clear_X3 rfl tyX3 tyX3_ok nmX3 0 0 fm_X3_clear_49 (by decide) rfl rfl rfl rfl rfl (Nat.le_of_ble_eq_true rfl) dX3_clear_2 (fun H locs hP hD hS => ?_)
  have hP : va_P g.1 vwCl [(e0, .inr (3, [.int (nI a1), .int (nI bo), .int (nI bw), .ref (al), .ref (ah), .ref (az), .ref (r0), .ref (s0), .ref (ac), .ref (h9)])), (al, aI g 48 lo), (ah, aI g 48 hi), (az, aZ g 12 th), (r0, .inr (2, [.int (nI ri), .int (nI ro), .ref (rn), .ref (rp)])), (rn, aI g 48 nu), (rp, aZ g 12 pt), (ac, aC g 3 cf), (c0, .inr (0, [.int (ki0), .int (kt0), .int (kf0), .int (km0), .int (fr0), .ref (x0), .ref (y0), .ref (z0)])), (c1, .inr (0, [.int (ki1), .int (kt1), .int (kf1), .int (km1), .int (fr1), .ref (x1), .ref (y1), .ref (z1)])), (c2, .inr (0, [.int (ki2), .int (kt2), .int (kf2), .int (km2), .int (fr2), .ref (x2), .ref (y2), .ref (z2)]))] H := hP
  have hD : va_D A [(e0, .inr (3, [.int (nI a1), .int (nI bo), .int (nI bw), .ref (al), .ref (ah), .ref (az), .ref (r0), .ref (s0), .ref (ac), .ref (h9)])), (al, aI g 48 lo), (ah, aI g 48 hi), (az, aZ g 12 th), (r0, .inr (2, [.int (nI ri), .int (nI ro), .ref (rn), .ref (rp)])), (rn, aI g 48 nu), (rp, aZ g 12 pt), (ac, aC g 3 cf), (c0, .inr (0, [.int (ki0), .int (kt0), .int (kf0), .int (km0), .int (fr0), .ref (x0), .ref (y0), .ref (z0)])), (c1, .inr (0, [.int (ki1), .int (kt1), .int (kf1), .int (km1), .int (fr1), .ref (x1), .ref (y1), .ref (z1)])), (c2, .inr (0, [.int (ki2), .int (kt2), .int (kf2), .int (km2), .int (fr2), .ref (x2), .ref (y2), .ref (z2)]))] := hD
  refine lv_aload_n hx hb dX3_clear_5 rfl (lv_at hl 0 rfl) ?_
  refine lv_iload_n hx hb dX3_clear_6 rfl (lv_at hl 2 rfl) ?_
  refine k_put hx hb hts hown hK hP hD hS iw_X3_clear_X3 rfl tyX3 tyX3_ok nmX3 0 1 fm_X3_clear_52 (by decide) rfl rfl rfl rfl rfl (Nat.le_of_ble_eq_true rfl) dX3_clear_7 (fun H locs hP hD hS => ?_)
  have hP : va_P g.1 vwCl [(e0, .inr (3, [.int (nI a1), .int (nI a2), .int (nI bw), .ref (al), .ref (ah), .ref (az), .ref (r0), .ref (s0), .ref (ac), .ref (h9)])), (al, aI g 48 lo), (ah, aI g 48 hi), (az, aZ g 12 th), (r0, .inr (2, [.int (nI ri), .int (nI ro), .ref (rn), .ref (rp)])), (rn, aI g 48 nu), (rp, aZ g 12 pt), (ac, aC g 3 cf), (c0, .inr (0, [.int (ki0), .int (kt0), .int (kf0), .int (km0), .int (fr0), .ref (x0), .ref (y0), .ref (z0)])), (c1, .inr (0, [.int (ki1), .int (kt1), .int (kf1), .int (km1), .int (fr1), .ref (x1), .ref (y1), .ref (z1)])), (c2, .inr (0, [.int (ki2), .int (kt2), .int (kf2), .int (km2), .int (fr2), .ref (x2), .ref (y2), .ref (z2)]))] H := hP
  have hD : va_D A [(e0, .inr (3, [.int (nI a1), .int (nI a2), .int (nI bw), .ref (al), .ref (ah), .ref (az), .ref (r0), .ref (s0), .ref (ac), .ref (h9)])), (al, aI g 48 lo), (ah, aI g 48 hi), (az, aZ g 12 th), (r0, .inr (2, [.int (nI ri), .int (nI ro), .ref (rn), .ref (rp)])), (rn, aI g 48 nu), (rp, aZ g 12 pt), (ac, aC g 3 cf), (c0, .inr (0, [.int (ki0), .int (kt0), .int (kf0), .int (km0), .int (fr0), .ref (x0), .ref (y0), .ref (z0)])), (c1, .inr (0, [.int (ki1), .int (kt1), .int (kf1), .int (km1), .int (fr1), .ref (x1), .ref (y1), .ref (z1)])), (c2, .inr (0, [.int (ki2), .int (kt2), .int (kf2), .int (km2), .int (fr2), .ref (x2), .ref (y2), .ref (z2)]))] := hD
  refine lv_aload_n hx hb dX3_clear_10 rfl (lv_at hl 0 rfl) ?_
  refine lv_iconst (v := nI 0) hx hb dX3_clear_11 (by decide) ?_
  refine k_put hx hb hts hown hK hP hD hS iw_X3_clear_X3 rfl tyX3 tyX3_ok nmX3 0 2 fm_X3_clear_45 (by decide) rfl rfl rfl rfl rfl (Nat.le_of_ble_eq_true rfl) dX3_clear_12 (fun H locs hP hD hS => ?_)
  have hP : va_P g.1 vwCl [(e0, .inr (3, [.int (nI a1), .int (nI a2), .int (nI 0), .ref (al), .ref (ah), .ref (az), .ref (r0), .ref (s0), .ref (ac), .ref (h9)])), (al, aI g 48 lo), (ah, aI g 48 hi), (az, aZ g 12 th), (r0, .inr (2, [.int (nI ri), .int (nI ro), .ref (rn), .ref (rp)])), (rn, aI g 48 nu), (rp, aZ g 12 pt), (ac, aC g 3 cf), (c0, .inr (0, [.int (ki0), .int (kt0), .int (kf0), .int (km0), .int (fr0), .ref (x0), .ref (y0), .ref (z0)])), (c1, .inr (0, [.int (ki1), .int (kt1), .int (kf1), .int (km1), .int (fr1), .ref (x1), .ref (y1), .ref (z1)])), (c2, .inr (0, [.int (ki2), .int (kt2), .int (kf2), .int (km2), .int (fr2), .ref (x2), .ref (y2), .ref (z2)]))] H := hP
  have hD : va_D A [(e0, .inr (3, [.int (nI a1), .int (nI a2), .int (nI 0), .ref (al), .ref (ah), .ref (az), .ref (r0), .ref (s0), .ref (ac), .ref (h9)])), (al, aI g 48 lo), (ah, aI g 48 hi), (az, aZ g 12 th), (r0, .inr (2, [.int (nI ri), .int (nI ro), .ref (rn), .ref (rp)])), (rn, aI g 48 nu), (rp, aZ g 12 pt), (ac, aC g 3 cf), (c0, .inr (0, [.int (ki0), .int (kt0), .int (kf0), .int (km0), .int (fr0), .ref (x0), .ref (y0), .ref (z0)])), (c1, .inr (0, [.int (ki1), .int (kt1), .int (kf1), .int (km1), .int (fr1), .ref (x1), .ref (y1), .ref (z1)])), (c2, .inr (0, [.int (ki2), .int (kt2), .int (kf2), .int (km2), .int (fr2), .ref (x2), .ref (y2), .ref (z2)]))] := hD
  refine lv_iconst (v := nI 0) hx hb dX3_clear_15 (by decide) ?_
  refine lv_istore_n (lv' := [(3, .int (nI 0)), (0, .ref (e0)), (1, .int (nI a1)), (2, .int (nI a2))]) hx hb dX3_clear_16 rfl hl (by decide) rfl (fun ls hl => ?_)
  have lp_17 : ∀ (n : Nat) (k : Nat), 12 - k < n → k ≤ 12 → ∀ (H : Heap) (locs : List Loc), va_P g.1 vwCl [(e0, .inr (3, [.int (nI a1), .int (nI a2), .int (nI 0), .ref (al), .ref (ah), .ref (az), .ref (r0), .ref (s0), .ref (ac), .ref (h9)])), (al, aI g 48 lo), (ah, aI g 48 hi), (az, aZ g 12 (pI th 0 (fun _ => 0) k)), (r0, .inr (2, [.int (nI ri), .int (nI ro), .ref (rn), .ref (rp)])), (rn, aI g 48 nu), (rp, aZ g 12 pt), (ac, aC g 3 cf), (c0, .inr (0, [.int (ki0), .int (kt0), .int (kf0), .int (km0), .int (fr0), .ref (x0), .ref (y0), .ref (z0)])), (c1, .inr (0, [.int (ki1), .int (kt1), .int (kf1), .int (km1), .int (fr1), .ref (x1), .ref (y1), .ref (z1)])), (c2, .inr (0, [.int (ki2), .int (kt2), .int (kf2), .int (km2), .int (fr2), .ref (x2), .ref (y2), .ref (z2)]))] H → va_D A [(e0, .inr (3, [.int (nI a1), .int (nI a2), .int (nI 0), .ref (al), .ref (ah), .ref (az), .ref (r0), .ref (s0), .ref (ac), .ref (h9)])), (al, aI g 48 lo), (ah, aI g 48 hi), (az, aZ g 12 (pI th 0 (fun _ => 0) k)), (r0, .inr (2, [.int (nI ri), .int (nI ro), .ref (rn), .ref (rp)])), (rn, aI g 48 nu), (rp, aZ g 12 pt), (ac, aC g 3 cf), (c0, .inr (0, [.int (ki0), .int (kt0), .int (kf0), .int (km0), .int (fr0), .ref (x0), .ref (y0), .ref (z0)])), (c1, .inr (0, [.int (ki1), .int (kt1), .int (kf1), .int (km1), .int (fr1), .ref (x1), .ref (y1), .ref (z1)])), (c2, .inr (0, [.int (ki2), .int (kt2), .int (kf2), .int (km2), .int (fr2), .ref (x2), .ref (y2), .ref (z2)]))] → va_S A s.heap H locs → ∀ ls : Array Slot, lv_has ls 4 [(0, .ref (e0)), (3, .int (nI k))] → W p l e { frames := 1, cells := 0, slots := 0, locals := 23 } s m args below meth c H locs 0 0 Q (F0 m 17 ls []) := by
    intro n
    induction n with
    | zero =>
      intro k hms
      omega
    | succ n ih_17 =>
      intro k hms_17 hk H locs hP hD hS ls hl
      refine lv_iload_n hx hb dX3_clear_17 rfl (lv_at hl 1 rfl) ?_
      refine lv_bipush (v := nI 12) hx hb dX3_clear_18 (by decide) ?_
      refine lv_icmp_ge (tgt := 36) hx hb dX3_clear_20 (by decide) (fun c_1 => ?_) (fun c_1 => ?_)
      · skip
        have c_1 := (nI_leI (by omega) (by omega)).mp c_1
        obtain ⟨hP, hD⟩ := cg_Z (h := fun _ => 0) hP hD 3 rfl (fun j hj => by have e := pI_in (f := th) (a := 0) (F := fun _ => 0) (k := k) (i := j) (by omega); rw [Nat.zero_add] at e; exact e)
        refine lv_aload_n hx hb dX3_clear_36 rfl (lv_at hl 0 rfl) ?_
        refine go_v (wc := [(e0, .inr (3, [.int (nI a1), .int (nI a2), .int (nI 0), .ref (al), .ref (ah), .ref (az), .ref (r0), .ref (s0), .ref (ac), .ref (h9)])), (al, aI g 48 lo), (ah, aI g 48 hi), (az, aZ g 12 (fun _ => 0)), (r0, .inr (2, [.int (nI ri), .int (nI ro), .ref (rn), .ref (rp)])), (rn, aI g 48 nu), (rp, aZ g 12 pt), (ac, aC g 3 cf), (c0, .inr (0, [.int (ki0), .int (kt0), .int (kf0), .int (km0), .int (fr0), .ref (x0), .ref (y0), .ref (z0)])), (c1, .inr (0, [.int (ki1), .int (kt1), .int (kf1), .int (km1), .int (fr1), .ref (x1), .ref (y1), .ref (z1)])), (c2, .inr (0, [.int (ki2), .int (kt2), .int (kf2), .int (km2), .int (fr2), .ref (x2), .ref (y2), .ref (z2)]))]) (wr := []) hP hD hS hA [0, 1, 2, 3, 4, 5, 6, 7, 8, 9, 10] [] rfl rfl rfl rfl (by decide) (fun hPc hDc => rn_V (As := []) (rest := []) ⟨hx, hb, hml, hown, hts⟩ ((c_X3_retell l g e0 a1 a2 0 al ah az r0 s0 ac h9 lo hi (fun _ => 0) rn rp ri ro nu pt cf c0 ki0 kt0 kf0 km0 fr0 x0 y0 z0 c1 ki1 kt1 kf1 km1 fr1 x1 y1 z1 c2 ki2 kt2 kf2 km2 fr2 x2 y2 z2 (by omega) (by omega) (fun _ => Or.inl rfl) hc0 hc1 hc2) _) (cwV 0 hts gX3_clear_X3_retell rfl rfl rfl (by decide +kernel) ⟨Nat.le_of_ble_eq_true rfl, Nat.le_of_ble_eq_true rfl⟩) hK hN hPc hDc 0 rfl rfl rfl rfl hl.1 (Nat.le_of_ble_eq_true rfl) dX3_clear_37 ⟨Nat.le_of_ble_eq_true rfl, Nat.le_of_ble_eq_true rfl⟩) ?_
        intro u_3 H locs h_4 hP hD hS
        have hP : va_P g.1 vwCl [(e0, .inr (3, [.int (nI a1), .int (nI a2), .int (nI 0), .ref (al), .ref (ah), .ref (az), .ref (r0), .ref (s0), .ref (ac), .ref (h9)])), (al, aI g 48 lo), (ah, aI g 48 hi), (az, aZ g 12 ((fun _ => 0))), (r0, .inr (2, [.int (nI a1), .int (nI a2), .ref (rn), .ref (rp)])), (rn, aI g 48 (rtO lo hi a1 (a1 + a2) 0 12 nu)), (rp, aZ g 12 ((fun _ => 0))), (ac, aC g 3 cf), (c0, .inr (0, [.int (ki0), .int (kt0), .int (kf0), .int (km0), .int (0), .ref (x0), .ref (y0), .ref (z0)])), (c1, .inr (0, [.int (ki1), .int (kt1), .int (kf1), .int (km1), .int (0), .ref (x1), .ref (y1), .ref (z1)])), (c2, .inr (0, [.int (ki2), .int (kt2), .int (kf2), .int (km2), .int (0), .ref (x2), .ref (y2), .ref (z2)]))] H := hP.sub [0, 1, 2, 3, 4, 5, 6, 7, 8, 9, 10] rfl
        have hD : va_D A [(e0, .inr (3, [.int (nI a1), .int (nI a2), .int (nI 0), .ref (al), .ref (ah), .ref (az), .ref (r0), .ref (s0), .ref (ac), .ref (h9)])), (al, aI g 48 lo), (ah, aI g 48 hi), (az, aZ g 12 ((fun _ => 0))), (r0, .inr (2, [.int (nI a1), .int (nI a2), .ref (rn), .ref (rp)])), (rn, aI g 48 (rtO lo hi a1 (a1 + a2) 0 12 nu)), (rp, aZ g 12 ((fun _ => 0))), (ac, aC g 3 cf), (c0, .inr (0, [.int (ki0), .int (kt0), .int (kf0), .int (km0), .int (0), .ref (x0), .ref (y0), .ref (z0)])), (c1, .inr (0, [.int (ki1), .int (kt1), .int (kf1), .int (km1), .int (0), .ref (x1), .ref (y1), .ref (z1)])), (c2, .inr (0, [.int (ki2), .int (kt2), .int (kf2), .int (km2), .int (0), .ref (x2), .ref (y2), .ref (z2)]))] := hD.sub [0, 1, 2, 3, 4, 5, 6, 7, 8, 9, 10] rfl rfl
        exact ret dX3_clear_40 () (trivial) hP hD hS
      · skip
        have c_1 := mt (nI_leI (by omega) (by omega)).mpr c_1
        refine lv_aload_n hx hb dX3_clear_23 rfl (lv_at hl 0 rfl) ?_
        refine k_get hx hb hts hown hK hP iw_X3_clear_X3 rfl 0 5 fm_X3_clear_16 (by decide) rfl rfl dX3_clear_24 ?_
        refine lv_iload_n hx hb dX3_clear_27 rfl (lv_at hl 1 rfl) ?_
        refine lv_iconst (v := nI 0) hx hb dX3_clear_28 (by decide) ?_
        refine k_zast hx hb hK hP hD hS 3 rfl (by omega) (by omega) (by decide) dX3_clear_29 (fun H locs hP hD hS => ?_)
        have hP : va_P g.1 vwCl [(e0, .inr (3, [.int (nI a1), .int (nI a2), .int (nI 0), .ref (al), .ref (ah), .ref (az), .ref (r0), .ref (s0), .ref (ac), .ref (h9)])), (al, aI g 48 lo), (ah, aI g 48 hi), (az, aZ g 12 (upd (pI th 0 (fun _ => 0) k) k (nI 0))), (r0, .inr (2, [.int (nI ri), .int (nI ro), .ref (rn), .ref (rp)])), (rn, aI g 48 nu), (rp, aZ g 12 pt), (ac, aC g 3 cf), (c0, .inr (0, [.int (ki0), .int (kt0), .int (kf0), .int (km0), .int (fr0), .ref (x0), .ref (y0), .ref (z0)])), (c1, .inr (0, [.int (ki1), .int (kt1), .int (kf1), .int (km1), .int (fr1), .ref (x1), .ref (y1), .ref (z1)])), (c2, .inr (0, [.int (ki2), .int (kt2), .int (kf2), .int (km2), .int (fr2), .ref (x2), .ref (y2), .ref (z2)]))] H := hP
        have hD : va_D A [(e0, .inr (3, [.int (nI a1), .int (nI a2), .int (nI 0), .ref (al), .ref (ah), .ref (az), .ref (r0), .ref (s0), .ref (ac), .ref (h9)])), (al, aI g 48 lo), (ah, aI g 48 hi), (az, aZ g 12 (upd (pI th 0 (fun _ => 0) k) k (nI 0))), (r0, .inr (2, [.int (nI ri), .int (nI ro), .ref (rn), .ref (rp)])), (rn, aI g 48 nu), (rp, aZ g 12 pt), (ac, aC g 3 cf), (c0, .inr (0, [.int (ki0), .int (kt0), .int (kf0), .int (km0), .int (fr0), .ref (x0), .ref (y0), .ref (z0)])), (c1, .inr (0, [.int (ki1), .int (kt1), .int (kf1), .int (km1), .int (fr1), .ref (x1), .ref (y1), .ref (z1)])), (c2, .inr (0, [.int (ki2), .int (kt2), .int (kf2), .int (km2), .int (fr2), .ref (x2), .ref (y2), .ref (z2)]))] := hD
        have e_5 : upd (pI th 0 (fun _ => 0) k) k (nI 0) = pI th 0 (fun _ => 0) (k + 1) := by rw [← pI_succ th 0 (fun _ => 0) k (x := nI 0) rfl, Nat.zero_add]
        rw [e_5] at hP hD
        refine lv_iinc (v := nI (k + 1)) (lv' := [(3, .int (nI (k + 1))), (0, .ref (e0))]) hx hb dX3_clear_30 hl (k := 1) rfl (nI_inc1 k) (by decide) rfl (fun ls hl => ?_)
        refine lv_goto (tgt := 17) hx hb dX3_clear_33 (by decide) ?_
        exact ih_17 (k + 1) (by omega) (by omega) _ _ hP hD hS ls (lv_sub hl [1, 0] rfl)
  exact lp_17 (12 - 0 + 1) 0 (by omega) (by omega) _ _ (by rw [pI_0]; exact hP) (by rw [pI_0]; exact hD) hS ls (lv_sub hl [1, 0] rfl)
theorem iw_X3_coneOf_X3 : ∀ w ∈ wsX30, w ∈ wsX3_coneOf := by decide +kernel
theorem fm_X3_coneOf_32 : Cond.fieldLink RX3 32 "EdgeBench" "toldCones" "[LEdgeBench$Cone;" ∈ wsX3_coneOf := by decide +kernel
theorem iw_X3_coneOf_X0 : ∀ w ∈ wsX00, w ∈ wsX3_coneOf := by decide +kernel
theorem fm_X3_coneOf_23 : Cond.fieldLink RX3 23 "EdgeBench" "told" "LEdgeBench$Rows;" ∈ wsX3_coneOf := by decide +kernel
set_option maxHeartbeats 4000000 in
set_option maxRecDepth 100000 in
theorem c_X3_coneOf (l : Launch) (g : Gt) (e0 : Nat) (bi : Nat) (bo : Nat) (bw : Nat) (al : Nat) (ah : Nat) (az : Nat) (r0 : Nat) (s0 : Nat) (ac : Nat) (h9 : Nat) (rn : Nat) (rp : Nat) (ri : Nat) (ro : Nat) (nu : Nat → Int32) (pt : Nat → Int32) (cf : Nat → Option Nat) (h0 : Nat) (h5 : Nat) (h6 : Nat) (h7 : Nat) (ki : Nat) (kt : Nat) (kf : Nat) (km : Nat) (fr : Int32) (ray : Nat → Int64) (tg : Nat → Int32) (sl : Nat → Int64) (v : Nat) (hv2 : v ≤ 2) (hri : ri ≤ 2) (hro : ro ≤ 2) (hri1 : 1 ≤ ri) (hro1 : 1 ≤ ro) (hcf : cf v = some h0) (hfr : cnFR nu pt ri ro v (ki, kt, kf, km, fr, ray, tg, sl)) : CK l yX3_coneOf wsX3_coneOf { frames := 4, cells := 0, slots := 0, locals := 107 } g [.ref (e0), .int (nI v)] [(e0, .inr (3, [.int (nI bi), .int (nI bo), .int (nI bw), .ref (al), .ref (ah), .ref (az), .ref (r0), .ref (s0), .ref (ac), .ref (h9)])), (r0, .inr (2, [.int (nI ri), .int (nI ro), .ref (rn), .ref (rp)])), (rn, aI g 48 nu), (rp, aZ g 12 pt), (ac, aC g 3 cf), (h0, .inr (0, [.int (nI ki), .int (nI kt), .int (nI kf), .int (nI km), .int (fr), .ref (h5), .ref (h6), .ref (h7)])), (h5, aJ g 720 ray), (h6, aI g 144 tg), (h7, aJ g 144 sl)] h0 (fun (zu : Cn) => zu.2.2.2.2.1 = 1 ∧ cnOK nu pt ri ro v zu) (fun (zu : Cn) => [(e0, .inr (3, [.int (nI bi), .int (nI bo), .int (nI bw), .ref (al), .ref (ah), .ref (az), .ref (r0), .ref (s0), .ref (ac), .ref (h9)])), (r0, .inr (2, [.int (nI ri), .int (nI ro), .ref (rn), .ref (rp)])), (rn, aI g 48 nu), (rp, aZ g 12 pt), (ac, aC g 3 cf), (h0, .inr (0, [.int (nI zu.1), .int (nI zu.2.1), .int (nI zu.2.2.1), .int (nI zu.2.2.2.1), .int (zu.2.2.2.2.1), .ref (h5), .ref (h6), .ref (h7)])), (h5, aJ g 720 zu.2.2.2.2.2.1), (h6, aI g 144 zu.2.2.2.2.2.2.1), (h7, aJ g 144 zu.2.2.2.2.2.2.2)]) 0 0 := by
  refine ent_k (cc := cX3_coneOf) (maxL := 3) (by decide) rfl (Nat.le_of_ble_eq_true rfl) ?_
  intro p e s m below meth c A args Q hE ret ls hl
  obtain ⟨hx, hb, hml, hown, hts, hnm, hA, hP, hD, hK, hN⟩ := hE
  have hS : va_S A s.heap s.heap [] := va_S.rf
  have hl : lv_has ls 3 [(0, .ref (e0)), (1, .int (nI v))] := hl
  have hP : va_P g.1 vwCl [(e0, .inr (3, [.int (nI bi), .int (nI bo), .int (nI bw), .ref (al), .ref (ah), .ref (az), .ref (r0), .ref (s0), .ref (ac), .ref (h9)])), (r0, .inr (2, [.int (nI ri), .int (nI ro), .ref (rn), .ref (rp)])), (rn, aI g 48 nu), (rp, aZ g 12 pt), (ac, aC g 3 cf), (h0, .inr (0, [.int (nI ki), .int (nI kt), .int (nI kf), .int (nI km), .int (fr), .ref (h5), .ref (h6), .ref (h7)])), (h5, aJ g 720 ray), (h6, aI g 144 tg), (h7, aJ g 144 sl)] s.heap := hP
  refine lv_aload_n hx hb dX3_coneOf_0 rfl (lv_at hl 0 rfl) ?_
  refine k_get hx hb hts hown hK hP iw_X3_coneOf_X3 rfl 0 8 fm_X3_coneOf_32 (by decide) rfl rfl dX3_coneOf_1 ?_
  refine lv_iload_n hx hb dX3_coneOf_4 rfl (lv_at hl 1 rfl) ?_
  refine k_cald hx hb hK hP 4 rfl (by omega) (by omega) (hcf) dX3_coneOf_5 ?_
  refine lv_astore_n (lv' := [(2, .ref (h0)), (0, .ref (e0)), (1, .int (nI v))]) hx hb dX3_coneOf_6 rfl hl (by decide) rfl (fun ls hl => ?_)
  refine lv_aload_n hx hb dX3_coneOf_7 rfl (lv_at hl 0 rfl) ?_
  refine k_getN hx hb hts hown hK hN hP iw_X3_coneOf_X0 rfl 5 4 (List.mem_of_getElem? (i := 8) rfl) (by decide) rfl rfl dX3_coneOf_8 ?_
  refine lv_if_ne (tgt := 28) hx hb dX3_coneOf_11 (by decide) (fun c_1 => ?_) (fun c_1 => ?_)
  · skip
    have hok := hfr.elim (fun q => absurd q c_1) id
    refine lv_aload_n hx hb dX3_coneOf_28 rfl (lv_at hl 0 rfl) ?_
    exact ret dX3_coneOf_29 ((ki, kt, kf, km, fr, ray, tg, sl)) (hok) hP hD hS
  · skip
    have hf0 := c_1
    refine lv_aload_n hx hb dX3_coneOf_14 rfl (lv_at hl 0 rfl) ?_
    refine lv_aload_n hx hb dX3_coneOf_15 rfl (lv_at hl 1 rfl) ?_
    refine k_get hx hb hts hown hK hP iw_X3_coneOf_X3 rfl 0 6 fm_X3_coneOf_23 (by decide) rfl rfl dX3_coneOf_16 ?_
    refine lv_iload_n hx hb dX3_coneOf_19 rfl (lv_at hl 2 rfl) ?_
    refine go_v (wc := [(h0, .inr (0, [.int (nI ki), .int (nI kt), .int (nI kf), .int (nI km), .int (fr), .ref (h5), .ref (h6), .ref (h7)])), (h5, aJ g 720 ray), (h6, aI g 144 tg), (h7, aJ g 144 sl), (r0, .inr (2, [.int (nI ri), .int (nI ro), .ref (rn), .ref (rp)])), (rn, aI g 48 nu), (rp, aZ g 12 pt)]) (wr := [(e0, .inr (3, [.int (nI bi), .int (nI bo), .int (nI bw), .ref (al), .ref (ah), .ref (az), .ref (r0), .ref (s0), .ref (ac), .ref (h9)])), (ac, aC g 3 cf)]) hP hD hS hA [5, 6, 7, 8, 1, 2, 3] [0, 4] rfl rfl rfl rfl (by decide) (fun hPc hDc => rn_VN (As := [.ref (r0), .int (nI v)]) (rest := []) ⟨hx, hb, hml, hown, hts⟩ ((c_X0_build l g h0 h5 h6 h7 ki kt kf km fr ray tg sl r0 rn rp ri ro nu pt v (by omega) (by omega) (by omega) (by omega) (by omega)) _) (⟨va_cnB 2 hts gX3_coneOf_X0_build_n187 rfl rfl rfl (hN.2 _ (List.mem_of_getElem? (i := 8) rfl)) (hts _ (by decide +kernel)) (by decide +kernel) ⟨Nat.le_of_ble_eq_true rfl, Nat.le_of_ble_eq_true rfl⟩, hts _ (by decide +kernel), hts _ (by decide +kernel)⟩) hK hN hPc hDc 0 rfl rfl rfl rfl hl.1 (Nat.le_of_ble_eq_true rfl) dX3_coneOf_20 ⟨Nat.le_of_ble_eq_true rfl, Nat.le_of_ble_eq_true rfl⟩) ?_
    intro u_3 H locs h_4 hP hD hS
    have hP : va_P g.1 vwCl [(e0, .inr (3, [.int (nI bi), .int (nI bo), .int (nI bw), .ref (al), .ref (ah), .ref (az), .ref (r0), .ref (s0), .ref (ac), .ref (h9)])), (r0, .inr (2, [.int (nI ri), .int (nI ro), .ref (rn), .ref (rp)])), (rn, aI g 48 nu), (rp, aZ g 12 pt), (ac, aC g 3 cf), (h0, .inr (0, [.int (nI ri), .int (nI (ri + ro)), .int (nI (bdK v (ri + ro))), .int (nI ((bdS nu pt v ri (ri + ro) ray tg sl km).1)), .int (fr), .ref (h5), .ref (h6), .ref (h7)])), (h5, aJ g 720 ((bdS nu pt v ri (ri + ro) ray tg sl km).2.1)), (h6, aI g 144 ((bdS nu pt v ri (ri + ro) ray tg sl km).2.2)), (h7, aJ g 144 ((bdQ nu pt v ri (ri + ro) ray tg sl km).2))] H := hP.sub [0, 6, 7, 8, 1, 2, 3, 4, 5] rfl
    have hD : va_D A [(e0, .inr (3, [.int (nI bi), .int (nI bo), .int (nI bw), .ref (al), .ref (ah), .ref (az), .ref (r0), .ref (s0), .ref (ac), .ref (h9)])), (r0, .inr (2, [.int (nI ri), .int (nI ro), .ref (rn), .ref (rp)])), (rn, aI g 48 nu), (rp, aZ g 12 pt), (ac, aC g 3 cf), (h0, .inr (0, [.int (nI ri), .int (nI (ri + ro)), .int (nI (bdK v (ri + ro))), .int (nI ((bdS nu pt v ri (ri + ro) ray tg sl km).1)), .int (fr), .ref (h5), .ref (h6), .ref (h7)])), (h5, aJ g 720 ((bdS nu pt v ri (ri + ro) ray tg sl km).2.1)), (h6, aI g 144 ((bdS nu pt v ri (ri + ro) ray tg sl km).2.2)), (h7, aJ g 144 ((bdQ nu pt v ri (ri + ro) ray tg sl km).2))] := hD.sub [0, 6, 7, 8, 1, 2, 3, 4, 5] rfl rfl
    refine lv_aload_n hx hb dX3_coneOf_23 rfl (lv_at hl 0 rfl) ?_
    refine lv_iconst (v := nI 1) hx hb dX3_coneOf_24 (by decide) ?_
    refine k_putN hx hb hts hown hK hN hP hD hS iw_X3_coneOf_X0 rfl tyX0 tyX0_ok nmX0 5 4 (List.mem_of_getElem? (i := 8) rfl) (by decide) rfl rfl rfl rfl rfl (Nat.le_of_ble_eq_true rfl) dX3_coneOf_25 (fun H locs hP hD hS => ?_)
    have hP : va_P g.1 vwCl [(e0, .inr (3, [.int (nI bi), .int (nI bo), .int (nI bw), .ref (al), .ref (ah), .ref (az), .ref (r0), .ref (s0), .ref (ac), .ref (h9)])), (r0, .inr (2, [.int (nI ri), .int (nI ro), .ref (rn), .ref (rp)])), (rn, aI g 48 nu), (rp, aZ g 12 pt), (ac, aC g 3 cf), (h0, .inr (0, [.int (nI ri), .int (nI (ri + ro)), .int (nI (bdK v (ri + ro))), .int (nI ((bdS nu pt v ri (ri + ro) ray tg sl km).1)), .int (nI 1), .ref (h5), .ref (h6), .ref (h7)])), (h5, aJ g 720 ((bdS nu pt v ri (ri + ro) ray tg sl km).2.1)), (h6, aI g 144 ((bdS nu pt v ri (ri + ro) ray tg sl km).2.2)), (h7, aJ g 144 ((bdQ nu pt v ri (ri + ro) ray tg sl km).2))] H := hP
    have hD : va_D A [(e0, .inr (3, [.int (nI bi), .int (nI bo), .int (nI bw), .ref (al), .ref (ah), .ref (az), .ref (r0), .ref (s0), .ref (ac), .ref (h9)])), (r0, .inr (2, [.int (nI ri), .int (nI ro), .ref (rn), .ref (rp)])), (rn, aI g 48 nu), (rp, aZ g 12 pt), (ac, aC g 3 cf), (h0, .inr (0, [.int (nI ri), .int (nI (ri + ro)), .int (nI (bdK v (ri + ro))), .int (nI ((bdS nu pt v ri (ri + ro) ray tg sl km).1)), .int (nI 1), .ref (h5), .ref (h6), .ref (h7)])), (h5, aJ g 720 ((bdS nu pt v ri (ri + ro) ray tg sl km).2.1)), (h6, aI g 144 ((bdS nu pt v ri (ri + ro) ray tg sl km).2.2)), (h7, aJ g 144 ((bdQ nu pt v ri (ri + ro) ray tg sl km).2))] := hD
    refine lv_aload_n hx hb dX3_coneOf_28 rfl (lv_at hl 0 rfl) ?_
    exact ret dX3_coneOf_29 ((ri, ri + ro, bdK v (ri + ro), (bdS nu pt v ri (ri + ro) ray tg sl km).1, 1, (bdS nu pt v ri (ri + ro) ray tg sl km).2.1, (bdS nu pt v ri (ri + ro) ray tg sl km).2.2, (bdQ nu pt v ri (ri + ro) ray tg sl km).2)) (⟨rfl, rfl, rfl, rfl, ray, tg, sl, km, rfl⟩) hP hD hS
theorem iw_X3_toldShare_X3 : ∀ w ∈ wsX30, w ∈ wsX3_toldShare := by decide +kernel
theorem fm_X3_toldShare_23 : Cond.fieldLink RX3 23 "EdgeBench" "told" "LEdgeBench$Rows;" ∈ wsX3_toldShare := by decide +kernel
set_option maxHeartbeats 4000000 in
set_option maxRecDepth 100000 in
theorem c_X3_toldShare (l : Launch) (g : Gt) (e0 : Nat) (bi : Nat) (bo : Nat) (bw : Nat) (al : Nat) (ah : Nat) (az : Nat) (r0 : Nat) (s0 : Nat) (ac : Nat) (h9 : Nat) (rn : Nat) (rp : Nat) (ri : Nat) (ro : Nat) (nu : Nat → Int32) (pt : Nat → Int32) (cf : Nat → Option Nat) (h0 : Nat) (h5 : Nat) (h6 : Nat) (h7 : Nat) (ki : Nat) (kt : Nat) (kf : Nat) (km : Nat) (fr : Int32) (ray : Nat → Int64) (tg : Nat → Int32) (sl : Nat → Int64) (v : Nat) (w : Nat) (hv2 : v ≤ 2) (hw : w < 12) (hri : ri ≤ 2) (hro : ro ≤ 2) (hri1 : 1 ≤ ri) (hro1 : 1 ≤ ro) (hcf : cf v = some h0) (hfr : cnFR nu pt ri ro v (ki, kt, kf, km, fr, ray, tg, sl)) : CR l yX3_toldShare wsX3_toldShare { frames := 5, cells := 1, slots := 2, locals := 129 } g [.ref (e0), .int (nI v), .int (nI w)] [(e0, .inr (3, [.int (nI bi), .int (nI bo), .int (nI bw), .ref (al), .ref (ah), .ref (az), .ref (r0), .ref (s0), .ref (ac), .ref (h9)])), (r0, .inr (2, [.int (nI ri), .int (nI ro), .ref (rn), .ref (rp)])), (rn, aI g 48 nu), (rp, aZ g 12 pt), (ac, aC g 3 cf), (h0, .inr (0, [.int (nI ki), .int (nI kt), .int (nI kf), .int (nI km), .int (fr), .ref (h5), .ref (h6), .ref (h7)])), (h5, aJ g 720 ray), (h6, aI g 144 tg), (h7, aJ g 144 sl)] (fun (zu : Cn) => zu.2.2.2.2.1 = 1 ∧ cnOK nu pt ri ro v zu) (fun (zu : Cn) za => [(e0, .inr (3, [.int (nI bi), .int (nI bo), .int (nI bw), .ref (al), .ref (ah), .ref (az), .ref (r0), .ref (s0), .ref (ac), .ref (h9)])), (r0, .inr (2, [.int (nI ri), .int (nI ro), .ref (rn), .ref (rp)])), (rn, aI g 48 nu), (rp, aZ g 12 pt), (ac, aC g 3 cf), (h0, .inr (0, [.int (nI zu.1), .int (nI zu.2.1), .int (nI zu.2.2.1), .int (nI zu.2.2.2.1), .int (zu.2.2.2.2.1), .ref (h5), .ref (h6), .ref (h7)])), (h5, aJ g 720 zu.2.2.2.2.2.1), (h6, aI g 144 zu.2.2.2.2.2.2.1), (h7, aJ g 144 zu.2.2.2.2.2.2.2), (za, .inr (1, [.long (frT (shF zu.2.2.2.2.2.1 nu w ri (ri + ro) 0 zu.2.2.2.1 (0, 0)).1 (shF zu.2.2.2.2.2.1 nu w ri (ri + ro) 0 zu.2.2.2.1 (0, 0)).2), .long (frB (shF zu.2.2.2.2.2.1 nu w ri (ri + ro) 0 zu.2.2.2.1 (0, 0)).1 (shF zu.2.2.2.2.2.1 nu w ri (ri + ro) 0 zu.2.2.2.1 (0, 0)).2)]))]) 1 2 := by
  refine ent_r (cc := cX3_toldShare) (maxL := 3) (by decide) rfl (Nat.le_of_ble_eq_true rfl) ?_
  intro p e s m below meth c A args Q hE ret ls hl
  obtain ⟨hx, hb, hml, hown, hts, hnm, hA, hP, hD, hK, hN⟩ := hE
  have hS : va_S A s.heap s.heap [] := va_S.rf
  have hl : lv_has ls 3 [(0, .ref (e0)), (1, .int (nI v)), (2, .int (nI w))] := hl
  have hP : va_P g.1 vwCl [(e0, .inr (3, [.int (nI bi), .int (nI bo), .int (nI bw), .ref (al), .ref (ah), .ref (az), .ref (r0), .ref (s0), .ref (ac), .ref (h9)])), (r0, .inr (2, [.int (nI ri), .int (nI ro), .ref (rn), .ref (rp)])), (rn, aI g 48 nu), (rp, aZ g 12 pt), (ac, aC g 3 cf), (h0, .inr (0, [.int (nI ki), .int (nI kt), .int (nI kf), .int (nI km), .int (fr), .ref (h5), .ref (h6), .ref (h7)])), (h5, aJ g 720 ray), (h6, aI g 144 tg), (h7, aJ g 144 sl)] s.heap := hP
  refine lv_iload_n hx hb dX3_toldShare_0 rfl (lv_at hl 1 rfl) ?_
  refine lv_iconst (v := nI 3) hx hb dX3_toldShare_1 (by decide) ?_
  refine lv_icmp_ne (tgt := 16) hx hb dX3_toldShare_2 (by decide) (fun c_1 => ?_) (fun c_1 => ?_)
  · skip
    have c_1 := mt (nI_eq (by omega) (by omega)).mpr c_1
    refine lv_aload_n hx hb dX3_toldShare_16 rfl (lv_at hl 0 rfl) ?_
    refine lv_iload_n hx hb dX3_toldShare_17 rfl (lv_at hl 1 rfl) ?_
    refine go_k (wc := [(e0, .inr (3, [.int (nI bi), .int (nI bo), .int (nI bw), .ref (al), .ref (ah), .ref (az), .ref (r0), .ref (s0), .ref (ac), .ref (h9)])), (r0, .inr (2, [.int (nI ri), .int (nI ro), .ref (rn), .ref (rp)])), (rn, aI g 48 nu), (rp, aZ g 12 pt), (ac, aC g 3 cf), (h0, .inr (0, [.int (nI ki), .int (nI kt), .int (nI kf), .int (nI km), .int (fr), .ref (h5), .ref (h6), .ref (h7)])), (h5, aJ g 720 ray), (h6, aI g 144 tg), (h7, aJ g 144 sl)]) (wr := []) hP hD hS hA [0, 1, 2, 3, 4, 5, 6, 7, 8] [] rfl rfl rfl rfl (by decide) (fun hPc hDc => rn_V (As := [.int (nI v)]) (rest := []) ⟨hx, hb, hml, hown, hts⟩ ((c_X3_coneOf l g e0 bi bo bw al ah az r0 s0 ac h9 rn rp ri ro nu pt cf h0 h5 h6 h7 ki kt kf km fr ray tg sl v (by omega) (by omega) (by omega) (by omega) (by omega) hcf hfr) _) (cwV 1 hts gX3_toldShare_X3_coneOf rfl rfl rfl (by decide +kernel) ⟨Nat.le_of_ble_eq_true rfl, Nat.le_of_ble_eq_true rfl⟩) hK hN hPc hDc 0 rfl rfl rfl rfl hl.1 (Nat.le_of_ble_eq_true rfl) dX3_toldShare_18 ⟨Nat.le_of_ble_eq_true rfl, Nat.le_of_ble_eq_true rfl⟩) ?_
    intro u_3 H locs h_4 hP hD hS
    have hP : va_P g.1 vwCl [(e0, .inr (3, [.int (nI bi), .int (nI bo), .int (nI bw), .ref (al), .ref (ah), .ref (az), .ref (r0), .ref (s0), .ref (ac), .ref (h9)])), (r0, .inr (2, [.int (nI ri), .int (nI ro), .ref (rn), .ref (rp)])), (rn, aI g 48 nu), (rp, aZ g 12 pt), (ac, aC g 3 cf), (h0, .inr (0, [.int (nI u_3.1), .int (nI u_3.2.1), .int (nI u_3.2.2.1), .int (nI u_3.2.2.2.1), .int (u_3.2.2.2.2.1), .ref (h5), .ref (h6), .ref (h7)])), (h5, aJ g 720 u_3.2.2.2.2.2.1), (h6, aI g 144 u_3.2.2.2.2.2.2.1), (h7, aJ g 144 u_3.2.2.2.2.2.2.2)] H := hP.sub [0, 1, 2, 3, 4, 5, 6, 7, 8] rfl
    have hD : va_D A [(e0, .inr (3, [.int (nI bi), .int (nI bo), .int (nI bw), .ref (al), .ref (ah), .ref (az), .ref (r0), .ref (s0), .ref (ac), .ref (h9)])), (r0, .inr (2, [.int (nI ri), .int (nI ro), .ref (rn), .ref (rp)])), (rn, aI g 48 nu), (rp, aZ g 12 pt), (ac, aC g 3 cf), (h0, .inr (0, [.int (nI u_3.1), .int (nI u_3.2.1), .int (nI u_3.2.2.1), .int (nI u_3.2.2.2.1), .int (u_3.2.2.2.2.1), .ref (h5), .ref (h6), .ref (h7)])), (h5, aJ g 720 u_3.2.2.2.2.2.1), (h6, aI g 144 u_3.2.2.2.2.2.2.1), (h7, aJ g 144 u_3.2.2.2.2.2.2.2)] := hD.sub [0, 1, 2, 3, 4, 5, 6, 7, 8] rfl rfl
    have h_4 : u_3.2.2.2.2.1 = 1 ∧ cnOK nu pt ri ro v u_3 := h_4
    obtain ⟨hf1, hok⟩ := h_4
    have hm1 := cnOK_le hok hri hro
    have hk1 := hok.1
    have hk2 := hok.2.1
    refine lv_aload_n hx hb dX3_toldShare_21 rfl (lv_at hl 0 rfl) ?_
    refine k_get hx hb hts hown hK hP iw_X3_toldShare_X3 rfl 0 6 fm_X3_toldShare_23 (by decide) rfl rfl dX3_toldShare_22 ?_
    refine lv_iload_n hx hb dX3_toldShare_25 rfl (lv_at hl 2 rfl) ?_
    refine go_r (wc := [(h0, .inr (0, [.int (nI u_3.1), .int (nI u_3.2.1), .int (nI u_3.2.2.1), .int (nI u_3.2.2.2.1), .int (u_3.2.2.2.2.1), .ref (h5), .ref (h6), .ref (h7)])), (h5, aJ g 720 u_3.2.2.2.2.2.1), (h6, aI g 144 u_3.2.2.2.2.2.2.1), (h7, aJ g 144 u_3.2.2.2.2.2.2.2), (r0, .inr (2, [.int (nI ri), .int (nI ro), .ref (rn), .ref (rp)])), (rn, aI g 48 nu), (rp, aZ g 12 pt)]) (wr := [(e0, .inr (3, [.int (nI bi), .int (nI bo), .int (nI bw), .ref (al), .ref (ah), .ref (az), .ref (r0), .ref (s0), .ref (ac), .ref (h9)])), (ac, aC g 3 cf)]) hP hD hS hA [5, 6, 7, 8, 1, 2, 3] [0, 4] rfl rfl rfl rfl (by decide) (fun hPc hDc => rn_VN (As := [.ref (r0), .int (nI w)]) (rest := []) ⟨hx, hb, hml, hown, hts⟩ ((c_X0_shareOf l g h0 h5 h6 h7 u_3.1 u_3.2.1 u_3.2.2.1 u_3.2.2.2.1 u_3.2.2.2.2.1 u_3.2.2.2.2.2.1 u_3.2.2.2.2.2.2.1 u_3.2.2.2.2.2.2.2 r0 rn rp ri ro nu pt w (by omega) (by omega) (by omega) (by omega) (by omega)) _) (⟨va_cnB 2 hts gX3_toldShare_X0_shareOf_n195 rfl rfl rfl (hN.2 _ (List.mem_of_getElem? (i := 12) rfl)) (hts _ (by decide +kernel)) (by decide +kernel) ⟨Nat.le_of_ble_eq_true rfl, Nat.le_of_ble_eq_true rfl⟩, hts _ (by decide +kernel), hts _ (by decide +kernel)⟩) hK hN hPc hDc 0 rfl rfl rfl rfl hl.1 (Nat.le_of_ble_eq_true rfl) dX3_toldShare_26 ⟨Nat.le_of_ble_eq_true rfl, Nat.le_of_ble_eq_true rfl⟩) ?_
    intro u_6 r_5 H locs h_7 hP hD hS
    have hP : va_P g.1 vwCl [(e0, .inr (3, [.int (nI bi), .int (nI bo), .int (nI bw), .ref (al), .ref (ah), .ref (az), .ref (r0), .ref (s0), .ref (ac), .ref (h9)])), (r0, .inr (2, [.int (nI ri), .int (nI ro), .ref (rn), .ref (rp)])), (rn, aI g 48 nu), (rp, aZ g 12 pt), (ac, aC g 3 cf), (h0, .inr (0, [.int (nI u_3.1), .int (nI u_3.2.1), .int (nI u_3.2.2.1), .int (nI u_3.2.2.2.1), .int (u_3.2.2.2.2.1), .ref (h5), .ref (h6), .ref (h7)])), (h5, aJ g 720 u_3.2.2.2.2.2.1), (h6, aI g 144 u_3.2.2.2.2.2.2.1), (h7, aJ g 144 u_3.2.2.2.2.2.2.2), (r_5, .inr (1, [.long (frT (shF u_3.2.2.2.2.2.1 nu w u_3.1 u_3.2.1 0 u_3.2.2.2.1 (0, 0)).1 (shF u_3.2.2.2.2.2.1 nu w u_3.1 u_3.2.1 0 u_3.2.2.2.1 (0, 0)).2), .long (frB (shF u_3.2.2.2.2.2.1 nu w u_3.1 u_3.2.1 0 u_3.2.2.2.1 (0, 0)).1 (shF u_3.2.2.2.2.2.1 nu w u_3.1 u_3.2.1 0 u_3.2.2.2.1 (0, 0)).2)]))] H := hP.sub [0, 6, 7, 8, 1, 2, 3, 4, 5, 9] rfl
    have hD : va_D A [(e0, .inr (3, [.int (nI bi), .int (nI bo), .int (nI bw), .ref (al), .ref (ah), .ref (az), .ref (r0), .ref (s0), .ref (ac), .ref (h9)])), (r0, .inr (2, [.int (nI ri), .int (nI ro), .ref (rn), .ref (rp)])), (rn, aI g 48 nu), (rp, aZ g 12 pt), (ac, aC g 3 cf), (h0, .inr (0, [.int (nI u_3.1), .int (nI u_3.2.1), .int (nI u_3.2.2.1), .int (nI u_3.2.2.2.1), .int (u_3.2.2.2.2.1), .ref (h5), .ref (h6), .ref (h7)])), (h5, aJ g 720 u_3.2.2.2.2.2.1), (h6, aI g 144 u_3.2.2.2.2.2.2.1), (h7, aJ g 144 u_3.2.2.2.2.2.2.2), (r_5, .inr (1, [.long (frT (shF u_3.2.2.2.2.2.1 nu w u_3.1 u_3.2.1 0 u_3.2.2.2.1 (0, 0)).1 (shF u_3.2.2.2.2.2.1 nu w u_3.1 u_3.2.1 0 u_3.2.2.2.1 (0, 0)).2), .long (frB (shF u_3.2.2.2.2.2.1 nu w u_3.1 u_3.2.1 0 u_3.2.2.2.1 (0, 0)).1 (shF u_3.2.2.2.2.2.1 nu w u_3.1 u_3.2.1 0 u_3.2.2.2.1 (0, 0)).2)]))] := hD.sub [0, 6, 7, 8, 1, 2, 3, 4, 5, 9] rfl rfl
    have hsh : shF u_3.2.2.2.2.2.1 nu w u_3.1 u_3.2.1 0 u_3.2.2.2.1 (0, 0) = shF u_3.2.2.2.2.2.1 nu w ri (ri + ro) 0 u_3.2.2.2.1 (0, 0) := by rw [hk1, hk2]
    rw [hsh] at hP hD
    exact ret dX3_toldShare_29 u_3 (⟨hf1, hok⟩) hP hD hS
  · skip
    have c_1 := (nI_eq (by omega) (by omega)).mp c_1
    omega
set_option maxHeartbeats 4000000 in
set_option maxRecDepth 100000 in
theorem c_X3_toldShare3 (l : Launch) (g : Gt) (e0 : Nat) (bi : Nat) (bo : Nat) (bw : Nat) (al : Nat) (ah : Nat) (az : Nat) (r0 : Nat) (s0 : Nat) (ac : Nat) (h9 : Nat) (rn : Nat) (rp : Nat) (ri : Nat) (ro : Nat) (nu : Nat → Int32) (pt : Nat → Int32) (w : Nat) (hw : w < 12) (hri : ri ≤ 2) (hro : ro ≤ 2) : CR l yX3_toldShare wsX3_toldShare { frames := 3, cells := 1, slots := 2, locals := 88 } g [.ref (e0), .int (nI 3), .int (nI w)] [(e0, .inr (3, [.int (nI bi), .int (nI bo), .int (nI bw), .ref (al), .ref (ah), .ref (az), .ref (r0), .ref (s0), .ref (ac), .ref (h9)])), (r0, .inr (2, [.int (nI ri), .int (nI ro), .ref (rn), .ref (rp)])), (rn, aI g 48 nu), (rp, aZ g 12 pt)] (fun (zu : Unit) => True) (fun (zu : Unit) za => [(e0, .inr (3, [.int (nI bi), .int (nI bo), .int (nI bw), .ref (al), .ref (ah), .ref (az), .ref (r0), .ref (s0), .ref (ac), .ref (h9)])), (r0, .inr (2, [.int (nI ri), .int (nI ro), .ref (rn), .ref (rp)])), (rn, aI g 48 nu), (rp, aZ g 12 pt), (za, .inr (1, [.long (frT (sbO nu pt ri ro w 0 12 (0, 0)).1 (sbO nu pt ri ro w 0 12 (0, 0)).2), .long (frB (sbO nu pt ri ro w 0 12 (0, 0)).1 (sbO nu pt ri ro w 0 12 (0, 0)).2)]))]) 1 2 := by
  refine ent_r (cc := cX3_toldShare) (maxL := 3) (by decide) rfl (Nat.le_of_ble_eq_true rfl) ?_
  intro p e s m below meth c A args Q hE ret ls hl
  obtain ⟨hx, hb, hml, hown, hts, hnm, hA, hP, hD, hK, hN⟩ := hE
  have hS : va_S A s.heap s.heap [] := va_S.rf
  have hl : lv_has ls 3 [(0, .ref (e0)), (1, .int (nI 3)), (2, .int (nI w))] := hl
  have hP : va_P g.1 vwCl [(e0, .inr (3, [.int (nI bi), .int (nI bo), .int (nI bw), .ref (al), .ref (ah), .ref (az), .ref (r0), .ref (s0), .ref (ac), .ref (h9)])), (r0, .inr (2, [.int (nI ri), .int (nI ro), .ref (rn), .ref (rp)])), (rn, aI g 48 nu), (rp, aZ g 12 pt)] s.heap := hP
  refine lv_iload_n hx hb dX3_toldShare_0 rfl (lv_at hl 1 rfl) ?_
  refine lv_iconst (v := nI 3) hx hb dX3_toldShare_1 (by decide) ?_
  refine lv_icmp_ne (tgt := 16) hx hb dX3_toldShare_2 (by decide) (fun c_1 => ?_) (fun c_1 => ?_)
  · skip
    have c_1 := mt (nI_eq (by omega) (by omega)).mpr c_1
    omega
  · skip
    have c_1 := (nI_eq (by omega) (by omega)).mp c_1
    refine lv_aload_n hx hb dX3_toldShare_5 rfl (lv_at hl 0 rfl) ?_
    refine k_get hx hb hts hown hK hP iw_X3_toldShare_X3 rfl 0 6 fm_X3_toldShare_23 (by decide) rfl rfl dX3_toldShare_6 ?_
    refine lv_iload_n hx hb dX3_toldShare_9 rfl (lv_at hl 2 rfl) ?_
    refine go_r (wc := [(r0, .inr (2, [.int (nI ri), .int (nI ro), .ref (rn), .ref (rp)])), (rn, aI g 48 nu), (rp, aZ g 12 pt)]) (wr := [(e0, .inr (3, [.int (nI bi), .int (nI bo), .int (nI bw), .ref (al), .ref (ah), .ref (az), .ref (r0), .ref (s0), .ref (ac), .ref (h9)]))]) hP hD hS hA [1, 2, 3] [0] rfl rfl rfl rfl (by decide) (fun hPc hDc => rn_VN (As := [.int (nI w)]) (rest := []) ⟨hx, hb, hml, hown, hts⟩ ((c_X2_shareByOne l g r0 rn rp ri ro nu pt w (by omega) (by omega) (by omega)) _) (⟨va_cnB 1 hts gX3_toldShare_X2_shareByOne_n191 rfl rfl rfl (hN.2 _ (List.mem_of_getElem? (i := 5) rfl)) (hts _ (by decide +kernel)) (by decide +kernel) ⟨Nat.le_of_ble_eq_true rfl, Nat.le_of_ble_eq_true rfl⟩, hts _ (by decide +kernel), hts _ (by decide +kernel)⟩) hK hN hPc hDc 0 rfl rfl rfl rfl hl.1 (Nat.le_of_ble_eq_true rfl) dX3_toldShare_10 ⟨Nat.le_of_ble_eq_true rfl, Nat.le_of_ble_eq_true rfl⟩) ?_
    intro u_3 r_2 H locs h_4 hP hD hS
    have hP : va_P g.1 vwCl [(e0, .inr (3, [.int (nI bi), .int (nI bo), .int (nI bw), .ref (al), .ref (ah), .ref (az), .ref (r0), .ref (s0), .ref (ac), .ref (h9)])), (r0, .inr (2, [.int (nI ri), .int (nI ro), .ref (rn), .ref (rp)])), (rn, aI g 48 nu), (rp, aZ g 12 pt), (r_2, .inr (1, [.long (frT (sbO nu pt ri ro w 0 12 (0, 0)).1 (sbO nu pt ri ro w 0 12 (0, 0)).2), .long (frB (sbO nu pt ri ro w 0 12 (0, 0)).1 (sbO nu pt ri ro w 0 12 (0, 0)).2)]))] H := hP.sub [0, 1, 2, 3, 4] rfl
    have hD : va_D A [(e0, .inr (3, [.int (nI bi), .int (nI bo), .int (nI bw), .ref (al), .ref (ah), .ref (az), .ref (r0), .ref (s0), .ref (ac), .ref (h9)])), (r0, .inr (2, [.int (nI ri), .int (nI ro), .ref (rn), .ref (rp)])), (rn, aI g 48 nu), (rp, aZ g 12 pt), (r_2, .inr (1, [.long (frT (sbO nu pt ri ro w 0 12 (0, 0)).1 (sbO nu pt ri ro w 0 12 (0, 0)).2), .long (frB (sbO nu pt ri ro w 0 12 (0, 0)).1 (sbO nu pt ri ro w 0 12 (0, 0)).2)]))] := hD.sub [0, 1, 2, 3, 4] rfl rfl
    refine lv_goto (tgt := 29) hx hb dX3_toldShare_13 (by decide) ?_
    exact ret dX3_toldShare_29 () (trivial) hP hD hS
