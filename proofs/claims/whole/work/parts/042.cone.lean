abbrev CS : Type := Nat × (Nat → Int64) × (Nat → Int32)
def axL (m pl : Nat) (len : Int32) (ray : Nat → Int64) : Nat → Int64 := pL ray (m * 5) (fun k => if k = pl then len.toInt64 else 0) 5
def mvL (t fm tt : Nat) (ray : Nat → Int64) : Nat → Int64 := pL ray (tt * 5) (fun k => ray (fm * 5 + k)) (t + 1)
def swL (ray : Nat → Int64) (a b k : Nat) : Nat → Int64 := fun j => if a ≤ j ∧ j < a + k then ray (b + (j - a)) else if b ≤ j ∧ j < b + k then ray (a + (j - b)) else ray j
theorem swL_0 (ray : Nat → Int64) (a b : Nat) : swL ray a b 0 = ray := by
  funext j
  unfold swL
  rw [if_neg (by omega), if_neg (by omega)]
theorem swL_a {ray : Nat → Int64} {a b k : Nat} (h : a + 5 ≤ b ∨ b + 5 ≤ a) (hk : k ≤ 4) : swL ray a b k (a + k) = ray (a + k) := by
  unfold swL
  rw [if_neg (by omega), if_neg (by omega)]
theorem swL_b {ray : Nat → Int64} {a b k : Nat} (h : a + 5 ≤ b ∨ b + 5 ≤ a) (hk : k ≤ 4) : swL ray a b k (b + k) = ray (b + k) := by
  unfold swL
  rw [if_neg (by omega), if_neg (by omega)]
theorem swL_succ {ray : Nat → Int64} {a b k : Nat} (h : a + 5 ≤ b ∨ b + 5 ≤ a) (hk : k ≤ 4) : vp_updL (vp_updL (swL ray a b k) (a + k) (ray (b + k))) (b + k) (ray (a + k)) = swL ray a b (k + 1) := by
  funext j
  unfold vp_updL swL
  by_cases h1 : j = b + k
  · subst h1
    rw [if_pos rfl, if_neg (by omega), if_pos (by omega), show a + (b + k - b) = a + k by omega]
  · rw [if_neg h1]
    by_cases h2 : j = a + k
    · subst h2
      rw [if_pos rfl, if_pos (by omega), show b + (a + k - a) = b + k by omega]
    · rw [if_neg h2]
      by_cases h3 : a ≤ j ∧ j < a + k
      · rw [if_pos h3, if_pos (by omega)]
      · rw [if_neg h3, if_neg (show ¬ (a ≤ j ∧ j < a + (k + 1)) by omega)]
        by_cases h4 : b ≤ j ∧ j < b + k
        · rw [if_pos h4, if_pos (by omega)]
        · rw [if_neg h4, if_neg (by omega)]
def befB (ray : Nat → Int64) (a b i : Nat) : Nat → Bool
  | 0 => false
  | n + 1 => if ray (a + i) - ray (b + i) = 0 then befB ray a b (i + 1) n else decide (0 < ray (a + i) - ray (b + i))
def swT (tg : Nat → Int32) (a b : Nat) : Nat → Int32 := upd (upd tg a (tg b)) b (tg a)
def srI (t : Nat) : Nat → (Nat → Int64) × (Nat → Int32) → (Nat → Int64) × (Nat → Int32)
  | 0, st => st
  | r + 1, st => if befB st.1 ((r + 1) * 5) (r * 5) 0 (t + 1) = true then srI t r (swL st.1 ((r + 1) * 5) (r * 5) (t + 1), swT st.2 (r + 1) r) else st
def srO (t i : Nat) : Nat → (Nat → Int64) × (Nat → Int32) → (Nat → Int64) × (Nat → Int32)
  | 0, st => st
  | n + 1, st => srO t (i + 1) n (srI t i st)
def bcnt (x : Int32) : Int32 :=
  let us := fun (x : Int32) (k : Nat) => (x.toUInt32 >>> ((nI k).toUInt32 &&& Int32.toUInt32 31)).toInt32
  let a := x - (us x 1 &&& 1431655765)
  let b := (a &&& 858993459) + (us a 2 &&& 858993459)
  let c := (b + us b 4) &&& 252645135
  let d := c + us c 8
  let e := d + us d 16
  e &&& nI 63
def nbL (tg : Nat → Int32) (sh : Int32) (o1 o2 i : Nat) : Nat → Bool
  | 0 => true
  | n + 1 => if ¬ i = o1 ∧ ¬ i = o2 ∧ tg i &&& sh = sh then false else nbL tg sh o1 o2 (i + 1) n
def nbB (tg : Nat → Int32) (kf o1 o2 old : Nat) : Bool := if nI kf ≤ bcnt (tg o1 &&& tg o2) then nbL tg (tg o1 &&& tg o2) o1 o2 0 old else false
def jnG (ray sl : Nat → Int64) (w b k : Nat) : Int64 := sl w * ray (b * 5 + k) - sl b * ray (w * 5 + k)
def jnD (F : Nat → Int64) (i : Nat) : Nat → Int64 → Int64
  | 0, d => d
  | n + 1, d => jnD F (i + 1) n (gcdL (absL d) (absL (F i)) 100)
def jnR (t : Nat) (ray sl : Nat → Int64) (w b k : Nat) : Int64 := dvL (jnG ray sl w b k) (jnD (jnG ray sl w b) 0 (t + 1) 0)
def jnS (t : Nat) (sl : Nat → Int64) (bd : Int32) (w b : Nat) (st : CS) : CS := if st.1 < 144 then (st.1 + 1, pL st.2.1 (st.1 * 5) (jnR t st.2.1 sl w b) (t + 1), upd st.2.2 st.1 ((st.2.2 w &&& st.2.2 b) ||| bd)) else st
theorem pL_pL (f : Nat → Int64) (a : Nat) (F G : Nat → Int64) (n : Nat) : pL (pL f a F n) a G n = pL f a G n := by
  funext j
  unfold pL
  by_cases h : a ≤ j ∧ j < a + n
  · rw [if_pos h, if_pos h]
  · rw [if_neg h, if_neg h, if_neg h]
theorem pL_cg {f : Nat → Int64} {a : Nat} {F G : Nat → Int64} {n : Nat} (h : ∀ k, k < n → F k = G k) : pL f a F n = pL f a G n := by
  funext j
  unfold pL
  by_cases q : a ≤ j ∧ j < a + n
  · rw [if_pos q, if_pos q, h _ (by omega)]
  · rw [if_neg q, if_neg q]
def slk (ray : Nat → Int64) (nu : Nat → Int32) (w ki kt r : Nat) : Int64 := insW ray nu r w ki - outsW ray nu r w kt ki (kt - ki)
def ctI (t kf : Nat) (sl : Nat → Int64) (bd : Int32) (old v i : Nat) : Nat → CS → CS
  | 0, st => st
  | n + 1, st => ctI t kf sl bd old v (i + 1) n (if sl i < 0 ∧ nbB st.2.2 kf v i old = true then jnS t sl bd v i st else st)
def ctO (t kf : Nat) (sl : Nat → Int64) (bd : Int32) (old v : Nat) : Nat → CS → CS
  | 0, st => st
  | n + 1, st => ctO t kf sl bd old (v + 1) n (if 0 < sl v then ctI t kf sl bd old v 0 old st else st)
def cmT (sl : Nat → Int64) (bd : Int32) (old r : Nat) (tg : Nat → Int32) : Nat → Int32 := if r < old ∧ sl r = 0 then upd tg r (tg r ||| bd) else tg
def cmS (t : Nat) (sl : Nat → Int64) (bd : Int32) (old r : Nat) (st : CS) : CS := if r < old ∧ sl r < 0 then st else (st.1 + 1, mvL t r st.1 st.2.1, upd (cmT sl bd old r st.2.2) st.1 (cmT sl bd old r st.2.2 r))
def cmL (t : Nat) (sl : Nat → Int64) (bd : Int32) (old r : Nat) : Nat → CS → CS
  | 0, st => st
  | n + 1, st => cmL t sl bd old (r + 1) n (cmS t sl bd old r st)
def bdW (w : Nat) : Int32 := nI 1 <<< (nI (5 + w) &&& 31)
def cutF (nu : Nat → Int32) (w ki kt kf : Nat) (sl : Nat → Int64) (st : CS) : CS :=
  cmL kt sl (bdW w) st.1 0 (ctO kt kf sl (bdW w) st.1 0 st.1 st).1 (0, (ctO kt kf sl (bdW w) st.1 0 st.1 st).2)
theorem jnS_le {t : Nat} {sl : Nat → Int64} {bd : Int32} {w b : Nat} {st : CS} (h : st.1 ≤ 144) : (jnS t sl bd w b st).1 ≤ 144 ∧ st.1 ≤ (jnS t sl bd w b st).1 := by
  unfold jnS
  split
  · exact ⟨by show st.1 + 1 ≤ 144; omega, by show st.1 ≤ st.1 + 1; omega⟩
  · exact ⟨h, Nat.le_refl _⟩
def shF (ray : Nat → Int64) (nu : Nat → Int32) (w ki kt i : Nat) : Nat → Int64 × Int64 → Int64 × Int64
  | 0, tb => tb
  | n + 1, tb => if insW ray nu i w ki = 0 ∧ 0 < outsW ray nu i w kt ki (kt - ki) then (0, 0) else shF ray nu w ki kt (i + 1) n (if 0 < insW ray nu i w ki ∧ (tb.2 = 0 ∨ tb.1 * insW ray nu i w ki < outsW ray nu i w kt ki (kt - ki) * tb.2) then (outsW ray nu i w kt ki (kt - ki), insW ray nu i w ki) else tb)
def bstB (ray : Nat → Int64) (nu : Nat → Int32) (w ki kt : Nat) (x0 x1 : Int64) (r : Nat) : Bool := decide (outsW ray nu r w kt ki (kt - ki) * x1 = insW ray nu r w ki * x0)
def wtM (ray : Nat → Int64) (tg : Nat → Int32) (nu : Nat → Int32) (w ki kt : Nat) (x0 x1 : Int64) (i : Nat) : Nat → Int32 → Int32
  | 0, v => v
  | n + 1, v => wtM ray tg nu w ki kt x0 x1 (i + 1) n (if bstB ray nu w ki kt x0 x1 i = true then v ||| (tg i ^^^ -1) else v)
def axM (t : Nat) : Int32 := (nI 1 <<< (nI t &&& 31)) - nI 1
def twB (ray : Nat → Int64) (tg : Nat → Int32) (nu : Nat → Int32) (w ki kt : Nat) (x0 x1 : Int64) (bd : Int32) (i : Nat) : Nat → Bool
  | 0 => true
  | n + 1 => if tg i &&& bd = 0 ∧ bstB ray nu w ki kt x0 x1 i = true then false else twB ray tg nu w ki kt x0 x1 bd (i + 1) n
def bgV (nu : Nat → Int32) (fo : Option Nat) (i : Nat) : Int32 := match fo with
  | none => nI 0
  | some q => nu (q * 4 + i)
/-- begin: one axis -/
def bgS (nu : Nat → Int32) (fo : Option Nat) (ki kt : Nat) (lb : Int32) (i : Nat) (st : CS) : CS :=
  (st.1 + 1, vp_updL (axL st.1 i (nI 1) st.2.1) (st.1 * 5 + kt) (if i < ki then (bgV nu fo i).toInt64 else (-(bgV nu fo i)).toInt64), upd st.2.2 st.1 ((axM kt &&& ((nI 1 <<< (nI i &&& 31)) ^^^ -1)) ||| lb))
def bgL (nu : Nat → Int32) (fo : Option Nat) (ki kt : Nat) (lb : Int32) (i : Nat) : Nat → CS → CS
  | 0, st => st
  | n + 1, st => bgL nu fo ki kt lb (i + 1) n (bgS nu fo ki kt lb i st)
def bgF (nu pt : Nat → Int32) (v ki kt : Nat) (st : CS) : CS :=
  let lb := if v = 1 then nI 1 <<< (nI kt &&& 31) else nI 0
  let fo := if v = 2 then fstP pt 0 12 else none
  let s1 := bgL nu fo ki kt lb 0 kt (0, st.2)
  if v = 0 then s1 else (s1.1 + 1, axL s1.1 kt (-1) s1.2.1, upd s1.2.2 s1.1 (axM kt))
/-- build: the cuts, work by work; the slack row goes with it -/
def bdL (nu pt : Nat → Int32) (ki kt kf w : Nat) : Nat → CS × (Nat → Int64) → CS × (Nat → Int64)
  | 0, q => q
  | n + 1, q => bdL nu pt ki kt kf (w + 1) n (if pt w = 0 then q else (cutF nu w ki kt kf (pL q.2 0 (slk q.1.2.1 nu w ki kt) q.1.1) q.1, pL q.2 0 (slk q.1.2.1 nu w ki kt) q.1.1))
def bdK (v kt : Nat) : Nat := (if v = 0 then kt else kt + 1) - 2
def bdQ (nu pt : Nat → Int32) (v ki kt : Nat) (ray : Nat → Int64) (tg : Nat → Int32) (sl : Nat → Int64) (km : Nat) : CS × (Nat → Int64) := bdL nu pt ki kt (bdK v kt) 0 12 (bgF nu pt v ki kt (km, ray, tg), sl)
theorem oI_ne {fo : Option Nat} (h : ¬ oI fo = -1) : ∃ q, fo = some q := by
  cases fo with
  | none => exact absurd rfl h
  | some q => exact ⟨q, rfl⟩
theorem fstP_lt {pt : Nat → Int32} : ∀ {n i q : Nat}, fstP pt i n = some q → q < i + n ∧ i ≤ q ∧ ¬ pt q = 0
  | 0, _, _, h => by simp [fstP] at h
  | n + 1, i, q, h => by
    rw [fstP] at h
    split at h
    · have := fstP_lt h
      exact ⟨by omega, by omega, this.2.2⟩
    · rename_i hc
      cases h
      exact ⟨by omega, by omega, hc⟩
theorem oI_no {fo : Option Nat} (h12 : ∀ q, fo = some q → q < 12) (h : oI fo = -1) : fo = none := by
  cases fo with
  | none => rfl
  | some q =>
    have h1 := h12 q rfl
    have h2 : (nI q).toInt = (-1 : Int32).toInt := congrArg Int32.toInt h
    rw [nI_toInt (by omega)] at h2
    have h3 : (-1 : Int32).toInt = -1 := by decide
    omega
theorem iw_X0_outsWeighed_X0 : ∀ w ∈ wsX00, w ∈ wsX0_outsWeighed := by decide +kernel
theorem fm_X0_outsWeighed_11 : Cond.fieldLink RX0 11 "EdgeBench$Cone" "ray" "[J" ∈ wsX0_outsWeighed := by decide +kernel
theorem fm_X0_outsWeighed_32 : Cond.fieldLink RX0 32 "EdgeBench$Cone" "things" "I" ∈ wsX0_outsWeighed := by decide +kernel
theorem fm_X0_outsWeighed_28 : Cond.fieldLink RX0 28 "EdgeBench$Cone" "ins" "I" ∈ wsX0_outsWeighed := by decide +kernel
set_option maxHeartbeats 4000000 in
set_option maxRecDepth 100000 in
theorem c_X0_outsWeighed (l : Launch) (g : Gt) (h0 : Nat) (h5 : Nat) (h6 : Nat) (h7 : Nat) (ki : Nat) (kt : Nat) (kf : Nat) (km : Nat) (fr : Int32) (ray : Nat → Int64) (tg : Nat → Int32) (sl : Nat → Int64) (r0 : Nat) (rn : Nat) (rp : Nat) (ri : Nat) (ro : Nat) (nu : Nat → Int32) (pt : Nat → Int32) (r : Nat) (w : Nat) (hr : r < 144) (hw : w < 12) (hi : ki ≤ kt) (ht : kt ≤ 4) : CL l yX0_outsWeighed wsX0_outsWeighed { frames := 1, cells := 0, slots := 0, locals := 22 } g [.ref (h0), .int (nI r), .ref (r0), .int (nI w)] [(h0, .inr (0, [.int (nI ki), .int (nI kt), .int (nI kf), .int (nI km), .int (fr), .ref (h5), .ref (h6), .ref (h7)])), (h5, aJ g 720 ray), (h6, aI g 144 tg), (h7, aJ g 144 sl), (r0, .inr (2, [.int (nI ri), .int (nI ro), .ref (rn), .ref (rp)])), (rn, aI g 48 nu), (rp, aZ g 12 pt)] (fun zr (zu : Unit) => zr = outsW ray nu r w kt ki (kt - ki)) (fun (zu : Unit) => [(h0, .inr (0, [.int (nI ki), .int (nI kt), .int (nI kf), .int (nI km), .int (fr), .ref (h5), .ref (h6), .ref (h7)])), (h5, aJ g 720 ray), (h6, aI g 144 tg), (h7, aJ g 144 sl), (r0, .inr (2, [.int (nI ri), .int (nI ro), .ref (rn), .ref (rp)])), (rn, aI g 48 nu), (rp, aZ g 12 pt)]) 0 0 := by
  refine ent_l (cc := cX0_outsWeighed) (maxL := 7) (by decide) rfl (Nat.le_of_ble_eq_true rfl) ?_
  intro p e s m below meth c A args Q hE ret ls hl
  obtain ⟨hx, hb, hml, hown, hts, hnm, hA, hP, hD, hK, hN⟩ := hE
  have hS : va_S A s.heap s.heap [] := va_S.rf
  have hl : lv_has ls 7 [(0, .ref (h0)), (1, .int (nI r)), (2, .ref (r0)), (3, .int (nI w))] := hl
  have hP : va_P g.1 vwCl [(h0, .inr (0, [.int (nI ki), .int (nI kt), .int (nI kf), .int (nI km), .int (fr), .ref (h5), .ref (h6), .ref (h7)])), (h5, aJ g 720 ray), (h6, aI g 144 tg), (h7, aJ g 144 sl), (r0, .inr (2, [.int (nI ri), .int (nI ro), .ref (rn), .ref (rp)])), (rn, aI g 48 nu), (rp, aZ g 12 pt)] s.heap := hP
  refine lv_aload_n hx hb dX0_outsWeighed_0 rfl (lv_at hl 0 rfl) ?_
  refine k_get hx hb hts hown hK hP iw_X0_outsWeighed_X0 rfl 0 5 fm_X0_outsWeighed_11 (by decide) rfl rfl dX0_outsWeighed_1 ?_
  refine lv_iload_n hx hb dX0_outsWeighed_4 rfl (lv_at hl 1 rfl) ?_
  refine lv_iconst (v := nI 5) hx hb dX0_outsWeighed_5 (by decide) ?_
  refine lv_imul hx hb dX0_outsWeighed_6 ?_
  refine k_ei (y := nI (r * 5)) (pk_mul _ _) ?_
  refine lv_aload_n hx hb dX0_outsWeighed_7 rfl (lv_at hl 0 rfl) ?_
  refine k_get hx hb hts hown hK hP iw_X0_outsWeighed_X0 rfl 0 1 fm_X0_outsWeighed_32 (by decide) rfl rfl dX0_outsWeighed_8 ?_
  refine lv_iadd hx hb dX0_outsWeighed_11 ?_
  refine k_ei (y := nI (r * 5 + kt)) (nI_add _ _) ?_
  refine k_lald hx hb hK hP 1 rfl (by omega) (by omega) dX0_outsWeighed_12 ?_
  refine lv_lstore (lv' := [(4, .long (ray (r * 5 + kt))), (0, .ref (h0)), (1, .int (nI r)), (2, .ref (r0)), (3, .int (nI w))]) hx hb dX0_outsWeighed_13 hl (by decide) rfl (fun ls hl => ?_)
  refine lv_aload_n hx hb dX0_outsWeighed_15 rfl (lv_at hl 1 rfl) ?_
  refine k_get hx hb hts hown hK hP iw_X0_outsWeighed_X0 rfl 0 0 fm_X0_outsWeighed_28 (by decide) rfl rfl dX0_outsWeighed_16 ?_
  refine lv_istore (lv' := [(6, .int (nI ki)), (4, .long (ray (r * 5 + kt))), (0, .ref (h0)), (1, .int (nI r)), (2, .ref (r0)), (3, .int (nI w))]) hx hb dX0_outsWeighed_19 hl (by decide) rfl (fun ls hl => ?_)
  have lp_21 : ∀ (n : Nat) (j : Nat), kt - (ki + j) < n → ki + j ≤ kt → ∀ (H : Heap) (locs : List Loc), va_P g.1 vwCl [(h0, .inr (0, [.int (nI ki), .int (nI kt), .int (nI kf), .int (nI km), .int (fr), .ref (h5), .ref (h6), .ref (h7)])), (h5, aJ g 720 ray), (h6, aI g 144 tg), (h7, aJ g 144 sl), (r0, .inr (2, [.int (nI ri), .int (nI ro), .ref (rn), .ref (rp)])), (rn, aI g 48 nu), (rp, aZ g 12 pt)] H → va_D A [(h0, .inr (0, [.int (nI ki), .int (nI kt), .int (nI kf), .int (nI km), .int (fr), .ref (h5), .ref (h6), .ref (h7)])), (h5, aJ g 720 ray), (h6, aI g 144 tg), (h7, aJ g 144 sl), (r0, .inr (2, [.int (nI ri), .int (nI ro), .ref (rn), .ref (rp)])), (rn, aI g 48 nu), (rp, aZ g 12 pt)] → va_S A s.heap H locs → ∀ ls : Array Slot, lv_has ls 7 [(0, .ref (h0)), (1, .int (nI r)), (2, .ref (r0)), (3, .int (nI w)), (4, .long (outsW ray nu r w kt ki j)), (6, .int (nI (ki + j)))] → W p l e { frames := 1, cells := 0, slots := 0, locals := 22 } s m args below meth c H locs 0 0 Q (F0 m 21 ls []) := by
    intro n
    induction n with
    | zero =>
      intro j hms
      omega
    | succ n ih_21 =>
      intro j hms_21 hj H locs hP hD hS ls hl
      refine lv_iload hx hb dX0_outsWeighed_21 (lv_at hl 5 rfl) ?_
      refine lv_aload_n hx hb dX0_outsWeighed_23 rfl (lv_at hl 0 rfl) ?_
      refine k_get hx hb hts hown hK hP iw_X0_outsWeighed_X0 rfl 0 1 fm_X0_outsWeighed_32 (by decide) rfl rfl dX0_outsWeighed_24 ?_
      refine lv_icmp_ge (tgt := 61) hx hb dX0_outsWeighed_27 (by decide) (fun c_1 => ?_) (fun c_1 => ?_)
      · skip
        have c_1 := (nI_leI (by omega) (by omega)).mp c_1
        refine lv_lload hx hb dX0_outsWeighed_61 (lv_at hl 4 rfl) ?_
        exact ret dX0_outsWeighed_63 () (by rw [show j = kt - ki by omega]) hP hD hS
      · skip
        have c_1 := mt (nI_leI (by omega) (by omega)).mpr c_1
        refine lv_lload hx hb dX0_outsWeighed_30 (lv_at hl 4 rfl) ?_
        refine lv_aload_n hx hb dX0_outsWeighed_32 rfl (lv_at hl 0 rfl) ?_
        refine k_get hx hb hts hown hK hP iw_X0_outsWeighed_X0 rfl 0 5 fm_X0_outsWeighed_11 (by decide) rfl rfl dX0_outsWeighed_33 ?_
        refine lv_iload_n hx hb dX0_outsWeighed_36 rfl (lv_at hl 1 rfl) ?_
        refine lv_iconst (v := nI 5) hx hb dX0_outsWeighed_37 (by decide) ?_
        refine lv_imul hx hb dX0_outsWeighed_38 ?_
        refine k_ei (y := nI (r * 5)) (pk_mul _ _) ?_
        refine lv_iload hx hb dX0_outsWeighed_39 (lv_at hl 5 rfl) ?_
        refine lv_iadd hx hb dX0_outsWeighed_41 ?_
        refine k_ei (y := nI (r * 5 + (ki + j))) (nI_add _ _) ?_
        refine k_lald hx hb hK hP 1 rfl (by omega) (by omega) dX0_outsWeighed_42 ?_
        refine lv_aload_n hx hb dX0_outsWeighed_43 rfl (lv_at hl 2 rfl) ?_
        refine lv_iload_n hx hb dX0_outsWeighed_44 rfl (lv_at hl 3 rfl) ?_
        refine lv_iload hx hb dX0_outsWeighed_45 (lv_at hl 5 rfl) ?_
        refine go_i (wc := [(r0, .inr (2, [.int (nI ri), .int (nI ro), .ref (rn), .ref (rp)])), (rn, aI g 48 nu), (rp, aZ g 12 pt)]) (wr := [(h0, .inr (0, [.int (nI ki), .int (nI kt), .int (nI kf), .int (nI km), .int (fr), .ref (h5), .ref (h6), .ref (h7)])), (h5, aJ g 720 ray), (h6, aI g 144 tg), (h7, aJ g 144 sl)]) hP hD hS hA [4, 5, 6] [0, 1, 2, 3] rfl rfl rfl rfl (by decide) (fun hPc hDc => rn_VN (As := [.int (nI w), .int (nI (ki + j))]) (rest := [.long (ray (r * 5 + (ki + j))), .long (outsW ray nu r w kt ki j)]) ⟨hx, hb, hml, hown, hts⟩ ((c_X2_of l g r0 rn rp ri ro nu pt w (ki + j) (by omega) (by omega)) _) (⟨va_cnB 2 hts gX0_outsWeighed_X2_of_n59 rfl rfl rfl (hN.2 _ (List.mem_of_getElem? (i := 10) rfl)) (hts _ (by decide +kernel)) (by decide +kernel) ⟨Nat.le_of_ble_eq_true rfl, Nat.le_of_ble_eq_true rfl⟩, hts _ (by decide +kernel), hts _ (by decide +kernel)⟩) hK hN hPc hDc 0 rfl rfl rfl rfl hl.1 (Nat.le_of_ble_eq_true rfl) dX0_outsWeighed_47 ⟨Nat.le_of_ble_eq_true rfl, Nat.le_of_ble_eq_true rfl⟩) ?_
        intro r_2 u_3 H locs h_4 hP hD hS
        have hP : va_P g.1 vwCl [(h0, .inr (0, [.int (nI ki), .int (nI kt), .int (nI kf), .int (nI km), .int (fr), .ref (h5), .ref (h6), .ref (h7)])), (h5, aJ g 720 ray), (h6, aI g 144 tg), (h7, aJ g 144 sl), (r0, .inr (2, [.int (nI ri), .int (nI ro), .ref (rn), .ref (rp)])), (rn, aI g 48 nu), (rp, aZ g 12 pt)] H := hP.sub [0, 1, 2, 3, 4, 5, 6] rfl
        have hD : va_D A [(h0, .inr (0, [.int (nI ki), .int (nI kt), .int (nI kf), .int (nI km), .int (fr), .ref (h5), .ref (h6), .ref (h7)])), (h5, aJ g 720 ray), (h6, aI g 144 tg), (h7, aJ g 144 sl), (r0, .inr (2, [.int (nI ri), .int (nI ro), .ref (rn), .ref (rp)])), (rn, aI g 48 nu), (rp, aZ g 12 pt)] := hD.sub [0, 1, 2, 3, 4, 5, 6] rfl rfl
        have h_4 : r_2 = nu (w * 4 + (ki + j)) := h_4
        subst h_4
        refine lv_i2l hx hb dX0_outsWeighed_50 rfl ?_
        refine lv_lmul hx hb dX0_outsWeighed_51 ?_
        refine lv_ladd hx hb dX0_outsWeighed_52 ?_
        refine lv_lstore (lv' := [(4, .long ((outsW ray nu r w kt ki j) + ((ray (r * 5 + (ki + j))) * ((nu (w * 4 + (ki + j))).toInt64)))), (0, .ref (h0)), (1, .int (nI r)), (2, .ref (r0)), (3, .int (nI w)), (6, .int (nI (ki + j)))]) hx hb dX0_outsWeighed_53 hl (by decide) rfl (fun ls hl => ?_)
        refine lv_iinc (v := nI (ki + j + 1)) (lv' := [(6, .int (nI (ki + j + 1))), (4, .long ((outsW ray nu r w kt ki j) + ((ray (r * 5 + (ki + j))) * ((nu (w * 4 + (ki + j))).toInt64)))), (0, .ref (h0)), (1, .int (nI r)), (2, .ref (r0)), (3, .int (nI w))]) hx hb dX0_outsWeighed_55 hl (k := 5) rfl (nI_inc1 (ki + j)) (by decide) rfl (fun ls hl => ?_)
        refine lv_goto (tgt := 21) hx hb dX0_outsWeighed_58 (by decide) ?_
        exact ih_21 (j + 1) (by omega) (by omega) _ _ hP hD hS ls (lv_sub hl [2, 3, 4, 5, 1, 0] rfl)
  exact lp_21 (kt - (ki + 0) + 1) 0 (by omega) (by omega) _ _ hP hD hS ls (lv_sub hl [2, 3, 4, 5, 1, 0] rfl)
theorem iw_X0_addAxis_X0 : ∀ w ∈ wsX00, w ∈ wsX0_addAxis := by decide +kernel
theorem fm_X0_addAxis_15 : Cond.fieldLink RX0 15 "EdgeBench$Cone" "tight" "[I" ∈ wsX0_addAxis := by decide +kernel
theorem fm_X0_addAxis_56 : Cond.fieldLink RX0 56 "EdgeBench$Cone" "many" "I" ∈ wsX0_addAxis := by decide +kernel
theorem fm_X0_addAxis_11 : Cond.fieldLink RX0 11 "EdgeBench$Cone" "ray" "[J" ∈ wsX0_addAxis := by decide +kernel
set_option maxHeartbeats 4000000 in
set_option maxRecDepth 100000 in
theorem c_X0_addAxis (l : Launch) (g : Gt) (h0 : Nat) (h5 : Nat) (h6 : Nat) (h7 : Nat) (ki : Nat) (kt : Nat) (kf : Nat) (km : Nat) (fr : Int32) (ray : Nat → Int64) (tg : Nat → Int32) (sl : Nat → Int64) (pl : Nat) (len : Int32) (bd : Int32) (hm : km < 144) (hpl : pl < 5) : CV l yX0_addAxis wsX0_addAxis { frames := 0, cells := 0, slots := 0, locals := 0 } g [.ref (h0), .int (nI pl), .int (len), .int (bd)] [(h0, .inr (0, [.int (nI ki), .int (nI kt), .int (nI kf), .int (nI km), .int (fr), .ref (h5), .ref (h6), .ref (h7)])), (h5, aJ g 720 ray), (h6, aI g 144 tg), (h7, aJ g 144 sl)] (fun (zu : Unit) => True) (fun (zu : Unit) => [(h0, .inr (0, [.int (nI ki), .int (nI kt), .int (nI kf), .int (nI (km + 1)), .int (fr), .ref (h5), .ref (h6), .ref (h7)])), (h5, aJ g 720 (axL km pl len ray)), (h6, aI g 144 (upd tg km bd)), (h7, aJ g 144 sl)]) 0 0 := by
  refine ent_v (cc := cX0_addAxis) (maxL := 5) (by decide) rfl (Nat.le_of_ble_eq_true rfl) ?_
  intro p e s m below meth c A args Q hE ret ls hl
  obtain ⟨hx, hb, hml, hown, hts, hnm, hA, hP, hD, hK, hN⟩ := hE
  have hS : va_S A s.heap s.heap [] := va_S.rf
  have hl : lv_has ls 5 [(0, .ref (h0)), (1, .int (nI pl)), (2, .int (len)), (3, .int (bd))] := hl
  have hP : va_P g.1 vwCl [(h0, .inr (0, [.int (nI ki), .int (nI kt), .int (nI kf), .int (nI km), .int (fr), .ref (h5), .ref (h6), .ref (h7)])), (h5, aJ g 720 ray), (h6, aI g 144 tg), (h7, aJ g 144 sl)] s.heap := hP
  refine lv_iconst (v := nI 0) hx hb dX0_addAxis_0 (by decide) ?_
  refine lv_istore (lv' := [(4, .int (nI 0)), (0, .ref (h0)), (1, .int (nI pl)), (2, .int (len)), (3, .int (bd))]) hx hb dX0_addAxis_1 hl (by decide) rfl (fun ls hl => ?_)
  have lp_3 : ∀ (n : Nat) (k : Nat), 5 - k < n → k ≤ 5 → ∀ (H : Heap) (locs : List Loc), va_P g.1 vwCl [(h0, .inr (0, [.int (nI ki), .int (nI kt), .int (nI kf), .int (nI km), .int (fr), .ref (h5), .ref (h6), .ref (h7)])), (h5, aJ g 720 (pL ray (km * 5) (fun z9 => if z9 = pl then len.toInt64 else 0) k)), (h6, aI g 144 tg), (h7, aJ g 144 sl)] H → va_D A [(h0, .inr (0, [.int (nI ki), .int (nI kt), .int (nI kf), .int (nI km), .int (fr), .ref (h5), .ref (h6), .ref (h7)])), (h5, aJ g 720 (pL ray (km * 5) (fun z9 => if z9 = pl then len.toInt64 else 0) k)), (h6, aI g 144 tg), (h7, aJ g 144 sl)] → va_S A s.heap H locs → ∀ ls : Array Slot, lv_has ls 5 [(0, .ref (h0)), (1, .int (nI pl)), (2, .int (len)), (3, .int (bd)), (4, .int (nI k))] → W p l e { frames := 0, cells := 0, slots := 0, locals := 0 } s m args below meth c H locs 0 0 Q (F0 m 3 ls []) := by
    intro n
    induction n with
    | zero =>
      intro k hms
      omega
    | succ n ih_3 =>
      intro k hms_3 hk H locs hP hD hS ls hl
      refine lv_iload hx hb dX0_addAxis_3 (lv_at hl 4 rfl) ?_
      refine lv_iconst (v := nI 5) hx hb dX0_addAxis_5 (by decide) ?_
      refine lv_icmp_ge (tgt := 41) hx hb dX0_addAxis_6 (by decide) (fun c_1 => ?_) (fun c_1 => ?_)
      · skip
        have c_1 := (nI_leI (by omega) (by omega)).mp c_1
        obtain rfl : k = 5 := by omega
        refine lv_aload_n hx hb dX0_addAxis_41 rfl (lv_at hl 0 rfl) ?_
        refine k_get hx hb hts hown hK hP iw_X0_addAxis_X0 rfl 0 6 fm_X0_addAxis_15 (by decide) rfl rfl dX0_addAxis_42 ?_
        refine lv_aload_n hx hb dX0_addAxis_45 rfl (lv_at hl 0 rfl) ?_
        refine k_get hx hb hts hown hK hP iw_X0_addAxis_X0 rfl 0 3 fm_X0_addAxis_56 (by decide) rfl rfl dX0_addAxis_46 ?_
        refine lv_iload_n hx hb dX0_addAxis_49 rfl (lv_at hl 3 rfl) ?_
        refine k_iast hx hb hK hP hD hS 2 rfl (by omega) (by omega) dX0_addAxis_50 (fun H locs hP hD hS => ?_)
        have hP : va_P g.1 vwCl [(h0, .inr (0, [.int (nI ki), .int (nI kt), .int (nI kf), .int (nI km), .int (fr), .ref (h5), .ref (h6), .ref (h7)])), (h5, aJ g 720 (pL ray (km * 5) (fun z9 => if z9 = pl then len.toInt64 else 0) 5)), (h6, aI g 144 (upd tg km bd)), (h7, aJ g 144 sl)] H := hP
        have hD : va_D A [(h0, .inr (0, [.int (nI ki), .int (nI kt), .int (nI kf), .int (nI km), .int (fr), .ref (h5), .ref (h6), .ref (h7)])), (h5, aJ g 720 (pL ray (km * 5) (fun z9 => if z9 = pl then len.toInt64 else 0) 5)), (h6, aI g 144 (upd tg km bd)), (h7, aJ g 144 sl)] := hD
        refine lv_aload_n hx hb dX0_addAxis_51 rfl (lv_at hl 0 rfl) ?_
        refine lv_dup hx hb dX0_addAxis_52 rfl ?_
        refine k_get hx hb hts hown hK hP iw_X0_addAxis_X0 rfl 0 3 fm_X0_addAxis_56 (by decide) rfl rfl dX0_addAxis_53 ?_
        refine lv_iconst (v := nI 1) hx hb dX0_addAxis_56 (by decide) ?_
        refine lv_iadd hx hb dX0_addAxis_57 ?_
        refine k_ei (y := nI (km + 1)) (nI_add _ _) ?_
        refine k_put hx hb hts hown hK hP hD hS iw_X0_addAxis_X0 rfl tyX0 tyX0_ok nmX0 0 3 fm_X0_addAxis_56 (by decide) rfl rfl rfl rfl rfl (Nat.le_of_ble_eq_true rfl) dX0_addAxis_58 (fun H locs hP hD hS => ?_)
        have hP : va_P g.1 vwCl [(h0, .inr (0, [.int (nI ki), .int (nI kt), .int (nI kf), .int (nI (km + 1)), .int (fr), .ref (h5), .ref (h6), .ref (h7)])), (h5, aJ g 720 (pL ray (km * 5) (fun z9 => if z9 = pl then len.toInt64 else 0) 5)), (h6, aI g 144 (upd tg km bd)), (h7, aJ g 144 sl)] H := hP
        have hD : va_D A [(h0, .inr (0, [.int (nI ki), .int (nI kt), .int (nI kf), .int (nI (km + 1)), .int (fr), .ref (h5), .ref (h6), .ref (h7)])), (h5, aJ g 720 (pL ray (km * 5) (fun z9 => if z9 = pl then len.toInt64 else 0) 5)), (h6, aI g 144 (upd tg km bd)), (h7, aJ g 144 sl)] := hD
        exact ret dX0_addAxis_61 () (trivial) hP hD hS
      · skip
        have c_1 := mt (nI_leI (by omega) (by omega)).mpr c_1
        refine lv_aload_n hx hb dX0_addAxis_9 rfl (lv_at hl 0 rfl) ?_
        refine k_get hx hb hts hown hK hP iw_X0_addAxis_X0 rfl 0 5 fm_X0_addAxis_11 (by decide) rfl rfl dX0_addAxis_10 ?_
        refine lv_aload_n hx hb dX0_addAxis_13 rfl (lv_at hl 0 rfl) ?_
        refine k_get hx hb hts hown hK hP iw_X0_addAxis_X0 rfl 0 3 fm_X0_addAxis_56 (by decide) rfl rfl dX0_addAxis_14 ?_
        refine lv_iconst (v := nI 5) hx hb dX0_addAxis_17 (by decide) ?_
        refine lv_imul hx hb dX0_addAxis_18 ?_
        refine k_ei (y := nI (km * 5)) (pk_mul _ _) ?_
        refine lv_iload hx hb dX0_addAxis_19 (lv_at hl 4 rfl) ?_
        refine lv_iadd hx hb dX0_addAxis_21 ?_
        refine k_ei (y := nI (km * 5 + k)) (nI_add _ _) ?_
        refine lv_iload hx hb dX0_addAxis_22 (lv_at hl 4 rfl) ?_
        refine lv_iload_n hx hb dX0_addAxis_24 rfl (lv_at hl 1 rfl) ?_
        refine lv_icmp_ne (tgt := 33) hx hb dX0_addAxis_25 (by decide) (fun c_2 => ?_) (fun c_2 => ?_)
        · skip
          have c_2 := mt (nI_eq (by omega) (by omega)).mpr c_2
          have hx5 : (0 : Int64) = (fun z9 => if z9 = pl then len.toInt64 else 0) k := by show _ = ite _ _ _; rw [if_neg c_2]
          refine lv_lconst (v := 0) hx hb dX0_addAxis_33 (by decide) ?_
          refine k_last hx hb hK hP hD hS 1 rfl (by omega) (by omega) dX0_addAxis_34 (fun H locs hP hD hS => ?_)
          have hP : va_P g.1 vwCl [(h0, .inr (0, [.int (nI ki), .int (nI kt), .int (nI kf), .int (nI km), .int (fr), .ref (h5), .ref (h6), .ref (h7)])), (h5, aJ g 720 (vp_updL (pL ray (km * 5) (fun z9 => if z9 = pl then len.toInt64 else 0) k) (km * 5 + k) 0)), (h6, aI g 144 tg), (h7, aJ g 144 sl)] H := hP
          have hD : va_D A [(h0, .inr (0, [.int (nI ki), .int (nI kt), .int (nI kf), .int (nI km), .int (fr), .ref (h5), .ref (h6), .ref (h7)])), (h5, aJ g 720 (vp_updL (pL ray (km * 5) (fun z9 => if z9 = pl then len.toInt64 else 0) k) (km * 5 + k) 0)), (h6, aI g 144 tg), (h7, aJ g 144 sl)] := hD
          have e_3 : vp_updL (pL ray (km * 5) (fun z9 => if z9 = pl then len.toInt64 else 0) k) (km * 5 + k) 0 = pL ray (km * 5) (fun z9 => if z9 = pl then len.toInt64 else 0) (k + 1) := pL_succ _ _ _ _ hx5
          rw [e_3] at hP hD
          refine lv_iinc (v := nI (k + 1)) (lv' := [(4, .int (nI (k + 1))), (0, .ref (h0)), (1, .int (nI pl)), (2, .int (len)), (3, .int (bd))]) hx hb dX0_addAxis_35 hl (k := 4) rfl (nI_inc1 k) (by decide) rfl (fun ls hl => ?_)
          refine lv_goto (tgt := 3) hx hb dX0_addAxis_38 (by decide) ?_
          exact ih_3 (k + 1) (by omega) (by omega) _ _ hP hD hS ls (lv_sub hl [1, 2, 3, 4, 0] rfl)
        · skip
          have c_2 := (nI_eq (by omega) (by omega)).mp c_2
          have hx5 : len.toInt64 = (fun z9 => if z9 = pl then len.toInt64 else 0) k := by show _ = ite _ _ _; rw [if_pos c_2]
          refine lv_iload_n hx hb dX0_addAxis_28 rfl (lv_at hl 2 rfl) ?_
          refine lv_i2l hx hb dX0_addAxis_29 rfl ?_
          refine lv_goto (tgt := 34) hx hb dX0_addAxis_30 (by decide) ?_
          refine k_last hx hb hK hP hD hS 1 rfl (by omega) (by omega) dX0_addAxis_34 (fun H locs hP hD hS => ?_)
          have hP : va_P g.1 vwCl [(h0, .inr (0, [.int (nI ki), .int (nI kt), .int (nI kf), .int (nI km), .int (fr), .ref (h5), .ref (h6), .ref (h7)])), (h5, aJ g 720 (vp_updL (pL ray (km * 5) (fun z9 => if z9 = pl then len.toInt64 else 0) k) (km * 5 + k) len.toInt64)), (h6, aI g 144 tg), (h7, aJ g 144 sl)] H := hP
          have hD : va_D A [(h0, .inr (0, [.int (nI ki), .int (nI kt), .int (nI kf), .int (nI km), .int (fr), .ref (h5), .ref (h6), .ref (h7)])), (h5, aJ g 720 (vp_updL (pL ray (km * 5) (fun z9 => if z9 = pl then len.toInt64 else 0) k) (km * 5 + k) len.toInt64)), (h6, aI g 144 tg), (h7, aJ g 144 sl)] := hD
          have e_4 : vp_updL (pL ray (km * 5) (fun z9 => if z9 = pl then len.toInt64 else 0) k) (km * 5 + k) len.toInt64 = pL ray (km * 5) (fun z9 => if z9 = pl then len.toInt64 else 0) (k + 1) := pL_succ _ _ _ _ hx5
          rw [e_4] at hP hD
          refine lv_iinc (v := nI (k + 1)) (lv' := [(4, .int (nI (k + 1))), (0, .ref (h0)), (1, .int (nI pl)), (2, .int (len)), (3, .int (bd))]) hx hb dX0_addAxis_35 hl (k := 4) rfl (nI_inc1 k) (by decide) rfl (fun ls hl => ?_)
          refine lv_goto (tgt := 3) hx hb dX0_addAxis_38 (by decide) ?_
          exact ih_3 (k + 1) (by omega) (by omega) _ _ hP hD hS ls (lv_sub hl [1, 2, 3, 4, 0] rfl)
  exact lp_3 (5 - 0 + 1) 0 (by omega) (by omega) _ _ (by rw [pL_0]; exact hP) (by rw [pL_0]; exact hD) hS ls (lv_sub hl [1, 2, 3, 4, 0] rfl)
theorem iw_X0_move_X0 : ∀ w ∈ wsX00, w ∈ wsX0_move := by decide +kernel
theorem fm_X0_move_32 : Cond.fieldLink RX0 32 "EdgeBench$Cone" "things" "I" ∈ wsX0_move := by decide +kernel
theorem fm_X0_move_15 : Cond.fieldLink RX0 15 "EdgeBench$Cone" "tight" "[I" ∈ wsX0_move := by decide +kernel
theorem fm_X0_move_11 : Cond.fieldLink RX0 11 "EdgeBench$Cone" "ray" "[J" ∈ wsX0_move := by decide +kernel
set_option maxHeartbeats 4000000 in
set_option maxRecDepth 100000 in
theorem c_X0_move (l : Launch) (g : Gt) (h0 : Nat) (h5 : Nat) (h6 : Nat) (h7 : Nat) (ki : Nat) (kt : Nat) (kf : Nat) (km : Nat) (fr : Int32) (ray : Nat → Int64) (tg : Nat → Int32) (sl : Nat → Int64) (fm : Nat) (tt : Nat) (hf : fm < 144) (htt : tt ≤ fm) (ht : kt ≤ 4) : CV l yX0_move wsX0_move { frames := 0, cells := 0, slots := 0, locals := 0 } g [.ref (h0), .int (nI fm), .int (nI tt)] [(h0, .inr (0, [.int (nI ki), .int (nI kt), .int (nI kf), .int (nI km), .int (fr), .ref (h5), .ref (h6), .ref (h7)])), (h5, aJ g 720 ray), (h6, aI g 144 tg), (h7, aJ g 144 sl)] (fun (zu : Unit) => True) (fun (zu : Unit) => [(h0, .inr (0, [.int (nI ki), .int (nI kt), .int (nI kf), .int (nI km), .int (fr), .ref (h5), .ref (h6), .ref (h7)])), (h5, aJ g 720 (mvL kt fm tt ray)), (h6, aI g 144 (upd tg tt (tg fm))), (h7, aJ g 144 sl)]) 0 0 := by
  refine ent_v (cc := cX0_move) (maxL := 4) (by decide) rfl (Nat.le_of_ble_eq_true rfl) ?_
  intro p e s m below meth c A args Q hE ret ls hl
  obtain ⟨hx, hb, hml, hown, hts, hnm, hA, hP, hD, hK, hN⟩ := hE
  have hS : va_S A s.heap s.heap [] := va_S.rf
  have hl : lv_has ls 4 [(0, .ref (h0)), (1, .int (nI fm)), (2, .int (nI tt))] := hl
  have hP : va_P g.1 vwCl [(h0, .inr (0, [.int (nI ki), .int (nI kt), .int (nI kf), .int (nI km), .int (fr), .ref (h5), .ref (h6), .ref (h7)])), (h5, aJ g 720 ray), (h6, aI g 144 tg), (h7, aJ g 144 sl)] s.heap := hP
  refine lv_iconst (v := nI 0) hx hb dX0_move_0 (by decide) ?_
  refine lv_istore_n (lv' := [(3, .int (nI 0)), (0, .ref (h0)), (1, .int (nI fm)), (2, .int (nI tt))]) hx hb dX0_move_1 rfl hl (by decide) rfl (fun ls hl => ?_)
  have lp_2 : ∀ (n : Nat) (k : Nat), kt + 1 - k < n → k ≤ kt + 1 → ∀ (H : Heap) (locs : List Loc), va_P g.1 vwCl [(h0, .inr (0, [.int (nI ki), .int (nI kt), .int (nI kf), .int (nI km), .int (fr), .ref (h5), .ref (h6), .ref (h7)])), (h5, aJ g 720 (pL ray (tt * 5) (fun z9 => ray (fm * 5 + z9)) k)), (h6, aI g 144 tg), (h7, aJ g 144 sl)] H → va_D A [(h0, .inr (0, [.int (nI ki), .int (nI kt), .int (nI kf), .int (nI km), .int (fr), .ref (h5), .ref (h6), .ref (h7)])), (h5, aJ g 720 (pL ray (tt * 5) (fun z9 => ray (fm * 5 + z9)) k)), (h6, aI g 144 tg), (h7, aJ g 144 sl)] → va_S A s.heap H locs → ∀ ls : Array Slot, lv_has ls 4 [(0, .ref (h0)), (1, .int (nI fm)), (2, .int (nI tt)), (3, .int (nI k))] → W p l e { frames := 0, cells := 0, slots := 0, locals := 0 } s m args below meth c H locs 0 0 Q (F0 m 2 ls []) := by
    intro n
    induction n with
    | zero =>
      intro k hms
      omega
    | succ n ih_2 =>
      intro k hms_2 hk H locs hP hD hS ls hl
      refine lv_iload_n hx hb dX0_move_2 rfl (lv_at hl 3 rfl) ?_
      refine lv_aload_n hx hb dX0_move_3 rfl (lv_at hl 0 rfl) ?_
      refine k_get hx hb hts hown hK hP iw_X0_move_X0 rfl 0 1 fm_X0_move_32 (by decide) rfl rfl dX0_move_4 ?_
      refine lv_icmp_gt (tgt := 36) hx hb dX0_move_7 (by decide) (fun c_1 => ?_) (fun c_1 => ?_)
      · skip
        have c_1 := (nI_ltI (by omega) (by omega)).mp c_1
        obtain rfl : k = kt + 1 := by omega
        refine lv_aload_n hx hb dX0_move_36 rfl (lv_at hl 0 rfl) ?_
        refine k_get hx hb hts hown hK hP iw_X0_move_X0 rfl 0 6 fm_X0_move_15 (by decide) rfl rfl dX0_move_37 ?_
        refine lv_iload_n hx hb dX0_move_40 rfl (lv_at hl 2 rfl) ?_
        refine lv_aload_n hx hb dX0_move_41 rfl (lv_at hl 0 rfl) ?_
        refine k_get hx hb hts hown hK hP iw_X0_move_X0 rfl 0 6 fm_X0_move_15 (by decide) rfl rfl dX0_move_42 ?_
        refine lv_iload_n hx hb dX0_move_45 rfl (lv_at hl 1 rfl) ?_
        refine k_iald hx hb hK hP 2 rfl (by omega) (by omega) dX0_move_46 ?_
        refine k_iast hx hb hK hP hD hS 2 rfl (by omega) (by omega) dX0_move_47 (fun H locs hP hD hS => ?_)
        have hP : va_P g.1 vwCl [(h0, .inr (0, [.int (nI ki), .int (nI kt), .int (nI kf), .int (nI km), .int (fr), .ref (h5), .ref (h6), .ref (h7)])), (h5, aJ g 720 (pL ray (tt * 5) (fun z9 => ray (fm * 5 + z9)) (kt + 1))), (h6, aI g 144 (upd tg tt (tg fm))), (h7, aJ g 144 sl)] H := hP
        have hD : va_D A [(h0, .inr (0, [.int (nI ki), .int (nI kt), .int (nI kf), .int (nI km), .int (fr), .ref (h5), .ref (h6), .ref (h7)])), (h5, aJ g 720 (pL ray (tt * 5) (fun z9 => ray (fm * 5 + z9)) (kt + 1))), (h6, aI g 144 (upd tg tt (tg fm))), (h7, aJ g 144 sl)] := hD
        exact ret dX0_move_48 () (trivial) hP hD hS
      · skip
        have c_1 := mt (nI_ltI (by omega) (by omega)).mpr c_1
        refine lv_aload_n hx hb dX0_move_10 rfl (lv_at hl 0 rfl) ?_
        refine k_get hx hb hts hown hK hP iw_X0_move_X0 rfl 0 5 fm_X0_move_11 (by decide) rfl rfl dX0_move_11 ?_
        refine lv_iload_n hx hb dX0_move_14 rfl (lv_at hl 2 rfl) ?_
        refine lv_iconst (v := nI 5) hx hb dX0_move_15 (by decide) ?_
        refine lv_imul hx hb dX0_move_16 ?_
        refine k_ei (y := nI (tt * 5)) (pk_mul _ _) ?_
        refine lv_iload_n hx hb dX0_move_17 rfl (lv_at hl 3 rfl) ?_
        refine lv_iadd hx hb dX0_move_18 ?_
        refine k_ei (y := nI (tt * 5 + k)) (nI_add _ _) ?_
        refine lv_aload_n hx hb dX0_move_19 rfl (lv_at hl 0 rfl) ?_
        refine k_get hx hb hts hown hK hP iw_X0_move_X0 rfl 0 5 fm_X0_move_11 (by decide) rfl rfl dX0_move_20 ?_
        refine lv_iload_n hx hb dX0_move_23 rfl (lv_at hl 1 rfl) ?_
        refine lv_iconst (v := nI 5) hx hb dX0_move_24 (by decide) ?_
        refine lv_imul hx hb dX0_move_25 ?_
        refine k_ei (y := nI (fm * 5)) (pk_mul _ _) ?_
        refine lv_iload_n hx hb dX0_move_26 rfl (lv_at hl 3 rfl) ?_
        refine lv_iadd hx hb dX0_move_27 ?_
        refine k_ei (y := nI (fm * 5 + k)) (nI_add _ _) ?_
        refine k_lald hx hb hK hP 1 rfl (by omega) (by omega) dX0_move_28 ?_
        refine k_el (y := ray (fm * 5 + k)) (pL_out (by omega)) ?_
        refine k_last hx hb hK hP hD hS 1 rfl (by omega) (by omega) dX0_move_29 (fun H locs hP hD hS => ?_)
        have hP : va_P g.1 vwCl [(h0, .inr (0, [.int (nI ki), .int (nI kt), .int (nI kf), .int (nI km), .int (fr), .ref (h5), .ref (h6), .ref (h7)])), (h5, aJ g 720 (vp_updL (pL ray (tt * 5) (fun z9 => ray (fm * 5 + z9)) k) (tt * 5 + k) (ray (fm * 5 + k)))), (h6, aI g 144 tg), (h7, aJ g 144 sl)] H := hP
        have hD : va_D A [(h0, .inr (0, [.int (nI ki), .int (nI kt), .int (nI kf), .int (nI km), .int (fr), .ref (h5), .ref (h6), .ref (h7)])), (h5, aJ g 720 (vp_updL (pL ray (tt * 5) (fun z9 => ray (fm * 5 + z9)) k) (tt * 5 + k) (ray (fm * 5 + k)))), (h6, aI g 144 tg), (h7, aJ g 144 sl)] := hD
        have e_2 : vp_updL (pL ray (tt * 5) (fun z9 => ray (fm * 5 + z9)) k) (tt * 5 + k) (ray (fm * 5 + k)) = pL ray (tt * 5) (fun z9 => ray (fm * 5 + z9)) (k + 1) := pL_succ _ _ _ _ rfl
        rw [e_2] at hP hD
        refine lv_iinc (v := nI (k + 1)) (lv' := [(3, .int (nI (k + 1))), (0, .ref (h0)), (1, .int (nI fm)), (2, .int (nI tt))]) hx hb dX0_move_30 hl (k := 3) rfl (nI_inc1 k) (by decide) rfl (fun ls hl => ?_)
        refine lv_goto (tgt := 2) hx hb dX0_move_33 (by decide) ?_
        exact ih_2 (k + 1) (by omega) (by omega) _ _ hP hD hS ls (lv_sub hl [1, 2, 3, 0] rfl)
  exact lp_2 (kt + 1 - 0 + 1) 0 (by omega) (by omega) _ _ (by rw [pL_0]; exact hP) (by rw [pL_0]; exact hD) hS ls (lv_sub hl [1, 2, 3, 0] rfl)
theorem iw_X0_isBefore_X0 : ∀ w ∈ wsX00, w ∈ wsX0_isBefore := by decide +kernel
theorem fm_X0_isBefore_32 : Cond.fieldLink RX0 32 "EdgeBench$Cone" "things" "I" ∈ wsX0_isBefore := by decide +kernel
theorem fm_X0_isBefore_11 : Cond.fieldLink RX0 11 "EdgeBench$Cone" "ray" "[J" ∈ wsX0_isBefore := by decide +kernel
set_option maxHeartbeats 4000000 in
set_option maxRecDepth 100000 in
theorem c_X0_isBefore (l : Launch) (g : Gt) (h0 : Nat) (h5 : Nat) (h6 : Nat) (h7 : Nat) (ki : Nat) (kt : Nat) (kf : Nat) (km : Nat) (fr : Int32) (ray : Nat → Int64) (tg : Nat → Int32) (sl : Nat → Int64) (o1 : Nat) (o2 : Nat) (h1 : o1 < 144) (h2 : o2 < 144) (ht : kt ≤ 4) : CI l yX0_isBefore wsX0_isBefore { frames := 0, cells := 0, slots := 0, locals := 0 } g [.ref (h0), .int (nI o1), .int (nI o2)] [(h0, .inr (0, [.int (nI ki), .int (nI kt), .int (nI kf), .int (nI km), .int (fr), .ref (h5), .ref (h6), .ref (h7)])), (h5, aJ g 720 ray), (h6, aI g 144 tg), (h7, aJ g 144 sl)] (fun zr (zu : Unit) => zr = bI (befB ray (o1 * 5) (o2 * 5) 0 (kt + 1))) (fun (zu : Unit) => [(h0, .inr (0, [.int (nI ki), .int (nI kt), .int (nI kf), .int (nI km), .int (fr), .ref (h5), .ref (h6), .ref (h7)])), (h5, aJ g 720 ray), (h6, aI g 144 tg), (h7, aJ g 144 sl)]) 0 0 := by
  refine ent_z (cc := cX0_isBefore) (maxL := 6) (by decide) rfl (Nat.le_of_ble_eq_true rfl) ?_
  intro p e s m below meth c A args Q hE ret ls hl
  obtain ⟨hx, hb, hml, hown, hts, hnm, hA, hP, hD, hK, hN⟩ := hE
  have hS : va_S A s.heap s.heap [] := va_S.rf
  have hl : lv_has ls 6 [(0, .ref (h0)), (1, .int (nI o1)), (2, .int (nI o2))] := hl
  have hP : va_P g.1 vwCl [(h0, .inr (0, [.int (nI ki), .int (nI kt), .int (nI kf), .int (nI km), .int (fr), .ref (h5), .ref (h6), .ref (h7)])), (h5, aJ g 720 ray), (h6, aI g 144 tg), (h7, aJ g 144 sl)] s.heap := hP
  refine lv_iconst (v := nI 0) hx hb dX0_isBefore_0 (by decide) ?_
  refine lv_istore_n (lv' := [(3, .int (nI 0)), (0, .ref (h0)), (1, .int (nI o1)), (2, .int (nI o2))]) hx hb dX0_isBefore_1 rfl hl (by decide) rfl (fun ls hl => ?_)
  have lp_2 : ∀ (n : Nat) (k : Nat), kt + 1 - k < n → k ≤ kt + 1 → befB ray (o1 * 5) (o2 * 5) 0 (kt + 1) = befB ray (o1 * 5) (o2 * 5) k (kt + 1 - k) → ∀ (H : Heap) (locs : List Loc), va_P g.1 vwCl [(h0, .inr (0, [.int (nI ki), .int (nI kt), .int (nI kf), .int (nI km), .int (fr), .ref (h5), .ref (h6), .ref (h7)])), (h5, aJ g 720 ray), (h6, aI g 144 tg), (h7, aJ g 144 sl)] H → va_D A [(h0, .inr (0, [.int (nI ki), .int (nI kt), .int (nI kf), .int (nI km), .int (fr), .ref (h5), .ref (h6), .ref (h7)])), (h5, aJ g 720 ray), (h6, aI g 144 tg), (h7, aJ g 144 sl)] → va_S A s.heap H locs → ∀ ls : Array Slot, lv_has ls 6 [(0, .ref (h0)), (1, .int (nI o1)), (2, .int (nI o2)), (3, .int (nI k))] → W p l e { frames := 0, cells := 0, slots := 0, locals := 0 } s m args below meth c H locs 0 0 Q (F0 m 2 ls []) := by
    intro n
    induction n with
    | zero =>
      intro k hms
      omega
    | succ n ih_2 =>
      intro k hms_2 hk hv H locs hP hD hS ls hl
      refine lv_iload_n hx hb dX0_isBefore_2 rfl (lv_at hl 3 rfl) ?_
      refine lv_aload_n hx hb dX0_isBefore_3 rfl (lv_at hl 0 rfl) ?_
      refine k_get hx hb hts hown hK hP iw_X0_isBefore_X0 rfl 0 1 fm_X0_isBefore_32 (by decide) rfl rfl dX0_isBefore_4 ?_
      refine lv_icmp_gt (tgt := 59) hx hb dX0_isBefore_7 (by decide) (fun c_1 => ?_) (fun c_1 => ?_)
      · skip
        have c_1 := (nI_ltI (by omega) (by omega)).mp c_1
        refine lv_iconst (v := nI 0) hx hb dX0_isBefore_59 (by decide) ?_
        exact ret dX0_isBefore_60 () (by rw [hv, show kt + 1 - k = 0 by omega]; rfl) (by decide) hP hD hS
      · skip
        have c_1 := mt (nI_ltI (by omega) (by omega)).mpr c_1
        refine lv_aload_n hx hb dX0_isBefore_10 rfl (lv_at hl 0 rfl) ?_
        refine k_get hx hb hts hown hK hP iw_X0_isBefore_X0 rfl 0 5 fm_X0_isBefore_11 (by decide) rfl rfl dX0_isBefore_11 ?_
        refine lv_iload_n hx hb dX0_isBefore_14 rfl (lv_at hl 1 rfl) ?_
        refine lv_iconst (v := nI 5) hx hb dX0_isBefore_15 (by decide) ?_
        refine lv_imul hx hb dX0_isBefore_16 ?_
        refine k_ei (y := nI (o1 * 5)) (pk_mul _ _) ?_
        refine lv_iload_n hx hb dX0_isBefore_17 rfl (lv_at hl 3 rfl) ?_
        refine lv_iadd hx hb dX0_isBefore_18 ?_
        refine k_ei (y := nI (o1 * 5 + k)) (nI_add _ _) ?_
        refine k_lald hx hb hK hP 1 rfl (by omega) (by omega) dX0_isBefore_19 ?_
        refine lv_aload_n hx hb dX0_isBefore_20 rfl (lv_at hl 0 rfl) ?_
        refine k_get hx hb hts hown hK hP iw_X0_isBefore_X0 rfl 0 5 fm_X0_isBefore_11 (by decide) rfl rfl dX0_isBefore_21 ?_
        refine lv_iload_n hx hb dX0_isBefore_24 rfl (lv_at hl 2 rfl) ?_
        refine lv_iconst (v := nI 5) hx hb dX0_isBefore_25 (by decide) ?_
        refine lv_imul hx hb dX0_isBefore_26 ?_
        refine k_ei (y := nI (o2 * 5)) (pk_mul _ _) ?_
        refine lv_iload_n hx hb dX0_isBefore_27 rfl (lv_at hl 3 rfl) ?_
        refine lv_iadd hx hb dX0_isBefore_28 ?_
        refine k_ei (y := nI (o2 * 5 + k)) (nI_add _ _) ?_
        refine k_lald hx hb hK hP 1 rfl (by omega) (by omega) dX0_isBefore_29 ?_
        refine lv_lsub hx hb dX0_isBefore_30 ?_
        refine lv_lstore (lv' := [(4, .long ((ray (o1 * 5 + k)) - (ray (o2 * 5 + k)))), (0, .ref (h0)), (1, .int (nI o1)), (2, .int (nI o2)), (3, .int (nI k))]) hx hb dX0_isBefore_31 hl (by decide) rfl (fun ls hl => ?_)
        refine lv_lload hx hb dX0_isBefore_33 (lv_at hl 0 rfl) ?_
        refine lv_lconst (v := 0) hx hb dX0_isBefore_35 (by decide) ?_
        refine W.lcmp hx hb dX0_isBefore_36 ?_
        refine lv_if_eq (tgt := 53) hx hb dX0_isBefore_37 (by decide) (fun c_2 => ?_) (fun c_2 => ?_)
        · skip
          have c_2 := (lc_eq _ _).mp c_2
          have hc := c_2
          refine lv_iinc (v := nI (k + 1)) (lv' := [(3, .int (nI (k + 1))), (4, .long ((ray (o1 * 5 + k)) - (ray (o2 * 5 + k)))), (0, .ref (h0)), (1, .int (nI o1)), (2, .int (nI o2))]) hx hb dX0_isBefore_53 hl (k := 4) rfl (nI_inc1 k) (by decide) rfl (fun ls hl => ?_)
          refine lv_goto (tgt := 2) hx hb dX0_isBefore_56 (by decide) ?_
          exact ih_2 (k + 1) (by omega) (by omega) (by rw [hv, show kt + 1 - k = (kt + 1 - (k + 1)) + 1 by omega, befB, if_pos hc]) _ _ hP hD hS ls (lv_sub hl [2, 3, 4, 0] rfl)
        · skip
          have c_2 := mt (lc_eq _ _).mpr c_2
          have hc := c_2
          refine lv_lload hx hb dX0_isBefore_40 (lv_at hl 0 rfl) ?_
          refine lv_lconst (v := 0) hx hb dX0_isBefore_42 (by decide) ?_
          refine W.lcmp hx hb dX0_isBefore_43 ?_
          refine lv_if_le (tgt := 51) hx hb dX0_isBefore_44 (by decide) (fun c_3 => ?_) (fun c_3 => ?_)
          · skip
            have c_3 := (lc_le _ _).mp c_3
            have hres : decide (0 < ray (o1 * 5 + k) - ray (o2 * 5 + k)) = false := decide_eq_false (by rw [i64_lt]; rw [i64_le] at c_3; omega)
            refine lv_iconst (v := nI 0) hx hb dX0_isBefore_51 (by decide) ?_
            exact ret dX0_isBefore_52 () (by rw [hv, show kt + 1 - k = (kt + 1 - (k + 1)) + 1 by omega, befB, if_neg hc, hres]; rfl) (by decide) hP hD hS
          · skip
            have c_3 := mt (lc_le _ _).mpr c_3
            have hres : decide (0 < ray (o1 * 5 + k) - ray (o2 * 5 + k)) = true := decide_eq_true (by rw [i64_lt]; rw [i64_le] at c_3; omega)
            refine lv_iconst (v := nI 1) hx hb dX0_isBefore_47 (by decide) ?_
            refine lv_goto (tgt := 52) hx hb dX0_isBefore_48 (by decide) ?_
            exact ret dX0_isBefore_52 () (by rw [hv, show kt + 1 - k = (kt + 1 - (k + 1)) + 1 by omega, befB, if_neg hc, hres]; rfl) (by decide) hP hD hS
  exact lp_2 (kt + 1 - 0 + 1) 0 (by omega) (by omega) rfl _ _ hP hD hS ls (lv_sub hl [1, 2, 3, 0] rfl)
theorem iw_X0_swap_X0 : ∀ w ∈ wsX00, w ∈ wsX0_swap := by decide +kernel
theorem fm_X0_swap_32 : Cond.fieldLink RX0 32 "EdgeBench$Cone" "things" "I" ∈ wsX0_swap := by decide +kernel
theorem fm_X0_swap_15 : Cond.fieldLink RX0 15 "EdgeBench$Cone" "tight" "[I" ∈ wsX0_swap := by decide +kernel
theorem fm_X0_swap_11 : Cond.fieldLink RX0 11 "EdgeBench$Cone" "ray" "[J" ∈ wsX0_swap := by decide +kernel
set_option maxHeartbeats 4000000 in
set_option maxRecDepth 100000 in
theorem c_X0_swap (l : Launch) (g : Gt) (h0 : Nat) (h5 : Nat) (h6 : Nat) (h7 : Nat) (ki : Nat) (kt : Nat) (kf : Nat) (km : Nat) (fr : Int32) (ray : Nat → Int64) (tg : Nat → Int32) (sl : Nat → Int64) (o1 : Nat) (o2 : Nat) (h1 : o1 < 144) (h2 : o2 < 144) (h12 : o1 * 5 + 5 ≤ o2 * 5 ∨ o2 * 5 + 5 ≤ o1 * 5) (ht : kt ≤ 4) : CV l yX0_swap wsX0_swap { frames := 0, cells := 0, slots := 0, locals := 0 } g [.ref (h0), .int (nI o1), .int (nI o2)] [(h0, .inr (0, [.int (nI ki), .int (nI kt), .int (nI kf), .int (nI km), .int (fr), .ref (h5), .ref (h6), .ref (h7)])), (h5, aJ g 720 ray), (h6, aI g 144 tg), (h7, aJ g 144 sl)] (fun (zu : Unit) => True) (fun (zu : Unit) => [(h0, .inr (0, [.int (nI ki), .int (nI kt), .int (nI kf), .int (nI km), .int (fr), .ref (h5), .ref (h6), .ref (h7)])), (h5, aJ g 720 (swL ray (o1 * 5) (o2 * 5) (kt + 1))), (h6, aI g 144 (swT tg o1 o2)), (h7, aJ g 144 sl)]) 0 0 := by
  refine ent_v (cc := cX0_swap) (maxL := 6) (by decide) rfl (Nat.le_of_ble_eq_true rfl) ?_
  intro p e s m below meth c A args Q hE ret ls hl
  obtain ⟨hx, hb, hml, hown, hts, hnm, hA, hP, hD, hK, hN⟩ := hE
  have hS : va_S A s.heap s.heap [] := va_S.rf
  have hl : lv_has ls 6 [(0, .ref (h0)), (1, .int (nI o1)), (2, .int (nI o2))] := hl
  have hP : va_P g.1 vwCl [(h0, .inr (0, [.int (nI ki), .int (nI kt), .int (nI kf), .int (nI km), .int (fr), .ref (h5), .ref (h6), .ref (h7)])), (h5, aJ g 720 ray), (h6, aI g 144 tg), (h7, aJ g 144 sl)] s.heap := hP
  refine lv_iconst (v := nI 0) hx hb dX0_swap_0 (by decide) ?_
  refine lv_istore_n (lv' := [(3, .int (nI 0)), (0, .ref (h0)), (1, .int (nI o1)), (2, .int (nI o2))]) hx hb dX0_swap_1 rfl hl (by decide) rfl (fun ls hl => ?_)
  have lp_2 : ∀ (n : Nat) (k : Nat), kt + 1 - k < n → k ≤ kt + 1 → ∀ (H : Heap) (locs : List Loc), va_P g.1 vwCl [(h0, .inr (0, [.int (nI ki), .int (nI kt), .int (nI kf), .int (nI km), .int (fr), .ref (h5), .ref (h6), .ref (h7)])), (h5, aJ g 720 (swL ray (o1 * 5) (o2 * 5) k)), (h6, aI g 144 tg), (h7, aJ g 144 sl)] H → va_D A [(h0, .inr (0, [.int (nI ki), .int (nI kt), .int (nI kf), .int (nI km), .int (fr), .ref (h5), .ref (h6), .ref (h7)])), (h5, aJ g 720 (swL ray (o1 * 5) (o2 * 5) k)), (h6, aI g 144 tg), (h7, aJ g 144 sl)] → va_S A s.heap H locs → ∀ ls : Array Slot, lv_has ls 6 [(0, .ref (h0)), (1, .int (nI o1)), (2, .int (nI o2)), (3, .int (nI k))] → W p l e { frames := 0, cells := 0, slots := 0, locals := 0 } s m args below meth c H locs 0 0 Q (F0 m 2 ls []) := by
    intro n
    induction n with
    | zero =>
      intro k hms
      omega
    | succ n ih_2 =>
      intro k hms_2 hk H locs hP hD hS ls hl
      refine lv_iload_n hx hb dX0_swap_2 rfl (lv_at hl 3 rfl) ?_
      refine lv_aload_n hx hb dX0_swap_3 rfl (lv_at hl 0 rfl) ?_
      refine k_get hx hb hts hown hK hP iw_X0_swap_X0 rfl 0 1 fm_X0_swap_32 (by decide) rfl rfl dX0_swap_4 ?_
      refine lv_icmp_gt (tgt := 60) hx hb dX0_swap_7 (by decide) (fun c_1 => ?_) (fun c_1 => ?_)
      · skip
        have c_1 := (nI_ltI (by omega) (by omega)).mp c_1
        obtain rfl : k = kt + 1 := by omega
        refine lv_aload_n hx hb dX0_swap_60 rfl (lv_at hl 0 rfl) ?_
        refine k_get hx hb hts hown hK hP iw_X0_swap_X0 rfl 0 6 fm_X0_swap_15 (by decide) rfl rfl dX0_swap_61 ?_
        refine lv_iload_n hx hb dX0_swap_64 rfl (lv_at hl 1 rfl) ?_
        refine k_iald hx hb hK hP 2 rfl (by omega) (by omega) dX0_swap_65 ?_
        refine lv_istore_n (lv' := [(3, .int (tg o1)), (0, .ref (h0)), (1, .int (nI o1)), (2, .int (nI o2))]) hx hb dX0_swap_66 rfl hl (by decide) rfl (fun ls hl => ?_)
        refine lv_aload_n hx hb dX0_swap_67 rfl (lv_at hl 1 rfl) ?_
        refine k_get hx hb hts hown hK hP iw_X0_swap_X0 rfl 0 6 fm_X0_swap_15 (by decide) rfl rfl dX0_swap_68 ?_
        refine lv_iload_n hx hb dX0_swap_71 rfl (lv_at hl 2 rfl) ?_
        refine lv_aload_n hx hb dX0_swap_72 rfl (lv_at hl 1 rfl) ?_
        refine k_get hx hb hts hown hK hP iw_X0_swap_X0 rfl 0 6 fm_X0_swap_15 (by decide) rfl rfl dX0_swap_73 ?_
        refine lv_iload_n hx hb dX0_swap_76 rfl (lv_at hl 3 rfl) ?_
        refine k_iald hx hb hK hP 2 rfl (by omega) (by omega) dX0_swap_77 ?_
        refine k_iast hx hb hK hP hD hS 2 rfl (by omega) (by omega) dX0_swap_78 (fun H locs hP hD hS => ?_)
        have hP : va_P g.1 vwCl [(h0, .inr (0, [.int (nI ki), .int (nI kt), .int (nI kf), .int (nI km), .int (fr), .ref (h5), .ref (h6), .ref (h7)])), (h5, aJ g 720 (swL ray (o1 * 5) (o2 * 5) (kt + 1))), (h6, aI g 144 (upd tg o1 (tg o2))), (h7, aJ g 144 sl)] H := hP
        have hD : va_D A [(h0, .inr (0, [.int (nI ki), .int (nI kt), .int (nI kf), .int (nI km), .int (fr), .ref (h5), .ref (h6), .ref (h7)])), (h5, aJ g 720 (swL ray (o1 * 5) (o2 * 5) (kt + 1))), (h6, aI g 144 (upd tg o1 (tg o2))), (h7, aJ g 144 sl)] := hD
        refine lv_aload_n hx hb dX0_swap_79 rfl (lv_at hl 1 rfl) ?_
        refine k_get hx hb hts hown hK hP iw_X0_swap_X0 rfl 0 6 fm_X0_swap_15 (by decide) rfl rfl dX0_swap_80 ?_
        refine lv_iload_n hx hb dX0_swap_83 rfl (lv_at hl 3 rfl) ?_
        refine lv_iload_n hx hb dX0_swap_84 rfl (lv_at hl 0 rfl) ?_
        refine k_iast hx hb hK hP hD hS 2 rfl (by omega) (by omega) dX0_swap_85 (fun H locs hP hD hS => ?_)
        have hP : va_P g.1 vwCl [(h0, .inr (0, [.int (nI ki), .int (nI kt), .int (nI kf), .int (nI km), .int (fr), .ref (h5), .ref (h6), .ref (h7)])), (h5, aJ g 720 (swL ray (o1 * 5) (o2 * 5) (kt + 1))), (h6, aI g 144 (upd (upd tg o1 (tg o2)) o2 (tg o1))), (h7, aJ g 144 sl)] H := hP
        have hD : va_D A [(h0, .inr (0, [.int (nI ki), .int (nI kt), .int (nI kf), .int (nI km), .int (fr), .ref (h5), .ref (h6), .ref (h7)])), (h5, aJ g 720 (swL ray (o1 * 5) (o2 * 5) (kt + 1))), (h6, aI g 144 (upd (upd tg o1 (tg o2)) o2 (tg o1))), (h7, aJ g 144 sl)] := hD
        have e_2 : upd (upd tg o1 (tg o2)) o2 (tg o1) = swT tg o1 o2 := rfl
        rw [e_2] at hP hD
        exact ret dX0_swap_86 () (trivial) hP hD hS
      · skip
        have c_1 := mt (nI_ltI (by omega) (by omega)).mpr c_1
        refine lv_aload_n hx hb dX0_swap_10 rfl (lv_at hl 0 rfl) ?_
        refine k_get hx hb hts hown hK hP iw_X0_swap_X0 rfl 0 5 fm_X0_swap_11 (by decide) rfl rfl dX0_swap_11 ?_
        refine lv_iload_n hx hb dX0_swap_14 rfl (lv_at hl 1 rfl) ?_
        refine lv_iconst (v := nI 5) hx hb dX0_swap_15 (by decide) ?_
        refine lv_imul hx hb dX0_swap_16 ?_
        refine k_ei (y := nI (o1 * 5)) (pk_mul _ _) ?_
        refine lv_iload_n hx hb dX0_swap_17 rfl (lv_at hl 3 rfl) ?_
        refine lv_iadd hx hb dX0_swap_18 ?_
        refine k_ei (y := nI (o1 * 5 + k)) (nI_add _ _) ?_
        refine k_lald hx hb hK hP 1 rfl (by omega) (by omega) dX0_swap_19 ?_
        refine k_el (y := ray (o1 * 5 + k)) (swL_a h12 (by omega)) ?_
        refine lv_lstore (lv' := [(4, .long (ray (o1 * 5 + k))), (0, .ref (h0)), (1, .int (nI o1)), (2, .int (nI o2)), (3, .int (nI k))]) hx hb dX0_swap_20 hl (by decide) rfl (fun ls hl => ?_)
        refine lv_aload_n hx hb dX0_swap_22 rfl (lv_at hl 1 rfl) ?_
        refine k_get hx hb hts hown hK hP iw_X0_swap_X0 rfl 0 5 fm_X0_swap_11 (by decide) rfl rfl dX0_swap_23 ?_
        refine lv_iload_n hx hb dX0_swap_26 rfl (lv_at hl 2 rfl) ?_
        refine lv_iconst (v := nI 5) hx hb dX0_swap_27 (by decide) ?_
        refine lv_imul hx hb dX0_swap_28 ?_
        refine k_ei (y := nI (o1 * 5)) (pk_mul _ _) ?_
        refine lv_iload_n hx hb dX0_swap_29 rfl (lv_at hl 4 rfl) ?_
        refine lv_iadd hx hb dX0_swap_30 ?_
        refine k_ei (y := nI (o1 * 5 + k)) (nI_add _ _) ?_
        refine lv_aload_n hx hb dX0_swap_31 rfl (lv_at hl 1 rfl) ?_
        refine k_get hx hb hts hown hK hP iw_X0_swap_X0 rfl 0 5 fm_X0_swap_11 (by decide) rfl rfl dX0_swap_32 ?_
        refine lv_iload_n hx hb dX0_swap_35 rfl (lv_at hl 3 rfl) ?_
        refine lv_iconst (v := nI 5) hx hb dX0_swap_36 (by decide) ?_
        refine lv_imul hx hb dX0_swap_37 ?_
        refine k_ei (y := nI (o2 * 5)) (pk_mul _ _) ?_
        refine lv_iload_n hx hb dX0_swap_38 rfl (lv_at hl 4 rfl) ?_
        refine lv_iadd hx hb dX0_swap_39 ?_
        refine k_ei (y := nI (o2 * 5 + k)) (nI_add _ _) ?_
        refine k_lald hx hb hK hP 1 rfl (by omega) (by omega) dX0_swap_40 ?_
        refine k_el (y := ray (o2 * 5 + k)) (swL_b h12 (by omega)) ?_
        refine k_last hx hb hK hP hD hS 1 rfl (by omega) (by omega) dX0_swap_41 (fun H locs hP hD hS => ?_)
        have hP : va_P g.1 vwCl [(h0, .inr (0, [.int (nI ki), .int (nI kt), .int (nI kf), .int (nI km), .int (fr), .ref (h5), .ref (h6), .ref (h7)])), (h5, aJ g 720 (vp_updL (swL ray (o1 * 5) (o2 * 5) k) (o1 * 5 + k) (ray (o2 * 5 + k)))), (h6, aI g 144 tg), (h7, aJ g 144 sl)] H := hP
        have hD : va_D A [(h0, .inr (0, [.int (nI ki), .int (nI kt), .int (nI kf), .int (nI km), .int (fr), .ref (h5), .ref (h6), .ref (h7)])), (h5, aJ g 720 (vp_updL (swL ray (o1 * 5) (o2 * 5) k) (o1 * 5 + k) (ray (o2 * 5 + k)))), (h6, aI g 144 tg), (h7, aJ g 144 sl)] := hD
        refine lv_aload_n hx hb dX0_swap_42 rfl (lv_at hl 1 rfl) ?_
        refine k_get hx hb hts hown hK hP iw_X0_swap_X0 rfl 0 5 fm_X0_swap_11 (by decide) rfl rfl dX0_swap_43 ?_
        refine lv_iload_n hx hb dX0_swap_46 rfl (lv_at hl 3 rfl) ?_
        refine lv_iconst (v := nI 5) hx hb dX0_swap_47 (by decide) ?_
        refine lv_imul hx hb dX0_swap_48 ?_
        refine k_ei (y := nI (o2 * 5)) (pk_mul _ _) ?_
        refine lv_iload_n hx hb dX0_swap_49 rfl (lv_at hl 4 rfl) ?_
        refine lv_iadd hx hb dX0_swap_50 ?_
        refine k_ei (y := nI (o2 * 5 + k)) (nI_add _ _) ?_
        refine lv_lload hx hb dX0_swap_51 (lv_at hl 0 rfl) ?_
        refine k_last hx hb hK hP hD hS 1 rfl (by omega) (by omega) dX0_swap_53 (fun H locs hP hD hS => ?_)
        have hP : va_P g.1 vwCl [(h0, .inr (0, [.int (nI ki), .int (nI kt), .int (nI kf), .int (nI km), .int (fr), .ref (h5), .ref (h6), .ref (h7)])), (h5, aJ g 720 (vp_updL (vp_updL (swL ray (o1 * 5) (o2 * 5) k) (o1 * 5 + k) (ray (o2 * 5 + k))) (o2 * 5 + k) (ray (o1 * 5 + k)))), (h6, aI g 144 tg), (h7, aJ g 144 sl)] H := hP
        have hD : va_D A [(h0, .inr (0, [.int (nI ki), .int (nI kt), .int (nI kf), .int (nI km), .int (fr), .ref (h5), .ref (h6), .ref (h7)])), (h5, aJ g 720 (vp_updL (vp_updL (swL ray (o1 * 5) (o2 * 5) k) (o1 * 5 + k) (ray (o2 * 5 + k))) (o2 * 5 + k) (ray (o1 * 5 + k)))), (h6, aI g 144 tg), (h7, aJ g 144 sl)] := hD
        have e_3 : vp_updL (vp_updL (swL ray (o1 * 5) (o2 * 5) k) (o1 * 5 + k) (ray (o2 * 5 + k))) (o2 * 5 + k) (ray (o1 * 5 + k)) = swL ray (o1 * 5) (o2 * 5) (k + 1) := swL_succ h12 (by omega)
        rw [e_3] at hP hD
        refine lv_iinc (v := nI (k + 1)) (lv' := [(3, .int (nI (k + 1))), (4, .long (ray (o1 * 5 + k))), (0, .ref (h0)), (1, .int (nI o1)), (2, .int (nI o2))]) hx hb dX0_swap_54 hl (k := 4) rfl (nI_inc1 k) (by decide) rfl (fun ls hl => ?_)
        refine lv_goto (tgt := 2) hx hb dX0_swap_57 (by decide) ?_
        exact ih_2 (k + 1) (by omega) (by omega) _ _ hP hD hS ls (lv_sub hl [2, 3, 4, 0] rfl)
  exact lp_2 (kt + 1 - 0 + 1) 0 (by omega) (by omega) _ _ (by rw [swL_0]; exact hP) (by rw [swL_0]; exact hD) hS ls (lv_sub hl [1, 2, 3, 0] rfl)
theorem iw_X0_sort_X0 : ∀ w ∈ wsX00, w ∈ wsX0_sort := by decide +kernel
theorem fm_X0_sort_56 : Cond.fieldLink RX0 56 "EdgeBench$Cone" "many" "I" ∈ wsX0_sort := by decide +kernel
set_option maxHeartbeats 4000000 in
set_option maxRecDepth 100000 in
theorem c_X0_sort (l : Launch) (g : Gt) (h0 : Nat) (h5 : Nat) (h6 : Nat) (h7 : Nat) (ki : Nat) (kt : Nat) (kf : Nat) (km : Nat) (fr : Int32) (ray : Nat → Int64) (tg : Nat → Int32) (sl : Nat → Int64) (hm : km ≤ 144) (ht : kt ≤ 4) : CV l yX0_sort wsX0_sort { frames := 1, cells := 0, slots := 0, locals := 25 } g [.ref (h0)] [(h0, .inr (0, [.int (nI ki), .int (nI kt), .int (nI kf), .int (nI km), .int (fr), .ref (h5), .ref (h6), .ref (h7)])), (h5, aJ g 720 ray), (h6, aI g 144 tg), (h7, aJ g 144 sl)] (fun (zu : Unit) => True) (fun (zu : Unit) => [(h0, .inr (0, [.int (nI ki), .int (nI kt), .int (nI kf), .int (nI km), .int (fr), .ref (h5), .ref (h6), .ref (h7)])), (h5, aJ g 720 ((srO kt 1 (km - 1) (ray, tg)).1)), (h6, aI g 144 ((srO kt 1 (km - 1) (ray, tg)).2)), (h7, aJ g 144 sl)]) 0 0 := by
  refine ent_v (cc := cX0_sort) (maxL := 3) (by decide) rfl (Nat.le_of_ble_eq_true rfl) ?_
  intro p e s m below meth c A args Q hE ret ls hl
  obtain ⟨hx, hb, hml, hown, hts, hnm, hA, hP, hD, hK, hN⟩ := hE
  have hS : va_S A s.heap s.heap [] := va_S.rf
  have hl : lv_has ls 3 [(0, .ref (h0))] := hl
  have hP : va_P g.1 vwCl [(h0, .inr (0, [.int (nI ki), .int (nI kt), .int (nI kf), .int (nI km), .int (fr), .ref (h5), .ref (h6), .ref (h7)])), (h5, aJ g 720 ray), (h6, aI g 144 tg), (h7, aJ g 144 sl)] s.heap := hP
  refine lv_iconst (v := nI 1) hx hb dX0_sort_0 (by decide) ?_
  refine lv_istore_n (lv' := [(1, .int (nI 1)), (0, .ref (h0))]) hx hb dX0_sort_1 rfl hl (by decide) rfl (fun ls hl => ?_)
  have lp_2 : ∀ (n : Nat) (i : Nat) (st : (Nat → Int64) × (Nat → Int32)), km - i < n → 1 ≤ i → i ≤ 146 → srO kt 1 (km - 1) (ray, tg) = srO kt i (km - i) st → ∀ (H : Heap) (locs : List Loc), va_P g.1 vwCl [(h0, .inr (0, [.int (nI ki), .int (nI kt), .int (nI kf), .int (nI km), .int (fr), .ref (h5), .ref (h6), .ref (h7)])), (h5, aJ g 720 st.1), (h6, aI g 144 st.2), (h7, aJ g 144 sl)] H → va_D A [(h0, .inr (0, [.int (nI ki), .int (nI kt), .int (nI kf), .int (nI km), .int (fr), .ref (h5), .ref (h6), .ref (h7)])), (h5, aJ g 720 st.1), (h6, aI g 144 st.2), (h7, aJ g 144 sl)] → va_S A s.heap H locs → ∀ ls : Array Slot, lv_has ls 3 [(0, .ref (h0)), (1, .int (nI i))] → W p l e { frames := 1, cells := 0, slots := 0, locals := 25 } s m args below meth c H locs 0 0 Q (F0 m 2 ls []) := by
    intro n
    induction n with
    | zero =>
      intro i st hms
      omega
    | succ n ih_2 =>
      intro i st hms_2 hi hi2 hv H locs hP hD hS ls hl
      refine lv_iload_n hx hb dX0_sort_2 rfl (lv_at hl 1 rfl) ?_
      refine lv_aload_n hx hb dX0_sort_3 rfl (lv_at hl 0 rfl) ?_
      refine k_get hx hb hts hown hK hP iw_X0_sort_X0 rfl 0 3 fm_X0_sort_56 (by decide) rfl rfl dX0_sort_4 ?_
      refine lv_icmp_ge (tgt := 47) hx hb dX0_sort_7 (by decide) (fun c_1 => ?_) (fun c_1 => ?_)
      · skip
        have c_1 := (nI_leI (by omega) (by omega)).mp c_1
        have hres : srO kt 1 (km - 1) (ray, tg) = st := by rw [hv, show km - i = 0 by omega]; rfl
        exact ret dX0_sort_47 () (trivial) (by rw [hres]; exact hP) (by rw [hres]; exact hD) hS
      · skip
        have c_1 := mt (nI_leI (by omega) (by omega)).mpr c_1
        refine lv_iload_n hx hb dX0_sort_10 rfl (lv_at hl 1 rfl) ?_
        refine lv_istore_n (lv' := [(2, .int (nI i)), (0, .ref (h0)), (1, .int (nI i))]) hx hb dX0_sort_11 rfl hl (by decide) rfl (fun ls hl => ?_)
        have lp_12 : ∀ (n : Nat) (r : Nat) (st : (Nat → Int64) × (Nat → Int32)), r < n → r ≤ i → srO kt 1 (km - 1) (ray, tg) = srO kt (i + 1) (km - (i + 1)) (srI kt r st) → ∀ (H : Heap) (locs : List Loc), va_P g.1 vwCl [(h0, .inr (0, [.int (nI ki), .int (nI kt), .int (nI kf), .int (nI km), .int (fr), .ref (h5), .ref (h6), .ref (h7)])), (h5, aJ g 720 st.1), (h6, aI g 144 st.2), (h7, aJ g 144 sl)] H → va_D A [(h0, .inr (0, [.int (nI ki), .int (nI kt), .int (nI kf), .int (nI km), .int (fr), .ref (h5), .ref (h6), .ref (h7)])), (h5, aJ g 720 st.1), (h6, aI g 144 st.2), (h7, aJ g 144 sl)] → va_S A s.heap H locs → ∀ ls : Array Slot, lv_has ls 3 [(0, .ref (h0)), (1, .int (nI i)), (2, .int (nI r))] → W p l e { frames := 1, cells := 0, slots := 0, locals := 25 } s m args below meth c H locs 0 0 Q (F0 m 12 ls []) := by
          intro n
          induction n with
          | zero =>
            intro r st hms
            omega
          | succ n ih_12 =>
            intro r st hms_12 hr hw H locs hP hD hS ls hl
            refine lv_iload_n hx hb dX0_sort_12 rfl (lv_at hl 2 rfl) ?_
            refine lv_if_le (tgt := 41) hx hb dX0_sort_13 (by decide) (fun c_2 => ?_) (fun c_2 => ?_)
            · skip
              have c_2 := (nI_le0 (by omega)).mp c_2
              have hv2 : srO kt 1 (km - 1) (ray, tg) = srO kt (i + 1) (km - (i + 1)) st := by rw [hw, show r = 0 by omega]; rfl
              refine lv_iinc (v := nI (i + 1)) (lv' := [(1, .int (nI (i + 1))), (0, .ref (h0)), (2, .int (nI r))]) hx hb dX0_sort_41 hl (k := 1) rfl (nI_inc1 i) (by decide) rfl (fun ls hl => ?_)
              refine lv_goto (tgt := 2) hx hb dX0_sort_44 (by decide) ?_
              exact ih_2 (i + 1) st (by omega) (by omega) (by omega) hv2 _ _ hP hD hS ls (lv_sub hl [1, 0] rfl)
            · skip
              have c_2 := mt (nI_le0 (by omega)).mpr c_2
              obtain ⟨r1, rfl⟩ : ∃ r1, r = r1 + 1 := ⟨r - 1, by omega⟩
              refine lv_aload_n hx hb dX0_sort_16 rfl (lv_at hl 0 rfl) ?_
              refine lv_iload_n hx hb dX0_sort_17 rfl (lv_at hl 2 rfl) ?_
              refine lv_iload_n hx hb dX0_sort_18 rfl (lv_at hl 2 rfl) ?_
              refine lv_iconst (v := nI 1) hx hb dX0_sort_19 (by decide) ?_
              refine lv_isub hx hb dX0_sort_20 ?_
              refine k_ei (y := nI (((r1 + 1)) - 1)) (pk_sub (by omega)) ?_
              refine k_ei (y := nI r1) (rfl) ?_
              refine go_i (wc := [(h0, .inr (0, [.int (nI ki), .int (nI kt), .int (nI kf), .int (nI km), .int (fr), .ref (h5), .ref (h6), .ref (h7)])), (h5, aJ g 720 st.1), (h6, aI g 144 st.2), (h7, aJ g 144 sl)]) (wr := []) hP hD hS hA [0, 1, 2, 3] [] rfl rfl rfl rfl (by decide) (fun hPc hDc => rn_V (As := [.int (nI (r1 + 1)), .int (nI r1)]) (rest := []) ⟨hx, hb, hml, hown, hts⟩ ((c_X0_isBefore l g h0 h5 h6 h7 ki kt kf km fr st.1 st.2 sl ((r1 + 1)) r1 (by omega) (by omega) (by omega)) _) (cwV 2 hts gX0_sort_X0_isBefore rfl rfl rfl (by decide +kernel) ⟨Nat.le_of_ble_eq_true rfl, Nat.le_of_ble_eq_true rfl⟩) hK hN hPc hDc 0 rfl rfl rfl rfl hl.1 (Nat.le_of_ble_eq_true rfl) dX0_sort_21 ⟨Nat.le_of_ble_eq_true rfl, Nat.le_of_ble_eq_true rfl⟩) ?_
              intro r_3 u_4 H locs h_5 hP hD hS
              have hP : va_P g.1 vwCl [(h0, .inr (0, [.int (nI ki), .int (nI kt), .int (nI kf), .int (nI km), .int (fr), .ref (h5), .ref (h6), .ref (h7)])), (h5, aJ g 720 st.1), (h6, aI g 144 st.2), (h7, aJ g 144 sl)] H := hP.sub [0, 1, 2, 3] rfl
              have hD : va_D A [(h0, .inr (0, [.int (nI ki), .int (nI kt), .int (nI kf), .int (nI km), .int (fr), .ref (h5), .ref (h6), .ref (h7)])), (h5, aJ g 720 st.1), (h6, aI g 144 st.2), (h7, aJ g 144 sl)] := hD.sub [0, 1, 2, 3] rfl rfl
              have h_5 : r_3 = bI (befB st.1 (((r1 + 1)) * 5) (r1 * 5) 0 (kt + 1)) := h_5
              subst h_5
              refine lv_if_eq (tgt := 41) hx hb dX0_sort_24 (by decide) (fun c_6 => ?_) (fun c_6 => ?_)
              · skip
                have hv2 : srO kt 1 (km - 1) (ray, tg) = srO kt (i + 1) (km - (i + 1)) st := by rw [hw, srI, if_neg (by rw [bI_eq0.mp c_6]; decide)]
                refine lv_iinc (v := nI (i + 1)) (lv' := [(1, .int (nI (i + 1))), (0, .ref (h0)), (2, .int (nI (r1 + 1)))]) hx hb dX0_sort_41 hl (k := 1) rfl (nI_inc1 i) (by decide) rfl (fun ls hl => ?_)
                refine lv_goto (tgt := 2) hx hb dX0_sort_44 (by decide) ?_
                exact ih_2 (i + 1) st (by omega) (by omega) (by omega) hv2 _ _ hP hD hS ls (lv_sub hl [1, 0] rfl)
              · skip
                have hb1 := bI_ne0.mp c_6
                refine lv_aload_n hx hb dX0_sort_27 rfl (lv_at hl 0 rfl) ?_
                refine lv_iload_n hx hb dX0_sort_28 rfl (lv_at hl 2 rfl) ?_
                refine lv_iload_n hx hb dX0_sort_29 rfl (lv_at hl 2 rfl) ?_
                refine lv_iconst (v := nI 1) hx hb dX0_sort_30 (by decide) ?_
                refine lv_isub hx hb dX0_sort_31 ?_
                refine k_ei (y := nI (((r1 + 1)) - 1)) (pk_sub (by omega)) ?_
                refine k_ei (y := nI r1) (rfl) ?_
                refine go_v (wc := [(h0, .inr (0, [.int (nI ki), .int (nI kt), .int (nI kf), .int (nI km), .int (fr), .ref (h5), .ref (h6), .ref (h7)])), (h5, aJ g 720 st.1), (h6, aI g 144 st.2), (h7, aJ g 144 sl)]) (wr := []) hP hD hS hA [0, 1, 2, 3] [] rfl rfl rfl rfl (by decide) (fun hPc hDc => rn_V (As := [.int (nI (r1 + 1)), .int (nI r1)]) (rest := []) ⟨hx, hb, hml, hown, hts⟩ ((c_X0_swap l g h0 h5 h6 h7 ki kt kf km fr st.1 st.2 sl ((r1 + 1)) r1 (by omega) (by omega) (by omega) (by omega)) _) (cwV 2 hts gX0_sort_X0_swap rfl rfl rfl (by decide +kernel) ⟨Nat.le_of_ble_eq_true rfl, Nat.le_of_ble_eq_true rfl⟩) hK hN hPc hDc 0 rfl rfl rfl rfl hl.1 (Nat.le_of_ble_eq_true rfl) dX0_sort_32 ⟨Nat.le_of_ble_eq_true rfl, Nat.le_of_ble_eq_true rfl⟩) ?_
                intro u_8 H locs h_9 hP hD hS
                have hP : va_P g.1 vwCl [(h0, .inr (0, [.int (nI ki), .int (nI kt), .int (nI kf), .int (nI km), .int (fr), .ref (h5), .ref (h6), .ref (h7)])), (h5, aJ g 720 (swL st.1 (((r1 + 1)) * 5) (r1 * 5) (kt + 1))), (h6, aI g 144 (swT st.2 ((r1 + 1)) r1)), (h7, aJ g 144 sl)] H := hP.sub [0, 1, 2, 3] rfl
                have hD : va_D A [(h0, .inr (0, [.int (nI ki), .int (nI kt), .int (nI kf), .int (nI km), .int (fr), .ref (h5), .ref (h6), .ref (h7)])), (h5, aJ g 720 (swL st.1 (((r1 + 1)) * 5) (r1 * 5) (kt + 1))), (h6, aI g 144 (swT st.2 ((r1 + 1)) r1)), (h7, aJ g 144 sl)] := hD.sub [0, 1, 2, 3] rfl rfl
                refine lv_iinc (v := nI (((r1 + 1)) - 1)) (lv' := [(2, .int (nI (((r1 + 1)) - 1))), (0, .ref (h0)), (1, .int (nI i))]) hx hb dX0_sort_35 hl (k := 2) rfl (nI_dec (by omega)) (by decide) rfl (fun ls hl => ?_)
                refine lv_goto (tgt := 12) hx hb dX0_sort_38 (by decide) ?_
                exact ih_12 r1 ((swL st.1 ((r1 + 1) * 5) (r1 * 5) (kt + 1), swT st.2 (r1 + 1) r1)) (by omega) (by omega) (by rw [hw, srI, if_pos hb1]) _ _ hP hD hS ls (lv_sub hl [1, 2, 0] rfl)
        exact lp_12 (i + 1) i st (by omega) (by omega) (by rw [hv, show km - i = (km - (i + 1)) + 1 by omega]; rfl) _ _ hP hD hS ls (lv_sub hl [1, 2, 0] rfl)
  exact lp_2 (km - 1 + 1) 1 ((ray, tg)) (by omega) (by omega) (by omega) rfl _ _ hP hD hS ls (lv_sub hl [1, 0] rfl)
set_option maxHeartbeats 4000000 in
set_option maxRecDepth 100000 in
theorem c_J6_bitCount_0f7a4 (l : Launch) (g : Gt) (x : Int32) : CI l yJ6_bitCount_0f7a4 wsJ6_bitCount_0f7a4 { frames := 0, cells := 0, slots := 0, locals := 0 } g [.int (x)] [] (fun zr (zu : Unit) => zr = bcnt x) (fun (zu : Unit) => []) 0 0 := by
  refine ent_i (cc := cJ6_bitCount_0f7a4) (maxL := 1) (by decide) rfl (Nat.le_of_ble_eq_true rfl) ?_
  intro p e s m below meth c A args Q hE ret ls hl
  obtain ⟨hx, hb, hml, hown, hts, hnm, hA, hP, hD, hK, hN⟩ := hE
  have hS : va_S A s.heap s.heap [] := va_S.rf
  have hl : lv_has ls 1 [(0, .int (x))] := hl
  have hP : va_P g.1 vwCl [] s.heap := hP
  refine lv_iload_n hx hb dJ6_bitCount_0f7a4_0 rfl (lv_at hl 0 rfl) ?_
  refine lv_iload_n hx hb dJ6_bitCount_0f7a4_1 rfl (lv_at hl 0 rfl) ?_
  refine lv_iconst (v := nI 1) hx hb dJ6_bitCount_0f7a4_2 (by decide) ?_
  refine lv_iushr hx hb dJ6_bitCount_0f7a4_3 rfl ?_
  refine lv_ldcw (v := 1431655765) hx hb hown (hts _ (by decide +kernel)) dJ6_bitCount_0f7a4_4 ?_
  refine lv_iand hx hb dJ6_bitCount_0f7a4_7 ?_
  refine lv_isub hx hb dJ6_bitCount_0f7a4_8 ?_
  refine lv_istore_n (lv' := [(0, .int (x - (((x.toUInt32 >>> ((nI 1).toUInt32 &&& Int32.toUInt32 31)).toInt32) &&& 1431655765)))]) hx hb dJ6_bitCount_0f7a4_9 rfl hl (by decide) rfl (fun ls hl => ?_)
  refine lv_iload_n hx hb dJ6_bitCount_0f7a4_10 rfl (lv_at hl 0 rfl) ?_
  refine lv_ldcw (v := 858993459) hx hb hown (hts _ (by decide +kernel)) dJ6_bitCount_0f7a4_11 ?_
  refine lv_iand hx hb dJ6_bitCount_0f7a4_14 ?_
  refine lv_iload_n hx hb dJ6_bitCount_0f7a4_15 rfl (lv_at hl 0 rfl) ?_
  refine lv_iconst (v := nI 2) hx hb dJ6_bitCount_0f7a4_16 (by decide) ?_
  refine lv_iushr hx hb dJ6_bitCount_0f7a4_17 rfl ?_
  refine lv_ldcw (v := 858993459) hx hb hown (hts _ (by decide +kernel)) dJ6_bitCount_0f7a4_18 ?_
  refine lv_iand hx hb dJ6_bitCount_0f7a4_21 ?_
  refine lv_iadd hx hb dJ6_bitCount_0f7a4_22 ?_
  refine lv_istore_n (lv' := [(0, .int (((x - (((x.toUInt32 >>> ((nI 1).toUInt32 &&& Int32.toUInt32 31)).toInt32) &&& 1431655765)) &&& 858993459) + ((((x - (((x.toUInt32 >>> ((nI 1).toUInt32 &&& Int32.toUInt32 31)).toInt32) &&& 1431655765)).toUInt32 >>> ((nI 2).toUInt32 &&& Int32.toUInt32 31)).toInt32) &&& 858993459)))]) hx hb dJ6_bitCount_0f7a4_23 rfl hl (by decide) rfl (fun ls hl => ?_)
  refine lv_iload_n hx hb dJ6_bitCount_0f7a4_24 rfl (lv_at hl 0 rfl) ?_
  refine lv_iload_n hx hb dJ6_bitCount_0f7a4_25 rfl (lv_at hl 0 rfl) ?_
  refine lv_iconst (v := nI 4) hx hb dJ6_bitCount_0f7a4_26 (by decide) ?_
  refine lv_iushr hx hb dJ6_bitCount_0f7a4_27 rfl ?_
  refine lv_iadd hx hb dJ6_bitCount_0f7a4_28 ?_
  refine lv_ldcw (v := 252645135) hx hb hown (hts _ (by decide +kernel)) dJ6_bitCount_0f7a4_29 ?_
  refine lv_iand hx hb dJ6_bitCount_0f7a4_32 ?_
  refine lv_istore_n (lv' := [(0, .int (((((x - (((x.toUInt32 >>> ((nI 1).toUInt32 &&& Int32.toUInt32 31)).toInt32) &&& 1431655765)) &&& 858993459) + ((((x - (((x.toUInt32 >>> ((nI 1).toUInt32 &&& Int32.toUInt32 31)).toInt32) &&& 1431655765)).toUInt32 >>> ((nI 2).toUInt32 &&& Int32.toUInt32 31)).toInt32) &&& 858993459)) + (((((x - (((x.toUInt32 >>> ((nI 1).toUInt32 &&& Int32.toUInt32 31)).toInt32) &&& 1431655765)) &&& 858993459) + ((((x - (((x.toUInt32 >>> ((nI 1).toUInt32 &&& Int32.toUInt32 31)).toInt32) &&& 1431655765)).toUInt32 >>> ((nI 2).toUInt32 &&& Int32.toUInt32 31)).toInt32) &&& 858993459)).toUInt32 >>> ((nI 4).toUInt32 &&& Int32.toUInt32 31)).toInt32)) &&& 252645135))]) hx hb dJ6_bitCount_0f7a4_33 rfl hl (by decide) rfl (fun ls hl => ?_)
  refine lv_iload_n hx hb dJ6_bitCount_0f7a4_34 rfl (lv_at hl 0 rfl) ?_
  refine lv_iload_n hx hb dJ6_bitCount_0f7a4_35 rfl (lv_at hl 0 rfl) ?_
  refine lv_bipush (v := nI 8) hx hb dJ6_bitCount_0f7a4_36 (by decide) ?_
  refine lv_iushr hx hb dJ6_bitCount_0f7a4_38 rfl ?_
  refine lv_iadd hx hb dJ6_bitCount_0f7a4_39 ?_
  refine lv_istore_n (lv' := [(0, .int ((((((x - (((x.toUInt32 >>> ((nI 1).toUInt32 &&& Int32.toUInt32 31)).toInt32) &&& 1431655765)) &&& 858993459) + ((((x - (((x.toUInt32 >>> ((nI 1).toUInt32 &&& Int32.toUInt32 31)).toInt32) &&& 1431655765)).toUInt32 >>> ((nI 2).toUInt32 &&& Int32.toUInt32 31)).toInt32) &&& 858993459)) + (((((x - (((x.toUInt32 >>> ((nI 1).toUInt32 &&& Int32.toUInt32 31)).toInt32) &&& 1431655765)) &&& 858993459) + ((((x - (((x.toUInt32 >>> ((nI 1).toUInt32 &&& Int32.toUInt32 31)).toInt32) &&& 1431655765)).toUInt32 >>> ((nI 2).toUInt32 &&& Int32.toUInt32 31)).toInt32) &&& 858993459)).toUInt32 >>> ((nI 4).toUInt32 &&& Int32.toUInt32 31)).toInt32)) &&& 252645135) + (((((((x - (((x.toUInt32 >>> ((nI 1).toUInt32 &&& Int32.toUInt32 31)).toInt32) &&& 1431655765)) &&& 858993459) + ((((x - (((x.toUInt32 >>> ((nI 1).toUInt32 &&& Int32.toUInt32 31)).toInt32) &&& 1431655765)).toUInt32 >>> ((nI 2).toUInt32 &&& Int32.toUInt32 31)).toInt32) &&& 858993459)) + (((((x - (((x.toUInt32 >>> ((nI 1).toUInt32 &&& Int32.toUInt32 31)).toInt32) &&& 1431655765)) &&& 858993459) + ((((x - (((x.toUInt32 >>> ((nI 1).toUInt32 &&& Int32.toUInt32 31)).toInt32) &&& 1431655765)).toUInt32 >>> ((nI 2).toUInt32 &&& Int32.toUInt32 31)).toInt32) &&& 858993459)).toUInt32 >>> ((nI 4).toUInt32 &&& Int32.toUInt32 31)).toInt32)) &&& 252645135).toUInt32 >>> ((nI 8).toUInt32 &&& Int32.toUInt32 31)).toInt32)))]) hx hb dJ6_bitCount_0f7a4_40 rfl hl (by decide) rfl (fun ls hl => ?_)
  refine lv_iload_n hx hb dJ6_bitCount_0f7a4_41 rfl (lv_at hl 0 rfl) ?_
  refine lv_iload_n hx hb dJ6_bitCount_0f7a4_42 rfl (lv_at hl 0 rfl) ?_
  refine lv_bipush (v := nI 16) hx hb dJ6_bitCount_0f7a4_43 (by decide) ?_
  refine lv_iushr hx hb dJ6_bitCount_0f7a4_45 rfl ?_
  refine lv_iadd hx hb dJ6_bitCount_0f7a4_46 ?_
  refine lv_istore_n (lv' := [(0, .int (((((((x - (((x.toUInt32 >>> ((nI 1).toUInt32 &&& Int32.toUInt32 31)).toInt32) &&& 1431655765)) &&& 858993459) + ((((x - (((x.toUInt32 >>> ((nI 1).toUInt32 &&& Int32.toUInt32 31)).toInt32) &&& 1431655765)).toUInt32 >>> ((nI 2).toUInt32 &&& Int32.toUInt32 31)).toInt32) &&& 858993459)) + (((((x - (((x.toUInt32 >>> ((nI 1).toUInt32 &&& Int32.toUInt32 31)).toInt32) &&& 1431655765)) &&& 858993459) + ((((x - (((x.toUInt32 >>> ((nI 1).toUInt32 &&& Int32.toUInt32 31)).toInt32) &&& 1431655765)).toUInt32 >>> ((nI 2).toUInt32 &&& Int32.toUInt32 31)).toInt32) &&& 858993459)).toUInt32 >>> ((nI 4).toUInt32 &&& Int32.toUInt32 31)).toInt32)) &&& 252645135) + (((((((x - (((x.toUInt32 >>> ((nI 1).toUInt32 &&& Int32.toUInt32 31)).toInt32) &&& 1431655765)) &&& 858993459) + ((((x - (((x.toUInt32 >>> ((nI 1).toUInt32 &&& Int32.toUInt32 31)).toInt32) &&& 1431655765)).toUInt32 >>> ((nI 2).toUInt32 &&& Int32.toUInt32 31)).toInt32) &&& 858993459)) + (((((x - (((x.toUInt32 >>> ((nI 1).toUInt32 &&& Int32.toUInt32 31)).toInt32) &&& 1431655765)) &&& 858993459) + ((((x - (((x.toUInt32 >>> ((nI 1).toUInt32 &&& Int32.toUInt32 31)).toInt32) &&& 1431655765)).toUInt32 >>> ((nI 2).toUInt32 &&& Int32.toUInt32 31)).toInt32) &&& 858993459)).toUInt32 >>> ((nI 4).toUInt32 &&& Int32.toUInt32 31)).toInt32)) &&& 252645135).toUInt32 >>> ((nI 8).toUInt32 &&& Int32.toUInt32 31)).toInt32)) + ((((((((x - (((x.toUInt32 >>> ((nI 1).toUInt32 &&& Int32.toUInt32 31)).toInt32) &&& 1431655765)) &&& 858993459) + ((((x - (((x.toUInt32 >>> ((nI 1).toUInt32 &&& Int32.toUInt32 31)).toInt32) &&& 1431655765)).toUInt32 >>> ((nI 2).toUInt32 &&& Int32.toUInt32 31)).toInt32) &&& 858993459)) + (((((x - (((x.toUInt32 >>> ((nI 1).toUInt32 &&& Int32.toUInt32 31)).toInt32) &&& 1431655765)) &&& 858993459) + ((((x - (((x.toUInt32 >>> ((nI 1).toUInt32 &&& Int32.toUInt32 31)).toInt32) &&& 1431655765)).toUInt32 >>> ((nI 2).toUInt32 &&& Int32.toUInt32 31)).toInt32) &&& 858993459)).toUInt32 >>> ((nI 4).toUInt32 &&& Int32.toUInt32 31)).toInt32)) &&& 252645135) + (((((((x - (((x.toUInt32 >>> ((nI 1).toUInt32 &&& Int32.toUInt32 31)).toInt32) &&& 1431655765)) &&& 858993459) + ((((x - (((x.toUInt32 >>> ((nI 1).toUInt32 &&& Int32.toUInt32 31)).toInt32) &&& 1431655765)).toUInt32 >>> ((nI 2).toUInt32 &&& Int32.toUInt32 31)).toInt32) &&& 858993459)) + (((((x - (((x.toUInt32 >>> ((nI 1).toUInt32 &&& Int32.toUInt32 31)).toInt32) &&& 1431655765)) &&& 858993459) + ((((x - (((x.toUInt32 >>> ((nI 1).toUInt32 &&& Int32.toUInt32 31)).toInt32) &&& 1431655765)).toUInt32 >>> ((nI 2).toUInt32 &&& Int32.toUInt32 31)).toInt32) &&& 858993459)).toUInt32 >>> ((nI 4).toUInt32 &&& Int32.toUInt32 31)).toInt32)) &&& 252645135).toUInt32 >>> ((nI 8).toUInt32 &&& Int32.toUInt32 31)).toInt32)).toUInt32 >>> ((nI 16).toUInt32 &&& Int32.toUInt32 31)).toInt32)))]) hx hb dJ6_bitCount_0f7a4_47 rfl hl (by decide) rfl (fun ls hl => ?_)
  refine lv_iload_n hx hb dJ6_bitCount_0f7a4_48 rfl (lv_at hl 0 rfl) ?_
  refine lv_bipush (v := nI 63) hx hb dJ6_bitCount_0f7a4_49 (by decide) ?_
  refine lv_iand hx hb dJ6_bitCount_0f7a4_51 ?_
  exact ret dJ6_bitCount_0f7a4_52 () (rfl) hP hD hS
theorem iw_X0_areNeighbours_X0 : ∀ w ∈ wsX00, w ∈ wsX0_areNeighbours := by decide +kernel
theorem fm_X0_areNeighbours_15 : Cond.fieldLink RX0 15 "EdgeBench$Cone" "tight" "[I" ∈ wsX0_areNeighbours := by decide +kernel
theorem fm_X0_areNeighbours_35 : Cond.fieldLink RX0 35 "EdgeBench$Cone" "fewestShared" "I" ∈ wsX0_areNeighbours := by decide +kernel
set_option maxHeartbeats 4000000 in
set_option maxRecDepth 100000 in
theorem c_X0_areNeighbours (l : Launch) (g : Gt) (h0 : Nat) (h5 : Nat) (h6 : Nat) (h7 : Nat) (ki : Nat) (kt : Nat) (kf : Nat) (km : Nat) (fr : Int32) (ray : Nat → Int64) (tg : Nat → Int32) (sl : Nat → Int64) (o1 : Nat) (o2 : Nat) (old : Nat) (h1 : o1 < 144) (h2 : o2 < 144) (ho : old ≤ 144) (hf : kf ≤ 8) : CI l yX0_areNeighbours wsX0_areNeighbours { frames := 1, cells := 0, slots := 0, locals := 20 } g [.ref (h0), .int (nI o1), .int (nI o2), .int (nI old)] [(h0, .inr (0, [.int (nI ki), .int (nI kt), .int (nI kf), .int (nI km), .int (fr), .ref (h5), .ref (h6), .ref (h7)])), (h5, aJ g 720 ray), (h6, aI g 144 tg), (h7, aJ g 144 sl)] (fun zr (zu : Unit) => zr = bI (nbB tg kf o1 o2 old)) (fun (zu : Unit) => [(h0, .inr (0, [.int (nI ki), .int (nI kt), .int (nI kf), .int (nI km), .int (fr), .ref (h5), .ref (h6), .ref (h7)])), (h5, aJ g 720 ray), (h6, aI g 144 tg), (h7, aJ g 144 sl)]) 0 0 := by
  refine ent_z (cc := cX0_areNeighbours) (maxL := 6) (by decide) rfl (Nat.le_of_ble_eq_true rfl) ?_
  intro p e s m below meth c A args Q hE ret ls hl
  obtain ⟨hx, hb, hml, hown, hts, hnm, hA, hP, hD, hK, hN⟩ := hE
  have hS : va_S A s.heap s.heap [] := va_S.rf
  have hl : lv_has ls 6 [(0, .ref (h0)), (1, .int (nI o1)), (2, .int (nI o2)), (3, .int (nI old))] := hl
  have hP : va_P g.1 vwCl [(h0, .inr (0, [.int (nI ki), .int (nI kt), .int (nI kf), .int (nI km), .int (fr), .ref (h5), .ref (h6), .ref (h7)])), (h5, aJ g 720 ray), (h6, aI g 144 tg), (h7, aJ g 144 sl)] s.heap := hP
  refine lv_aload_n hx hb dX0_areNeighbours_0 rfl (lv_at hl 0 rfl) ?_
  refine k_get hx hb hts hown hK hP iw_X0_areNeighbours_X0 rfl 0 6 fm_X0_areNeighbours_15 (by decide) rfl rfl dX0_areNeighbours_1 ?_
  refine lv_iload_n hx hb dX0_areNeighbours_4 rfl (lv_at hl 1 rfl) ?_
  refine k_iald hx hb hK hP 2 rfl (by omega) (by omega) dX0_areNeighbours_5 ?_
  refine lv_aload_n hx hb dX0_areNeighbours_6 rfl (lv_at hl 0 rfl) ?_
  refine k_get hx hb hts hown hK hP iw_X0_areNeighbours_X0 rfl 0 6 fm_X0_areNeighbours_15 (by decide) rfl rfl dX0_areNeighbours_7 ?_
  refine lv_iload_n hx hb dX0_areNeighbours_10 rfl (lv_at hl 2 rfl) ?_
  refine k_iald hx hb hK hP 2 rfl (by omega) (by omega) dX0_areNeighbours_11 ?_
  refine lv_iand hx hb dX0_areNeighbours_12 ?_
  refine k_ei (y := tg o1 &&& tg o2) (rfl) ?_
  refine lv_istore (lv' := [(4, .int (tg o1 &&& tg o2)), (0, .ref (h0)), (1, .int (nI o1)), (2, .int (nI o2)), (3, .int (nI old))]) hx hb dX0_areNeighbours_13 hl (by decide) rfl (fun ls hl => ?_)
  refine lv_iload hx hb dX0_areNeighbours_15 (lv_at hl 0 rfl) ?_
  refine go_i (wc := []) (wr := [(h0, .inr (0, [.int (nI ki), .int (nI kt), .int (nI kf), .int (nI km), .int (fr), .ref (h5), .ref (h6), .ref (h7)])), (h5, aJ g 720 ray), (h6, aI g 144 tg), (h7, aJ g 144 sl)]) hP hD hS hA [] [0, 1, 2, 3] rfl rfl rfl rfl (by decide) (fun hPc hDc => rn_S (As := [.int (tg o1 &&& tg o2)]) (rest := []) ⟨hx, hb, hml, hown, hts⟩ ((c_J6_bitCount_0f7a4 l g (tg o1 &&& tg o2) ) _) (va_cwS 1 hts gX0_areNeighbours_J6_bitCount_0f7a4 rfl rfl rfl (by decide +kernel) ⟨Nat.le_of_ble_eq_true rfl, Nat.le_of_ble_eq_true rfl⟩) hK hN hPc hDc rfl rfl hl.1 (Nat.le_of_ble_eq_true rfl) dX0_areNeighbours_17 ⟨Nat.le_of_ble_eq_true rfl, Nat.le_of_ble_eq_true rfl⟩) ?_
  intro r_1 u_2 H locs h_3 hP hD hS
  have hP : va_P g.1 vwCl [(h0, .inr (0, [.int (nI ki), .int (nI kt), .int (nI kf), .int (nI km), .int (fr), .ref (h5), .ref (h6), .ref (h7)])), (h5, aJ g 720 ray), (h6, aI g 144 tg), (h7, aJ g 144 sl)] H := hP.sub [0, 1, 2, 3] rfl
  have hD : va_D A [(h0, .inr (0, [.int (nI ki), .int (nI kt), .int (nI kf), .int (nI km), .int (fr), .ref (h5), .ref (h6), .ref (h7)])), (h5, aJ g 720 ray), (h6, aI g 144 tg), (h7, aJ g 144 sl)] := hD.sub [0, 1, 2, 3] rfl rfl
  have h_3 : r_1 = bcnt (tg o1 &&& tg o2) := h_3
  subst h_3
  refine lv_aload_n hx hb dX0_areNeighbours_20 rfl (lv_at hl 1 rfl) ?_
  refine k_get hx hb hts hown hK hP iw_X0_areNeighbours_X0 rfl 0 2 fm_X0_areNeighbours_35 (by decide) rfl rfl dX0_areNeighbours_21 ?_
  refine lv_icmp_ge (tgt := 29) hx hb dX0_areNeighbours_24 (by decide) (fun c_4 => ?_) (fun c_4 => ?_)
  · skip
    have hbc := c_4
    refine lv_iconst (v := nI 0) hx hb dX0_areNeighbours_29 (by decide) ?_
    refine lv_istore (lv' := [(5, .int (nI 0)), (4, .int (tg o1 &&& tg o2)), (0, .ref (h0)), (1, .int (nI o1)), (2, .int (nI o2)), (3, .int (nI old))]) hx hb dX0_areNeighbours_30 hl (by decide) rfl (fun ls hl => ?_)
    have lp_32 : ∀ (n : Nat) (k : Nat), old - k < n → k ≤ old → nbL tg (tg o1 &&& tg o2) o1 o2 0 old = nbL tg (tg o1 &&& tg o2) o1 o2 k (old - k) → ∀ (H : Heap) (locs : List Loc), va_P g.1 vwCl [(h0, .inr (0, [.int (nI ki), .int (nI kt), .int (nI kf), .int (nI km), .int (fr), .ref (h5), .ref (h6), .ref (h7)])), (h5, aJ g 720 ray), (h6, aI g 144 tg), (h7, aJ g 144 sl)] H → va_D A [(h0, .inr (0, [.int (nI ki), .int (nI kt), .int (nI kf), .int (nI km), .int (fr), .ref (h5), .ref (h6), .ref (h7)])), (h5, aJ g 720 ray), (h6, aI g 144 tg), (h7, aJ g 144 sl)] → va_S A s.heap H locs → ∀ ls : Array Slot, lv_has ls 6 [(0, .ref (h0)), (1, .int (nI o1)), (2, .int (nI o2)), (3, .int (nI old)), (4, .int (tg o1 &&& tg o2)), (5, .int (nI k))] → W p l e { frames := 1, cells := 0, slots := 0, locals := 20 } s m args below meth c H locs 0 0 Q (F0 m 32 ls []) := by
      intro n
      induction n with
      | zero =>
        intro k hms
        omega
      | succ n ih_32 =>
        intro k hms_32 hk hv H locs hP hD hS ls hl
        refine lv_iload hx hb dX0_areNeighbours_32 (lv_at hl 5 rfl) ?_
        refine lv_iload_n hx hb dX0_areNeighbours_34 rfl (lv_at hl 3 rfl) ?_
        refine lv_icmp_ge (tgt := 73) hx hb dX0_areNeighbours_35 (by decide) (fun c_5 => ?_) (fun c_5 => ?_)
        · skip
          have c_5 := (nI_leI (by omega) (by omega)).mp c_5
          refine lv_iconst (v := nI 1) hx hb dX0_areNeighbours_73 (by decide) ?_
          exact ret dX0_areNeighbours_74 () (by rw [nbB, if_pos hbc, hv, show old - k = 0 by omega]; rfl) (by decide) hP hD hS
        · skip
          have c_5 := mt (nI_leI (by omega) (by omega)).mpr c_5
          refine lv_iload hx hb dX0_areNeighbours_38 (lv_at hl 5 rfl) ?_
          refine lv_iload_n hx hb dX0_areNeighbours_40 rfl (lv_at hl 1 rfl) ?_
          refine lv_icmp_eq (tgt := 67) hx hb dX0_areNeighbours_41 (by decide) (fun c_6 => ?_) (fun c_6 => ?_)
          · skip
            have c_6 := (nI_eq (by omega) (by omega)).mp c_6
            have hv2 : nbL tg (tg o1 &&& tg o2) o1 o2 0 old = nbL tg (tg o1 &&& tg o2) o1 o2 (k + 1) (old - (k + 1)) := by rw [hv, show old - k = (old - (k + 1)) + 1 by omega, nbL, if_neg (fun q => q.1 c_6)]
            refine lv_iinc (v := nI (k + 1)) (lv' := [(5, .int (nI (k + 1))), (0, .ref (h0)), (1, .int (nI o1)), (2, .int (nI o2)), (3, .int (nI old)), (4, .int (tg o1 &&& tg o2))]) hx hb dX0_areNeighbours_67 hl (k := 5) rfl (nI_inc1 k) (by decide) rfl (fun ls hl => ?_)
            refine lv_goto (tgt := 32) hx hb dX0_areNeighbours_70 (by decide) ?_
            exact ih_32 (k + 1) (by omega) (by omega) hv2 _ _ hP hD hS ls (lv_sub hl [1, 2, 3, 4, 5, 0] rfl)
          · skip
            have c_6 := mt (nI_eq (by omega) (by omega)).mpr c_6
            have n1 := c_6
            refine lv_iload hx hb dX0_areNeighbours_44 (lv_at hl 5 rfl) ?_
            refine lv_iload_n hx hb dX0_areNeighbours_46 rfl (lv_at hl 2 rfl) ?_
            refine lv_icmp_eq (tgt := 67) hx hb dX0_areNeighbours_47 (by decide) (fun c_7 => ?_) (fun c_7 => ?_)
            · skip
              have c_7 := (nI_eq (by omega) (by omega)).mp c_7
              have hv2 : nbL tg (tg o1 &&& tg o2) o1 o2 0 old = nbL tg (tg o1 &&& tg o2) o1 o2 (k + 1) (old - (k + 1)) := by rw [hv, show old - k = (old - (k + 1)) + 1 by omega, nbL, if_neg (fun q => q.2.1 c_7)]
              refine lv_iinc (v := nI (k + 1)) (lv' := [(5, .int (nI (k + 1))), (0, .ref (h0)), (1, .int (nI o1)), (2, .int (nI o2)), (3, .int (nI old)), (4, .int (tg o1 &&& tg o2))]) hx hb dX0_areNeighbours_67 hl (k := 5) rfl (nI_inc1 k) (by decide) rfl (fun ls hl => ?_)
              refine lv_goto (tgt := 32) hx hb dX0_areNeighbours_70 (by decide) ?_
              exact ih_32 (k + 1) (by omega) (by omega) hv2 _ _ hP hD hS ls (lv_sub hl [1, 2, 3, 4, 5, 0] rfl)
            · skip
              have c_7 := mt (nI_eq (by omega) (by omega)).mpr c_7
              have n2 := c_7
              refine lv_aload_n hx hb dX0_areNeighbours_50 rfl (lv_at hl 0 rfl) ?_
              refine k_get hx hb hts hown hK hP iw_X0_areNeighbours_X0 rfl 0 6 fm_X0_areNeighbours_15 (by decide) rfl rfl dX0_areNeighbours_51 ?_
              refine lv_iload hx hb dX0_areNeighbours_54 (lv_at hl 5 rfl) ?_
              refine k_iald hx hb hK hP 2 rfl (by omega) (by omega) dX0_areNeighbours_56 ?_
              refine lv_iload hx hb dX0_areNeighbours_57 (lv_at hl 4 rfl) ?_
              refine lv_iand hx hb dX0_areNeighbours_59 ?_
              refine lv_iload hx hb dX0_areNeighbours_60 (lv_at hl 4 rfl) ?_
              refine lv_icmp_ne (tgt := 67) hx hb dX0_areNeighbours_62 (by decide) (fun c_8 => ?_) (fun c_8 => ?_)
              · skip
                have hv2 : nbL tg (tg o1 &&& tg o2) o1 o2 0 old = nbL tg (tg o1 &&& tg o2) o1 o2 (k + 1) (old - (k + 1)) := by rw [hv, show old - k = (old - (k + 1)) + 1 by omega, nbL, if_neg (fun q => c_8 q.2.2)]
                refine lv_iinc (v := nI (k + 1)) (lv' := [(5, .int (nI (k + 1))), (0, .ref (h0)), (1, .int (nI o1)), (2, .int (nI o2)), (3, .int (nI old)), (4, .int (tg o1 &&& tg o2))]) hx hb dX0_areNeighbours_67 hl (k := 5) rfl (nI_inc1 k) (by decide) rfl (fun ls hl => ?_)
                refine lv_goto (tgt := 32) hx hb dX0_areNeighbours_70 (by decide) ?_
                exact ih_32 (k + 1) (by omega) (by omega) hv2 _ _ hP hD hS ls (lv_sub hl [1, 2, 3, 4, 5, 0] rfl)
              · skip
                have n3 := c_8
                refine lv_iconst (v := nI 0) hx hb dX0_areNeighbours_65 (by decide) ?_
                exact ret dX0_areNeighbours_66 () (by rw [nbB, if_pos hbc, hv, show old - k = (old - (k + 1)) + 1 by omega, nbL, if_pos ⟨n1, n2, n3⟩]; rfl) (by decide) hP hD hS
    exact lp_32 (old - 0 + 1) 0 (by omega) (by omega) rfl _ _ hP hD hS ls (lv_sub hl [2, 3, 4, 5, 1, 0] rfl)
  · skip
    have hbc := c_4
    refine lv_iconst (v := nI 0) hx hb dX0_areNeighbours_27 (by decide) ?_
    exact ret dX0_areNeighbours_28 () (by rw [nbB, if_neg hbc]; rfl) (by decide) hP hD hS
theorem iw_X0_join_X0 : ∀ w ∈ wsX00, w ∈ wsX0_join := by decide +kernel
theorem fm_X0_join_56 : Cond.fieldLink RX0 56 "EdgeBench$Cone" "many" "I" ∈ wsX0_join := by decide +kernel
theorem fm_X0_join_32 : Cond.fieldLink RX0 32 "EdgeBench$Cone" "things" "I" ∈ wsX0_join := by decide +kernel
theorem fm_X0_join_15 : Cond.fieldLink RX0 15 "EdgeBench$Cone" "tight" "[I" ∈ wsX0_join := by decide +kernel
theorem fm_X0_join_11 : Cond.fieldLink RX0 11 "EdgeBench$Cone" "ray" "[J" ∈ wsX0_join := by decide +kernel
theorem fm_X0_join_19 : Cond.fieldLink RX0 19 "EdgeBench$Cone" "slack" "[J" ∈ wsX0_join := by decide +kernel
set_option maxHeartbeats 4000000 in
set_option maxRecDepth 100000 in
theorem c_X0_join (l : Launch) (g : Gt) (h0 : Nat) (h5 : Nat) (h6 : Nat) (h7 : Nat) (ki : Nat) (kt : Nat) (kf : Nat) (km : Nat) (fr : Int32) (ray : Nat → Int64) (tg : Nat → Int32) (sl : Nat → Int64) (w : Nat) (b : Nat) (bd : Int32) (hw : w < km) (hb0 : b < km) (hm : km ≤ 144) (ht : kt ≤ 4) : CV l yX0_join wsX0_join { frames := 1, cells := 0, slots := 0, locals := 30 } g [.ref (h0), .int (nI w), .int (nI b), .int (bd)] [(h0, .inr (0, [.int (nI ki), .int (nI kt), .int (nI kf), .int (nI km), .int (fr), .ref (h5), .ref (h6), .ref (h7)])), (h5, aJ g 720 ray), (h6, aI g 144 tg), (h7, aJ g 144 sl)] (fun (zu : Unit) => True) (fun (zu : Unit) => [(h0, .inr (0, [.int (nI ki), .int (nI kt), .int (nI kf), .int (nI ((jnS kt sl bd w b (km, ray, tg)).1)), .int (fr), .ref (h5), .ref (h6), .ref (h7)])), (h5, aJ g 720 ((jnS kt sl bd w b (km, ray, tg)).2.1)), (h6, aI g 144 ((jnS kt sl bd w b (km, ray, tg)).2.2)), (h7, aJ g 144 sl)]) 0 0 := by
  refine ent_v (cc := cX0_join) (maxL := 9) (by decide) rfl (Nat.le_of_ble_eq_true rfl) ?_
  intro p e s m below meth c A args Q hE ret ls hl
  obtain ⟨hx, hb, hml, hown, hts, hnm, hA, hP, hD, hK, hN⟩ := hE
  have hS : va_S A s.heap s.heap [] := va_S.rf
  have hl : lv_has ls 9 [(0, .ref (h0)), (1, .int (nI w)), (2, .int (nI b)), (3, .int (bd))] := hl
  have hP : va_P g.1 vwCl [(h0, .inr (0, [.int (nI ki), .int (nI kt), .int (nI kf), .int (nI km), .int (fr), .ref (h5), .ref (h6), .ref (h7)])), (h5, aJ g 720 ray), (h6, aI g 144 tg), (h7, aJ g 144 sl)] s.heap := hP
  refine lv_aload_n hx hb dX0_join_0 rfl (lv_at hl 0 rfl) ?_
  refine k_get hx hb hts hown hK hP iw_X0_join_X0 rfl 0 3 fm_X0_join_56 (by decide) rfl rfl dX0_join_1 ?_
  refine lv_sipush (v := nI 144) hx hb dX0_join_4 (by decide) ?_
  refine lv_icmp_lt (tgt := 11) hx hb dX0_join_7 (by decide) (fun c_1 => ?_) (fun c_1 => ?_)
  · skip
    have c_1 := (nI_ltI (by omega) (by omega)).mp c_1
    have hj : (jnS kt sl bd w b (km, ray, tg)) = (km + 1, pL ray (km * 5) (jnR kt ray sl w b) (kt + 1), upd tg km ((tg w &&& tg b) ||| bd)) := if_pos c_1
    refine lv_lconst (v := 0) hx hb dX0_join_11 (by decide) ?_
    refine lv_lstore (lv' := [(4, .long (0)), (0, .ref (h0)), (1, .int (nI w)), (2, .int (nI b)), (3, .int (bd))]) hx hb dX0_join_12 hl (by decide) rfl (fun ls hl => ?_)
    refine lv_iconst (v := nI 0) hx hb dX0_join_14 (by decide) ?_
    refine lv_istore (lv' := [(6, .int (nI 0)), (4, .long (0)), (0, .ref (h0)), (1, .int (nI w)), (2, .int (nI b)), (3, .int (bd))]) hx hb dX0_join_15 hl (by decide) rfl (fun ls hl => ?_)
    have lp_17 : ∀ (n : Nat) (k : Nat) (d : Int64), kt + 1 - k < n → k ≤ kt + 1 → jnD (jnG ray sl w b) 0 (kt + 1) 0 = jnD (jnG ray sl w b) k (kt + 1 - k) d → ∀ (H : Heap) (locs : List Loc), va_P g.1 vwCl [(h0, .inr (0, [.int (nI ki), .int (nI kt), .int (nI kf), .int (nI km), .int (fr), .ref (h5), .ref (h6), .ref (h7)])), (h5, aJ g 720 (pL ray (km * 5) (jnG ray sl w b) k)), (h6, aI g 144 tg), (h7, aJ g 144 sl)] H → va_D A [(h0, .inr (0, [.int (nI ki), .int (nI kt), .int (nI kf), .int (nI km), .int (fr), .ref (h5), .ref (h6), .ref (h7)])), (h5, aJ g 720 (pL ray (km * 5) (jnG ray sl w b) k)), (h6, aI g 144 tg), (h7, aJ g 144 sl)] → va_S A s.heap H locs → ∀ ls : Array Slot, lv_has ls 9 [(0, .ref (h0)), (1, .int (nI w)), (2, .int (nI b)), (3, .int (bd)), (4, .long (d)), (6, .int (nI k))] → W p l e { frames := 1, cells := 0, slots := 0, locals := 30 } s m args below meth c H locs 0 0 Q (F0 m 17 ls []) := by
      intro n
      induction n with
      | zero =>
        intro k d hms
        omega
      | succ n ih_17 =>
        intro k d hms_17 hk hv H locs hP hD hS ls hl
        refine lv_iload hx hb dX0_join_17 (lv_at hl 5 rfl) ?_
        refine lv_aload_n hx hb dX0_join_19 rfl (lv_at hl 0 rfl) ?_
        refine k_get hx hb hts hown hK hP iw_X0_join_X0 rfl 0 1 fm_X0_join_32 (by decide) rfl rfl dX0_join_20 ?_
        refine lv_icmp_gt (tgt := 96) hx hb dX0_join_23 (by decide) (fun c_2 => ?_) (fun c_2 => ?_)
        · skip
          have c_2 := (nI_ltI (by omega) (by omega)).mp c_2
          have hd : jnD (jnG ray sl w b) 0 (kt + 1) 0 = d := by rw [hv, show kt + 1 - k = 0 by omega]; rfl
          obtain rfl : k = kt + 1 := by omega
          refine lv_iconst (v := nI 0) hx hb dX0_join_96 (by decide) ?_
          refine lv_istore (lv' := [(6, .int (nI 0)), (0, .ref (h0)), (1, .int (nI w)), (2, .int (nI b)), (3, .int (bd)), (4, .long (d))]) hx hb dX0_join_97 hl (by decide) rfl (fun ls hl => ?_)
          have lp_99 : ∀ (n : Nat) (k : Nat), kt + 1 - k < n → k ≤ kt + 1 → k = 0 ∨ 1 < d → ∀ (H : Heap) (locs : List Loc), va_P g.1 vwCl [(h0, .inr (0, [.int (nI ki), .int (nI kt), .int (nI kf), .int (nI km), .int (fr), .ref (h5), .ref (h6), .ref (h7)])), (h5, aJ g 720 (pL (pL ray (km * 5) (jnG ray sl w b) (kt + 1)) (km * 5) (fun i => jnG ray sl w b i / d) k)), (h6, aI g 144 tg), (h7, aJ g 144 sl)] H → va_D A [(h0, .inr (0, [.int (nI ki), .int (nI kt), .int (nI kf), .int (nI km), .int (fr), .ref (h5), .ref (h6), .ref (h7)])), (h5, aJ g 720 (pL (pL ray (km * 5) (jnG ray sl w b) (kt + 1)) (km * 5) (fun i => jnG ray sl w b i / d) k)), (h6, aI g 144 tg), (h7, aJ g 144 sl)] → va_S A s.heap H locs → ∀ ls : Array Slot, lv_has ls 9 [(0, .ref (h0)), (1, .int (nI w)), (2, .int (nI b)), (3, .int (bd)), (4, .long (d)), (6, .int (nI k))] → W p l e { frames := 1, cells := 0, slots := 0, locals := 30 } s m args below meth c H locs 0 0 Q (F0 m 99 ls []) := by
            intro n
            induction n with
            | zero =>
              intro k hms
              omega
            | succ n ih_99 =>
              intro k hms_99 hk hkd H locs hP hD hS ls hl
              refine lv_iload hx hb dX0_join_99 (lv_at hl 5 rfl) ?_
              refine lv_aload_n hx hb dX0_join_101 rfl (lv_at hl 0 rfl) ?_
              refine k_get hx hb hts hown hK hP iw_X0_join_X0 rfl 0 1 fm_X0_join_32 (by decide) rfl rfl dX0_join_102 ?_
              have lp_140 : ∀ (H : Heap) (locs : List Loc), va_P g.1 vwCl [(h0, .inr (0, [.int (nI ki), .int (nI kt), .int (nI kf), .int (nI km), .int (fr), .ref (h5), .ref (h6), .ref (h7)])), (h5, aJ g 720 (pL ray (km * 5) (jnR kt ray sl w b) (kt + 1))), (h6, aI g 144 tg), (h7, aJ g 144 sl)] H → va_D A [(h0, .inr (0, [.int (nI ki), .int (nI kt), .int (nI kf), .int (nI km), .int (fr), .ref (h5), .ref (h6), .ref (h7)])), (h5, aJ g 720 (pL ray (km * 5) (jnR kt ray sl w b) (kt + 1))), (h6, aI g 144 tg), (h7, aJ g 144 sl)] → va_S A s.heap H locs → ∀ ls : Array Slot, lv_has ls 9 [(0, .ref (h0)), (1, .int (nI w)), (2, .int (nI b)), (3, .int (bd))] → W p l e { frames := 1, cells := 0, slots := 0, locals := 30 } s m args below meth c H locs 0 0 Q (F0 m 140 ls []) := by
                intro   H locs hP hD hS ls hl
                refine lv_aload_n hx hb dX0_join_140 rfl (lv_at hl 0 rfl) ?_
                refine k_get hx hb hts hown hK hP iw_X0_join_X0 rfl 0 6 fm_X0_join_15 (by decide) rfl rfl dX0_join_141 ?_
                refine lv_aload_n hx hb dX0_join_144 rfl (lv_at hl 0 rfl) ?_
                refine k_get hx hb hts hown hK hP iw_X0_join_X0 rfl 0 3 fm_X0_join_56 (by decide) rfl rfl dX0_join_145 ?_
                refine lv_aload_n hx hb dX0_join_148 rfl (lv_at hl 0 rfl) ?_
                refine k_get hx hb hts hown hK hP iw_X0_join_X0 rfl 0 6 fm_X0_join_15 (by decide) rfl rfl dX0_join_149 ?_
                refine lv_iload_n hx hb dX0_join_152 rfl (lv_at hl 1 rfl) ?_
                refine k_iald hx hb hK hP 2 rfl (by omega) (by omega) dX0_join_153 ?_
                refine lv_aload_n hx hb dX0_join_154 rfl (lv_at hl 0 rfl) ?_
                refine k_get hx hb hts hown hK hP iw_X0_join_X0 rfl 0 6 fm_X0_join_15 (by decide) rfl rfl dX0_join_155 ?_
                refine lv_iload_n hx hb dX0_join_158 rfl (lv_at hl 2 rfl) ?_
                refine k_iald hx hb hK hP 2 rfl (by omega) (by omega) dX0_join_159 ?_
                refine lv_iand hx hb dX0_join_160 ?_
                refine lv_iload_n hx hb dX0_join_161 rfl (lv_at hl 3 rfl) ?_
                refine lv_ior hx hb dX0_join_162 ?_
                refine k_iast hx hb hK hP hD hS 2 rfl (by omega) (by omega) dX0_join_163 (fun H locs hP hD hS => ?_)
                have hP : va_P g.1 vwCl [(h0, .inr (0, [.int (nI ki), .int (nI kt), .int (nI kf), .int (nI km), .int (fr), .ref (h5), .ref (h6), .ref (h7)])), (h5, aJ g 720 (pL ray (km * 5) (jnR kt ray sl w b) (kt + 1))), (h6, aI g 144 (upd tg km (((tg w) &&& (tg b)) ||| bd))), (h7, aJ g 144 sl)] H := hP
                have hD : va_D A [(h0, .inr (0, [.int (nI ki), .int (nI kt), .int (nI kf), .int (nI km), .int (fr), .ref (h5), .ref (h6), .ref (h7)])), (h5, aJ g 720 (pL ray (km * 5) (jnR kt ray sl w b) (kt + 1))), (h6, aI g 144 (upd tg km (((tg w) &&& (tg b)) ||| bd))), (h7, aJ g 144 sl)] := hD
                refine lv_aload_n hx hb dX0_join_164 rfl (lv_at hl 0 rfl) ?_
                refine lv_dup hx hb dX0_join_165 rfl ?_
                refine k_get hx hb hts hown hK hP iw_X0_join_X0 rfl 0 3 fm_X0_join_56 (by decide) rfl rfl dX0_join_166 ?_
                refine lv_iconst (v := nI 1) hx hb dX0_join_169 (by decide) ?_
                refine lv_iadd hx hb dX0_join_170 ?_
                refine k_ei (y := nI (km + 1)) (nI_add _ _) ?_
                refine k_put hx hb hts hown hK hP hD hS iw_X0_join_X0 rfl tyX0 tyX0_ok nmX0 0 3 fm_X0_join_56 (by decide) rfl rfl rfl rfl rfl (Nat.le_of_ble_eq_true rfl) dX0_join_171 (fun H locs hP hD hS => ?_)
                have hP : va_P g.1 vwCl [(h0, .inr (0, [.int (nI ki), .int (nI kt), .int (nI kf), .int (nI (km + 1)), .int (fr), .ref (h5), .ref (h6), .ref (h7)])), (h5, aJ g 720 (pL ray (km * 5) (jnR kt ray sl w b) (kt + 1))), (h6, aI g 144 (upd tg km (((tg w) &&& (tg b)) ||| bd))), (h7, aJ g 144 sl)] H := hP
                have hD : va_D A [(h0, .inr (0, [.int (nI ki), .int (nI kt), .int (nI kf), .int (nI (km + 1)), .int (fr), .ref (h5), .ref (h6), .ref (h7)])), (h5, aJ g 720 (pL ray (km * 5) (jnR kt ray sl w b) (kt + 1))), (h6, aI g 144 (upd tg km (((tg w) &&& (tg b)) ||| bd))), (h7, aJ g 144 sl)] := hD
                exact ret dX0_join_174 () (trivial) (by rw [hj]; exact hP) (by rw [hj]; exact hD) hS
              refine lv_icmp_gt (tgt := 140) hx hb dX0_join_105 (by decide) (fun c_3 => ?_) (fun c_3 => ?_)
              · skip
                have c_3 := (nI_ltI (by omega) (by omega)).mp c_3
                obtain rfl : k = kt + 1 := by omega
                have hd1 : 1 < d := hkd.elim (fun q => by omega) id
                have e1 : pL (pL ray (km * 5) (jnG ray sl w b) (kt + 1)) (km * 5) (fun i => jnG ray sl w b i / d) (kt + 1) = pL ray (km * 5) (jnR kt ray sl w b) (kt + 1) := by rw [pL_pL]; exact pL_cg (fun i _ => by rw [jnR, hd, dvL, if_pos hd1])
                rw [e1] at hP hD
                exact lp_140   _ _ hP hD hS ls (lv_sub hl [0, 1, 2, 3] rfl)
              · skip
                have c_3 := mt (nI_ltI (by omega) (by omega)).mpr c_3
                refine lv_lload hx hb dX0_join_108 (lv_at hl 4 rfl) ?_
                refine lv_lconst (v := 1) hx hb dX0_join_110 (by decide) ?_
                refine W.lcmp hx hb dX0_join_111 ?_
                refine lv_if_le (tgt := 140) hx hb dX0_join_112 (by decide) (fun c_4 => ?_) (fun c_4 => ?_)
                · skip
                  have c_4 := (lc_le _ _).mp c_4
                  have hd0 : ¬ 1 < d := by rw [i64_lt]; rw [i64_le] at c_4; omega
                  obtain rfl : k = 0 := hkd.elim id (fun q => absurd q hd0)
                  have e1 : pL (pL ray (km * 5) (jnG ray sl w b) (kt + 1)) (km * 5) (fun i => jnG ray sl w b i / d) 0 = pL ray (km * 5) (jnR kt ray sl w b) (kt + 1) := by rw [pL_0]; exact pL_cg (fun i _ => by rw [jnR, hd, dvL, if_neg hd0])
                  rw [e1] at hP hD
                  exact lp_140   _ _ hP hD hS ls (lv_sub hl [0, 1, 2, 3] rfl)
                · skip
                  have c_4 := mt (lc_le _ _).mpr c_4
                  have hd1 : 1 < d := by rw [i64_lt]; rw [i64_le] at c_4; omega
                  refine lv_aload_n hx hb dX0_join_115 rfl (lv_at hl 0 rfl) ?_
                  refine k_get hx hb hts hown hK hP iw_X0_join_X0 rfl 0 5 fm_X0_join_11 (by decide) rfl rfl dX0_join_116 ?_
                  refine lv_aload_n hx hb dX0_join_119 rfl (lv_at hl 0 rfl) ?_
                  refine k_get hx hb hts hown hK hP iw_X0_join_X0 rfl 0 3 fm_X0_join_56 (by decide) rfl rfl dX0_join_120 ?_
                  refine lv_iconst (v := nI 5) hx hb dX0_join_123 (by decide) ?_
                  refine lv_imul hx hb dX0_join_124 ?_
                  refine k_ei (y := nI (km * 5)) (pk_mul _ _) ?_
                  refine lv_iload hx hb dX0_join_125 (lv_at hl 5 rfl) ?_
                  refine lv_iadd hx hb dX0_join_127 ?_
                  refine k_ei (y := nI (km * 5 + k)) (nI_add _ _) ?_
                  refine lv_dup2_11 hx hb dX0_join_128 rfl rfl ?_
                  refine k_lald hx hb hK hP 1 rfl (by omega) (by omega) dX0_join_129 ?_
                  refine k_el (y := jnG ray sl w b k) (by rw [pL_out (by omega), pL_in (by omega)]) ?_
                  refine lv_lload hx hb dX0_join_130 (lv_at hl 4 rfl) ?_
                  refine lv_ldiv hx hb dX0_join_132 (fun q => absurd hd1 (by rw [q]; decide)) ?_
                  refine k_last hx hb hK hP hD hS 1 rfl (by omega) (by omega) dX0_join_133 (fun H locs hP hD hS => ?_)
                  have hP : va_P g.1 vwCl [(h0, .inr (0, [.int (nI ki), .int (nI kt), .int (nI kf), .int (nI km), .int (fr), .ref (h5), .ref (h6), .ref (h7)])), (h5, aJ g 720 (vp_updL (pL (pL ray (km * 5) (jnG ray sl w b) (kt + 1)) (km * 5) (fun i => jnG ray sl w b i / d) k) (km * 5 + k) ((jnG ray sl w b k) / d))), (h6, aI g 144 tg), (h7, aJ g 144 sl)] H := hP
                  have hD : va_D A [(h0, .inr (0, [.int (nI ki), .int (nI kt), .int (nI kf), .int (nI km), .int (fr), .ref (h5), .ref (h6), .ref (h7)])), (h5, aJ g 720 (vp_updL (pL (pL ray (km * 5) (jnG ray sl w b) (kt + 1)) (km * 5) (fun i => jnG ray sl w b i / d) k) (km * 5 + k) ((jnG ray sl w b k) / d))), (h6, aI g 144 tg), (h7, aJ g 144 sl)] := hD
                  have e_5 : vp_updL (pL (pL ray (km * 5) (jnG ray sl w b) (kt + 1)) (km * 5) (fun i => jnG ray sl w b i / d) k) (km * 5 + k) ((jnG ray sl w b k) / d) = pL (pL ray (km * 5) (jnG ray sl w b) (kt + 1)) (km * 5) (fun i => jnG ray sl w b i / d) (k + 1) := pL_succ _ _ _ _ rfl
                  rw [e_5] at hP hD
                  refine lv_iinc (v := nI (k + 1)) (lv' := [(6, .int (nI (k + 1))), (0, .ref (h0)), (1, .int (nI w)), (2, .int (nI b)), (3, .int (bd)), (4, .long (d))]) hx hb dX0_join_134 hl (k := 5) rfl (nI_inc1 k) (by decide) rfl (fun ls hl => ?_)
                  refine lv_goto (tgt := 99) hx hb dX0_join_137 (by decide) ?_
                  exact ih_99 (k + 1) (by omega) (by omega) (Or.inr hd1) _ _ hP hD hS ls (lv_sub hl [1, 2, 3, 4, 5, 0] rfl)
          exact lp_99 (kt + 1 - 0 + 1) 0 (by omega) (by omega) (by omega) _ _ (by rw [pL_0]; exact hP) (by rw [pL_0]; exact hD) hS ls (lv_sub hl [1, 2, 3, 4, 5, 0] rfl)
        · skip
          have c_2 := mt (nI_ltI (by omega) (by omega)).mpr c_2
          refine lv_aload_n hx hb dX0_join_26 rfl (lv_at hl 0 rfl) ?_
          refine k_get hx hb hts hown hK hP iw_X0_join_X0 rfl 0 7 fm_X0_join_19 (by decide) rfl rfl dX0_join_27 ?_
          refine lv_iload_n hx hb dX0_join_30 rfl (lv_at hl 1 rfl) ?_
          refine k_lald hx hb hK hP 3 rfl (by omega) (by omega) dX0_join_31 ?_
          refine lv_aload_n hx hb dX0_join_32 rfl (lv_at hl 0 rfl) ?_
          refine k_get hx hb hts hown hK hP iw_X0_join_X0 rfl 0 5 fm_X0_join_11 (by decide) rfl rfl dX0_join_33 ?_
          refine lv_iload_n hx hb dX0_join_36 rfl (lv_at hl 2 rfl) ?_
          refine lv_iconst (v := nI 5) hx hb dX0_join_37 (by decide) ?_
          refine lv_imul hx hb dX0_join_38 ?_
          refine k_ei (y := nI (b * 5)) (pk_mul _ _) ?_
          refine lv_iload hx hb dX0_join_39 (lv_at hl 5 rfl) ?_
          refine lv_iadd hx hb dX0_join_41 ?_
          refine k_ei (y := nI (b * 5 + k)) (nI_add _ _) ?_
          refine k_lald hx hb hK hP 1 rfl (by omega) (by omega) dX0_join_42 ?_
          refine k_el (y := ray (b * 5 + k)) (pL_out (by omega)) ?_
          refine lv_lmul hx hb dX0_join_43 ?_
          refine lv_aload_n hx hb dX0_join_44 rfl (lv_at hl 0 rfl) ?_
          refine k_get hx hb hts hown hK hP iw_X0_join_X0 rfl 0 7 fm_X0_join_19 (by decide) rfl rfl dX0_join_45 ?_
          refine lv_iload_n hx hb dX0_join_48 rfl (lv_at hl 2 rfl) ?_
          refine k_lald hx hb hK hP 3 rfl (by omega) (by omega) dX0_join_49 ?_
          refine lv_aload_n hx hb dX0_join_50 rfl (lv_at hl 0 rfl) ?_
          refine k_get hx hb hts hown hK hP iw_X0_join_X0 rfl 0 5 fm_X0_join_11 (by decide) rfl rfl dX0_join_51 ?_
          refine lv_iload_n hx hb dX0_join_54 rfl (lv_at hl 1 rfl) ?_
          refine lv_iconst (v := nI 5) hx hb dX0_join_55 (by decide) ?_
          refine lv_imul hx hb dX0_join_56 ?_
          refine k_ei (y := nI (w * 5)) (pk_mul _ _) ?_
          refine lv_iload hx hb dX0_join_57 (lv_at hl 5 rfl) ?_
          refine lv_iadd hx hb dX0_join_59 ?_
          refine k_ei (y := nI (w * 5 + k)) (nI_add _ _) ?_
          refine k_lald hx hb hK hP 1 rfl (by omega) (by omega) dX0_join_60 ?_
          refine k_el (y := ray (w * 5 + k)) (pL_out (by omega)) ?_
          refine lv_lmul hx hb dX0_join_61 ?_
          refine lv_lsub hx hb dX0_join_62 ?_
          refine k_el (y := jnG ray sl w b k) (rfl) ?_
          refine lv_lstore (lv' := [(7, .long (jnG ray sl w b k)), (0, .ref (h0)), (1, .int (nI w)), (2, .int (nI b)), (3, .int (bd)), (4, .long (d)), (6, .int (nI k))]) hx hb dX0_join_63 hl (by decide) rfl (fun ls hl => ?_)
          refine lv_aload_n hx hb dX0_join_65 rfl (lv_at hl 1 rfl) ?_
          refine k_get hx hb hts hown hK hP iw_X0_join_X0 rfl 0 5 fm_X0_join_11 (by decide) rfl rfl dX0_join_66 ?_
          refine lv_aload_n hx hb dX0_join_69 rfl (lv_at hl 1 rfl) ?_
          refine k_get hx hb hts hown hK hP iw_X0_join_X0 rfl 0 3 fm_X0_join_56 (by decide) rfl rfl dX0_join_70 ?_
          refine lv_iconst (v := nI 5) hx hb dX0_join_73 (by decide) ?_
          refine lv_imul hx hb dX0_join_74 ?_
          refine k_ei (y := nI (km * 5)) (pk_mul _ _) ?_
          refine lv_iload hx hb dX0_join_75 (lv_at hl 6 rfl) ?_
          refine lv_iadd hx hb dX0_join_77 ?_
          refine k_ei (y := nI (km * 5 + k)) (nI_add _ _) ?_
          refine lv_lload hx hb dX0_join_78 (lv_at hl 0 rfl) ?_
          refine k_last hx hb hK hP hD hS 1 rfl (by omega) (by omega) dX0_join_80 (fun H locs hP hD hS => ?_)
          have hP : va_P g.1 vwCl [(h0, .inr (0, [.int (nI ki), .int (nI kt), .int (nI kf), .int (nI km), .int (fr), .ref (h5), .ref (h6), .ref (h7)])), (h5, aJ g 720 (vp_updL (pL ray (km * 5) (jnG ray sl w b) k) (km * 5 + k) (jnG ray sl w b k))), (h6, aI g 144 tg), (h7, aJ g 144 sl)] H := hP
          have hD : va_D A [(h0, .inr (0, [.int (nI ki), .int (nI kt), .int (nI kf), .int (nI km), .int (fr), .ref (h5), .ref (h6), .ref (h7)])), (h5, aJ g 720 (vp_updL (pL ray (km * 5) (jnG ray sl w b) k) (km * 5 + k) (jnG ray sl w b k))), (h6, aI g 144 tg), (h7, aJ g 144 sl)] := hD
          have e_6 : vp_updL (pL ray (km * 5) (jnG ray sl w b) k) (km * 5 + k) (jnG ray sl w b k) = pL ray (km * 5) (jnG ray sl w b) (k + 1) := pL_succ _ _ _ _ rfl
          rw [e_6] at hP hD
          refine lv_lload hx hb dX0_join_81 (lv_at hl 5 rfl) ?_
          refine lv_lload hx hb dX0_join_83 (lv_at hl 0 rfl) ?_
          refine go_l (wc := []) (wr := [(h0, .inr (0, [.int (nI ki), .int (nI kt), .int (nI kf), .int (nI km), .int (fr), .ref (h5), .ref (h6), .ref (h7)])), (h5, aJ g 720 (pL ray (km * 5) (jnG ray sl w b) (k + 1))), (h6, aI g 144 tg), (h7, aJ g 144 sl)]) hP hD hS hA [] [0, 1, 2, 3] rfl rfl rfl rfl (by decide) (fun hPc hDc => rn_SN (As := [.long (d), .long (jnG ray sl w b k)]) (rest := []) ⟨hx, hb, hml, hown, hts⟩ ((c_X3_commonDivisor l g d (jnG ray sl w b k) ) _) (⟨va_cnB 2 hts gX0_join_X3_commonDivisor_n91 rfl rfl rfl (hN.2 _ (List.mem_of_getElem? (i := 11) rfl)) (hts _ (by decide +kernel)) (by decide +kernel) ⟨Nat.le_of_ble_eq_true rfl, Nat.le_of_ble_eq_true rfl⟩, hts _ (by decide +kernel), trivial⟩) hK hN hPc hDc rfl rfl hl.1 (Nat.le_of_ble_eq_true rfl) dX0_join_85 ⟨Nat.le_of_ble_eq_true rfl, Nat.le_of_ble_eq_true rfl⟩) ?_
          intro r_7 u_8 H locs h_9 hP hD hS
          have hP : va_P g.1 vwCl [(h0, .inr (0, [.int (nI ki), .int (nI kt), .int (nI kf), .int (nI km), .int (fr), .ref (h5), .ref (h6), .ref (h7)])), (h5, aJ g 720 (pL ray (km * 5) (jnG ray sl w b) (k + 1))), (h6, aI g 144 tg), (h7, aJ g 144 sl)] H := hP.sub [0, 1, 2, 3] rfl
          have hD : va_D A [(h0, .inr (0, [.int (nI ki), .int (nI kt), .int (nI kf), .int (nI km), .int (fr), .ref (h5), .ref (h6), .ref (h7)])), (h5, aJ g 720 (pL ray (km * 5) (jnG ray sl w b) (k + 1))), (h6, aI g 144 tg), (h7, aJ g 144 sl)] := hD.sub [0, 1, 2, 3] rfl rfl
          have h_9 : r_7 = gcdL (absL d) (absL (jnG ray sl w b k)) 100 := h_9
          subst h_9
          refine lv_lstore (lv' := [(4, .long (gcdL (absL d) (absL (jnG ray sl w b k)) 100)), (7, .long (jnG ray sl w b k)), (0, .ref (h0)), (1, .int (nI w)), (2, .int (nI b)), (3, .int (bd)), (6, .int (nI k))]) hx hb dX0_join_88 hl (by decide) rfl (fun ls hl => ?_)
          refine lv_iinc (v := nI (k + 1)) (lv' := [(6, .int (nI (k + 1))), (4, .long (gcdL (absL d) (absL (jnG ray sl w b k)) 100)), (7, .long (jnG ray sl w b k)), (0, .ref (h0)), (1, .int (nI w)), (2, .int (nI b)), (3, .int (bd))]) hx hb dX0_join_90 hl (k := 6) rfl (nI_inc1 k) (by decide) rfl (fun ls hl => ?_)
          refine lv_goto (tgt := 17) hx hb dX0_join_93 (by decide) ?_
          exact ih_17 (k + 1) (gcdL (absL d) (absL (jnG ray sl w b k)) 100) (by omega) (by omega) (by rw [hv, show kt + 1 - k = (kt + 1 - (k + 1)) + 1 by omega, jnD]) _ _ hP hD hS ls (lv_sub hl [3, 4, 5, 6, 1, 0] rfl)
    exact lp_17 (kt + 1 - 0 + 1) 0 0 (by omega) (by omega) rfl _ _ (by rw [pL_0]; exact hP) (by rw [pL_0]; exact hD) hS ls (lv_sub hl [2, 3, 4, 5, 1, 0] rfl)
  · skip
    have c_1 := mt (nI_ltI (by omega) (by omega)).mpr c_1
    have hj : (jnS kt sl bd w b (km, ray, tg)) = (km, ray, tg) := if_neg c_1
    exact ret dX0_join_10 () (trivial) (by rw [hj]; exact hP) (by rw [hj]; exact hD) hS
