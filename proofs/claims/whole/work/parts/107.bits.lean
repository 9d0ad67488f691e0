/-! ===== Int32 by its bits: bt x i ===== -/
def bt (x : Int32) (i : Nat) : Bool := x.toBitVec.getLsbD i
theorem b_ext {x y : Int32} (h : ∀ i, i < 32 → bt x i = bt y i) : x = y := Int32.toBitVec_inj.mp (BitVec.eq_of_getLsbD_eq (fun i hi => h i hi))
theorem b_or (x y : Int32) (i : Nat) : bt (x ||| y) i = (bt x i || bt y i) := by unfold bt; rw [Int32.toBitVec_or, BitVec.getLsbD_or]
theorem b_and (x y : Int32) (i : Nat) : bt (x &&& y) i = (bt x i && bt y i) := by unfold bt; rw [Int32.toBitVec_and, BitVec.getLsbD_and]
theorem b_xor (x y : Int32) (i : Nat) : bt (x ^^^ y) i = (bt x i ^^ bt y i) := by unfold bt; rw [Int32.toBitVec_xor, BitVec.getLsbD_xor]
theorem b_big {x : Int32} {i : Nat} (h : 32 ≤ i) : bt x i = false := BitVec.getLsbD_of_ge _ _ h
theorem b_m1 : ∀ i, i < 32 → bt (-1) i = true := by decide +kernel
theorem b_0 (i : Nat) : bt 0 i = false := BitVec.getLsbD_zero
theorem s_l : ∀ n, n < 32 → ((nI n &&& 31).toBitVec.smod 32).toNat = n := by decide +kernel
theorem s_u : ∀ n, n < 32 → (((nI n).toUInt32 &&& Int32.toUInt32 31).toBitVec % 32).toNat = n := by decide +kernel
theorem b_shl (n : Nat) (hn : n < 32) (x : Int32) {i : Nat} (hi : i < 32) : bt (x <<< (nI n &&& 31)) i = (decide (n ≤ i) && bt x (i - n)) := by
  unfold bt
  rw [Int32.toBitVec_shiftLeft]
  show (x.toBitVec <<< ((nI n &&& 31).toBitVec.smod 32).toNat).getLsbD i = _
  rw [s_l n hn, BitVec.getLsbD_shiftLeft]
  rcases Nat.lt_or_ge i n with h | h
  · simp [h, Nat.not_le.mpr h]
  · simp [hi, h, Nat.not_lt.mpr h]
theorem nx_and (a b : Nat) : nI a &&& nI b = nI (a &&& b) := by
  apply Int32.toBitVec_inj.1
  show BitVec.ofNat 32 a &&& BitVec.ofNat 32 b = BitVec.ofNat 32 (a &&& b)
  apply BitVec.eq_of_getLsbD_eq
  intro i hi
  simp [hi]
theorem b_one {k i : Nat} (hk : k < 32) (hi : i < 32) : bt (nI 1 <<< (nI k &&& 31)) i = decide (i = k) := (by decide +kernel : ∀ k, k < 32 → ∀ i, i < 32 → bt (nI 1 <<< (nI k &&& 31)) i = decide (i = k)) k hk i hi
theorem b_axM {t i : Nat} (ht : t ≤ 4) (hi : i < 32) : bt (axM t) i = decide (i < t) := (by decide +kernel : ∀ t, t < 5 → ∀ i, i < 32 → bt (axM t) i = decide (i < t)) t (by omega) i hi
theorem b_not {x : Int32} {i : Nat} (hi : i < 32) : bt (x ^^^ -1) i = !bt x i := by
  rw [b_xor, b_m1 i hi]
  cases bt x i <;> rfl
theorem b_sup (a s : Int32) : a &&& s = s ↔ ∀ i, i < 32 → bt s i = true → bt a i = true := by
  constructor
  · intro h i hi hs
    rw [← h, b_and] at hs
    exact (Bool.and_eq_true _ _ |>.mp hs).1
  · intro h
    refine b_ext (fun i hi => ?_)
    rw [b_and]
    cases hs : bt s i with
    | false => exact Bool.and_false _
    | true => rw [h i hi hs]; rfl
theorem b_dis (a s : Int32) : a &&& s = 0 ↔ ∀ i, i < 32 → bt a i = true → bt s i = false := by
  constructor
  · intro h i hi ha
    have e := b_and a s i
    rw [h, b_0, ha] at e
    exact e.symm
  · intro h
    refine b_ext (fun i hi => ?_)
    rw [b_and, b_0]
    cases ha : bt a i with
    | false => rfl
    | true => rw [h i hi ha]; rfl
theorem b_bdW {w i : Nat} (hw : w < 12) (hi : i < 32) : bt (bdW w) i = decide (i = 5 + w) := b_one (by omega) hi
/-! how many bits -/
def pcN : Nat → Nat → Nat
  | 0, _ => 0
  | f + 1, x => x % 2 + pcN f (x / 2)
def bcA (x : Nat) : Nat := x - ((x / 2) &&& 1431655765)
def bcB (a : Nat) : Nat := (a &&& 858993459) + ((a / 4) &&& 858993459)
def bcC (b : Nat) : Nat := (b + b / 16) &&& 252645135
def bcD (c : Nat) : Nat := c + c / 256
def bcE (d : Nat) : Nat := d + d / 65536
def bcN (x : Nat) : Nat := bcE (bcD (bcC (bcB (bcA x)))) &&& 63
theorem and_spl (a m : Nat) : a &&& m = (a % 256 &&& m % 256) + 256 * (a / 256 &&& m / 256) := by
  have h1 := Nat.and_mod_two_pow (a := a) (b := m) (n := 8)
  have h2 := Nat.and_div_two_pow (a := a) (b := m) (n := 8)
  have h3 := Nat.mod_add_div (a &&& m) (2 ^ 8)
  rw [h1, h2] at h3
  exact h3.symm
/-- three parts of eight bits, under a mask that has the same part four times -/
theorem and_thr {a0 a1 a2 m : Nat} (M : Nat) (h0 : a0 < 256) (h1 : a1 < 256) (hM : M = m + 256 * (m + 256 * (m + 256 * m))) (hm : m < 256) (h2 : a2 < 256) : (a0 + 256 * (a1 + 256 * a2)) &&& M = (a0 &&& m) + 256 * ((a1 &&& m) + 256 * (a2 &&& m)) := by
  subst hM
  rw [and_spl, show (a0 + 256 * (a1 + 256 * a2)) % 256 = a0 by omega, show (m + 256 * (m + 256 * (m + 256 * m))) % 256 = m by omega, show (a0 + 256 * (a1 + 256 * a2)) / 256 = a1 + 256 * a2 by omega, show (m + 256 * (m + 256 * (m + 256 * m))) / 256 = m + 256 * (m + 256 * m) by omega]
  rw [and_spl (a1 + 256 * a2), show (a1 + 256 * a2) % 256 = a1 by omega, show (m + 256 * (m + 256 * m)) % 256 = m by omega, show (a1 + 256 * a2) / 256 = a2 by omega, show (m + 256 * (m + 256 * m)) / 256 = m + 256 * m by omega]
  rw [and_spl a2, show a2 % 256 = a2 by omega, show (m + 256 * m) % 256 = m by omega, show a2 / 256 = 0 by omega, Nat.zero_and, Nat.mul_zero, Nat.add_zero]
theorem ck_1 : ∀ y, y < 256 → ∀ c, c < 2 → (y / 2 + 128 * c) &&& 85 = (y / 2 &&& 85) ∧ (y / 2 &&& 85) ≤ y := by decide +kernel
theorem ck_2 : ∀ y, y < 256 → ∀ c, c < 4 → (y / 4 + 64 * c) &&& 51 = (y / 4 &&& 51) := by decide +kernel
def ckF (y : Nat) : Nat := ((y - (y / 2 &&& 85)) &&& 51) + ((y - (y / 2 &&& 85)) / 4 &&& 51)
theorem ck_3 : ∀ y, y < 256 → ckF y % 16 ≤ 4 ∧ ckF y / 16 ≤ 4 ∧ ((ckF y + ckF y / 16) &&& 15) = pcN 8 y ∧ pcN 8 y ≤ 8 := by decide +kernel
theorem and15 (a c : Nat) : (a + 16 * c) &&& 15 = a &&& 15 := by
  rw [show (15 : Nat) = 2 ^ 4 - 1 from rfl, Nat.and_two_pow_sub_one_eq_mod, Nat.and_two_pow_sub_one_eq_mod]
  omega
theorem pcN_spl : ∀ (f g x : Nat), pcN (f + g) x = pcN f (x % 2 ^ f) + pcN g (x / 2 ^ f)
  | 0, g, x => by
    rw [Nat.zero_add, Nat.pow_zero, Nat.div_one]
    show _ = 0 + pcN g x
    omega
  | f + 1, g, x => by
    rw [show f + 1 + g = (f + g) + 1 by omega, pcN, pcN, pcN_spl f g (x / 2)]
    have e1 : x % 2 ^ (f + 1) % 2 = x % 2 := by
      rw [Nat.pow_succ, Nat.mul_comm, Nat.mod_mul_right_mod]
    have e2 : x % 2 ^ (f + 1) / 2 = x / 2 % 2 ^ f := by
      rw [Nat.pow_succ, Nat.mul_comm, Nat.mod_mul_right_div_self]
    have e3 : x / 2 / 2 ^ f = x / 2 ^ (f + 1) := by
      rw [Nat.div_div_eq_div_mul, Nat.pow_succ, Nat.mul_comm]
    rw [e1, e2, e3]
    omega
theorem bcN_eq {x : Nat} (h : x < 2 ^ 17) : bcN x = pcN 17 x ∧ (x / 2) &&& 1431655765 ≤ x := by
  obtain ⟨x0, e0⟩ : ∃ z, z = x % 256 := ⟨_, rfl⟩
  obtain ⟨x1, e1⟩ : ∃ z, z = x / 256 % 256 := ⟨_, rfl⟩
  obtain ⟨x2, e2⟩ : ∃ z, z = x / 65536 := ⟨_, rfl⟩
  have hx : x = x0 + 256 * (x1 + 256 * x2) := by omega
  have l0 : x0 < 256 := by omega
  have l1 : x1 < 256 := by omega
  have l2 : x2 < 256 := by omega
  have hp : pcN 17 x = pcN 8 x0 + pcN 8 x1 + pcN 1 x2 := by
    rw [show (17 : Nat) = 8 + (8 + 1) from rfl, pcN_spl 8, pcN_spl 8 1]
    have a : x % 2 ^ 8 = x0 := by omega
    have b : x / 2 ^ 8 % 2 ^ 8 = x1 := by omega
    have c : x / 2 ^ 8 / 2 ^ 8 = x2 := by omega
    rw [a, b, c]
    omega
  have hp2 : pcN 1 x2 = pcN 8 x2 := (by decide +kernel : ∀ y, y < 2 → pcN 1 y = pcN 8 y) x2 (by omega)
  have hA1 : (x / 2) &&& 1431655765 = (x0 / 2 &&& 85) + 256 * ((x1 / 2 &&& 85) + 256 * (x2 / 2 &&& 85)) := by
    have e : x / 2 = (x0 / 2 + 128 * (x1 % 2)) + 256 * ((x1 / 2 + 128 * (x2 % 2)) + 256 * (x2 / 2)) := by omega
    rw [e, and_thr (m := 85) 1431655765 (by omega) (by omega) (by decide) (by decide) (by omega), (ck_1 x0 l0 (x1 % 2) (by omega)).1, (ck_1 x1 l1 (x2 % 2) (by omega)).1]
  have c0 := (ck_1 x0 l0 0 (by decide)).2
  have c1 := (ck_1 x1 l1 0 (by decide)).2
  have c2 := (ck_1 x2 l2 0 (by decide)).2
  refine ⟨?_, by rw [hA1]; omega⟩
  have hA : bcA x = (x0 - (x0 / 2 &&& 85)) + 256 * ((x1 - (x1 / 2 &&& 85)) + 256 * (x2 - (x2 / 2 &&& 85))) := by
    unfold bcA
    rw [hA1]
    omega
  have hB : bcB (bcA x) = ckF x0 + 256 * (ckF x1 + 256 * ckF x2) := by
    obtain ⟨a0, f0⟩ : ∃ z, z = x0 - (x0 / 2 &&& 85) := ⟨_, rfl⟩
    obtain ⟨a1, f1⟩ : ∃ z, z = x1 - (x1 / 2 &&& 85) := ⟨_, rfl⟩
    obtain ⟨a2, f2⟩ : ∃ z, z = x2 - (x2 / 2 &&& 85) := ⟨_, rfl⟩
    unfold bcB ckF
    rw [hA, ← f0, ← f1, ← f2]
    have g0 : a0 < 256 := by omega
    have g1 : a1 < 256 := by omega
    have g2 : a2 < 256 := by omega
    have e : (a0 + 256 * (a1 + 256 * a2)) / 4 = (a0 / 4 + 64 * (a1 % 4)) + 256 * ((a1 / 4 + 64 * (a2 % 4)) + 256 * (a2 / 4)) := by omega
    rw [e, and_thr (m := 51) 858993459 g0 g1 (by decide) (by decide) g2, and_thr (m := 51) 858993459 (by omega) (by omega) (by decide) (by decide) (by omega), ck_2 a0 g0 (a1 % 4) (by omega), ck_2 a1 g1 (a2 % 4) (by omega)]
    omega
  have d0 := ck_3 x0 l0
  have d1 := ck_3 x1 l1
  have d2 := ck_3 x2 l2
  have hC : bcC (bcB (bcA x)) = pcN 8 x0 + 256 * (pcN 8 x1 + 256 * pcN 8 x2) := by
    rw [← d0.2.2.1, ← d1.2.2.1, ← d2.2.2.1]
    unfold bcC
    rw [hB]
    obtain ⟨b0, f0⟩ : ∃ z, z = ckF x0 := ⟨_, rfl⟩
    obtain ⟨b1, f1⟩ : ∃ z, z = ckF x1 := ⟨_, rfl⟩
    obtain ⟨b2, f2⟩ : ∃ z, z = ckF x2 := ⟨_, rfl⟩
    rw [← f0] at d0
    rw [← f1] at d1
    rw [← f2] at d2
    rw [← f0, ← f1, ← f2]
    have e : b0 + 256 * (b1 + 256 * b2) + (b0 + 256 * (b1 + 256 * b2)) / 16 = ((b0 + b0 / 16) + 16 * (b1 % 16)) + 256 * (((b1 + b1 / 16) + 16 * (b2 % 16)) + 256 * (b2 + b2 / 16)) := by omega
    rw [e, and_thr (m := 15) 252645135 (by omega) (by omega) (by decide) (by decide) (by omega), and15, and15]
  unfold bcN
  rw [hC, hp, hp2]
  obtain ⟨p0, f0⟩ : ∃ z, z = pcN 8 x0 := ⟨_, rfl⟩
  obtain ⟨p1, f1⟩ : ∃ z, z = pcN 8 x1 := ⟨_, rfl⟩
  obtain ⟨p2, f2⟩ : ∃ z, z = pcN 8 x2 := ⟨_, rfl⟩
  rw [← f0] at d0
  rw [← f1] at d1
  rw [← f2] at d2
  rw [← f0, ← f1, ← f2]
  unfold bcD bcE
  rw [show (63 : Nat) = 2 ^ 6 - 1 from rfl, Nat.and_two_pow_sub_one_eq_mod]
  have k0 := d0.2.2.2
  have k1 := d1.2.2.2
  have k2 := d2.2.2.2
  clear d0 d1 d2 hA hB hC hA1 c0 c1 c2 hp hp2 f0 f1 f2
  have s1 : (p0 + 256 * (p1 + 256 * p2)) / 256 = p1 + 256 * p2 := by omega
  rw [s1]
  have s2 : (p0 + 256 * (p1 + 256 * p2) + (p1 + 256 * p2)) / 65536 = p2 := by omega
  rw [s2]
  omega
theorem us_nI {x k : Nat} (hx : x < 2 ^ 32) (hk : k < 32) : ((nI x).toUInt32 >>> ((nI k).toUInt32 &&& Int32.toUInt32 31)).toInt32 = nI (x / 2 ^ k) := pk_ushrN hx (nI k) k (s_u k hk)
theorem bcnt_nI {x : Nat} (h : x < 2 ^ 17) : bcnt (nI x) = nI (pcN 17 x) := by
  have hc := bcN_eq h
  rw [← hc.1]
  have h1 : bcA x ≤ x := Nat.sub_le _ _
  have h2 : bcB (bcA x) ≤ 2 * bcA x := by
    unfold bcB
    have a := Nat.and_le_left (n := bcA x) (m := 858993459)
    have b := Nat.and_le_left (n := bcA x / 4) (m := 858993459)
    omega
  have h3 : bcC (bcB (bcA x)) ≤ 2 * bcB (bcA x) := by
    unfold bcC
    have a := Nat.and_le_left (n := bcB (bcA x) + bcB (bcA x) / 16) (m := 252645135)
    omega
  have h4 : bcD (bcC (bcB (bcA x))) ≤ 2 * bcC (bcB (bcA x)) := by unfold bcD; omega
  unfold bcnt
  simp only
  rw [us_nI (x := x) (k := 1) (by omega) (by decide)]
  have e1 : nI x - (nI (x / 2 ^ 1) &&& 1431655765) = nI (bcA x) := by
    rw [show (1431655765 : Int32) = nI 1431655765 from rfl, nx_and, pk_sub hc.2]
    rfl
  rw [e1, us_nI (x := bcA x) (k := 2) (by omega) (by decide)]
  have e2 : (nI (bcA x) &&& 858993459) + (nI (bcA x / 2 ^ 2) &&& 858993459) = nI (bcB (bcA x)) := by
    rw [show (858993459 : Int32) = nI 858993459 from rfl, nx_and, nx_and, nI_add]
    rfl
  rw [e2, us_nI (x := bcB (bcA x)) (k := 4) (by omega) (by decide)]
  have e3 : (nI (bcB (bcA x)) + nI (bcB (bcA x) / 2 ^ 4)) &&& 252645135 = nI (bcC (bcB (bcA x))) := by
    rw [nI_add, show (252645135 : Int32) = nI 252645135 from rfl, nx_and]
    rfl
  rw [e3, us_nI (x := bcC (bcB (bcA x))) (k := 8) (by omega) (by decide), nI_add]
  have e4 : bcC (bcB (bcA x)) + bcC (bcB (bcA x)) / 2 ^ 8 = bcD (bcC (bcB (bcA x))) := rfl
  rw [e4, us_nI (x := bcD (bcC (bcB (bcA x)))) (k := 16) (by omega) (by decide), nI_add, nx_and]
  rfl
theorem pcN_count : ∀ (f x : Nat), pcN f x = ((List.range f).filter (fun i => x.testBit i)).length
  | 0, _ => rfl
  | f + 1, x => by
    rw [pcN, pcN_count f (x / 2), List.range_succ_eq_map, List.filter_cons]
    have e : (List.filter (fun i => x.testBit i) (List.map Nat.succ (List.range f))).length = (List.filter (fun i => (x / 2).testBit i) (List.range f)).length := by
      rw [List.filter_map, List.length_map]
      congr 1
      refine List.filter_congr (fun i _ => ?_)
      show x.testBit (i + 1) = (x / 2).testBit i
      rw [Nat.testBit_succ]
    rcases Nat.mod_two_eq_zero_or_one x with h | h
    · rw [h, if_neg (by rw [Nat.testBit_zero]; simp [h]), e]; omega
    · rw [h, if_pos (by rw [Nat.testBit_zero]; simp [h]), List.length_cons, e]; omega
theorem bt_nI {x i : Nat} (hx : x < 2 ^ 32) (hi : i < 32) : bt (nI x) i = x.testBit i := by
  show (BitVec.ofNat 32 x).getLsbD i = _
  rw [BitVec.getLsbD_ofNat]
  simp [hi]
/-- a mask of 17 bits: the machine's count is the count -/
theorem bcnt_ge {m : Int32} {k : Nat} (hm : ∀ i, 17 ≤ i → i < 32 → bt m i = false) (hk : k ≤ 17) (h : k ≤ ((List.range 17).filter (fun i => bt m i)).length) : nI k ≤ bcnt m := by
  obtain ⟨x, hx⟩ : ∃ x, x = m.toBitVec.toNat := ⟨_, rfl⟩
  have hx32 : x < 2 ^ 32 := by rw [hx]; exact m.toBitVec.isLt
  have e : m = nI x := by
    apply Int32.toBitVec_inj.mp
    apply BitVec.eq_of_toNat_eq
    rw [hx]
    show _ = (BitVec.ofNat 32 m.toBitVec.toNat).toNat
    rw [BitVec.toNat_ofNat, Nat.mod_eq_of_lt m.toBitVec.isLt]
  have hx17 : x < 2 ^ 17 := by
    refine Nat.lt_pow_two_of_testBit x (fun i hi => ?_)
    by_cases h32 : i < 32
    · rw [← bt_nI hx32 h32, ← e]; exact hm i hi h32
    · exact Nat.testBit_lt_two_pow (Nat.lt_of_lt_of_le hx32 (Nat.pow_le_pow_right (by decide) (by omega)))
  rw [e, bcnt_nI hx17, pcN_count]
  have e2 : ((List.range 17).filter (fun i => bt m i)).length = ((List.range 17).filter (fun i => x.testBit i)).length := by
    congr 1
    refine List.filter_congr (fun i hi => ?_)
    rw [e, bt_nI hx32 (by have := List.mem_range.mp hi; omega)]
  rw [e2] at h
  have hle : ((List.range 17).filter (fun i => x.testBit i)).length ≤ 17 := by
    have := List.length_filter_le (fun i => x.testBit i) (List.range 17)
    rw [List.length_range] at this
    exact this
  exact (nI_leI (by omega) (by omega)).mpr h
