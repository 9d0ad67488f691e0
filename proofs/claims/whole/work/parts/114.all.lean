/-! ALL CUTS: the class's cone is the cone of its bounds -/
section ALL
theorem Ext_mem {cs : List Nat} {b : Nat → Nat → Int} {I I' : List Nat} (h : ∀ i, i ∈ I ↔ i ∈ I') {x : Nat → Int} (hx : Ext cs b I x) : Ext cs b I' x :=
  ⟨fun i hi => hx.1 i ((h i).mpr hi), hx.2.1, fun y hy => hx.2.2 y (fun i hi h0 => hy i ((h i).mp hi) h0)⟩
theorem DDI_mem {t n : Nat} {b : Nat → Nat → Int} {I I' : List Nat} (h : ∀ i, i ∈ I ↔ i ∈ I') {st : CS} (hD : DDI t n b I st) : DDI t n b I' st := by
  obtain ⟨d1, d2, d3, d4, d5⟩ := hD
  exact ⟨fun i hi => ⟨Ext_mem h (d1 i hi).1, (d1 i hi).2⟩, fun i hi j hj => by rw [d2 i hi j hj, h j], d3, fun x hx => d4 x (Ext_mem (fun i => (h i).symm) hx), d5⟩
theorem bdV_unit {nu : Nat → Int32} {ki t j : Nat} (hj : j < t) (ht : t ≤ 4) : bdV nu ki t j = dl j := by
  funext k
  unfold bdV dl
  rw [if_pos (by omega), if_pos hj]
theorem bdV_last {nu : Nat → Int32} {ki t : Nat} (ht : t ≤ 4) : bdV nu ki t t = fun k => (-1) * dl t k + 0 * dl t k := by
  funext k
  unfold bdV dl
  rw [if_pos (show t < 5 by omega), if_neg (show ¬ t < t by omega)]
  split <;> omega
theorem dot_unit {n j : Nat} (hj : j < n) (y : Nat → Int) : dot (List.range n) (dl j) y = y j := dot_dl List.nodup_range (List.mem_range.mpr hj) y
theorem axS_bits {t r : Nat} (ht : t ≤ 4) (hr : r < t) {v j : Nat} (hj : j < 32) : bt ((axM t &&& ((nI 1 <<< (nI r &&& 31)) ^^^ -1)) ||| (if v = 1 then nI 1 <<< (nI t &&& 31) else nI 0)) j = true ↔ ((j < t ∧ j ≠ r) ∨ (v = 1 ∧ j = t)) := by
  rw [b_or, b_and, b_axM ht hj, b_not hj, b_one (by omega) hj, Bool.or_eq_true, Bool.and_eq_true, decide_eq_true_eq]
  have h2 : bt (if v = 1 then nI 1 <<< (nI t &&& 31) else nI 0) j = true ↔ (v = 1 ∧ j = t) := by
    by_cases hv : v = 1
    · rw [if_pos hv, b_one (by omega) hj, decide_eq_true_eq]
      exact ⟨fun q => ⟨hv, q⟩, fun q => q.2⟩
    · rw [if_neg hv, show nI 0 = (0 : Int32) from rfl, b_0]
      exact ⟨fun q => (by cases q), fun q => absurd q.1 hv⟩
  rw [h2]
  by_cases e : j = r
  · rw [decide_eq_true e]
    simp [e]
  · rw [decide_eq_false e]
    simp [e]
theorem begin_dd {nu pt : Nat → Int32} {v ki t : Nat} (ht : t ≤ 4) (ht1 : 1 ≤ t) (hv : v ≤ 1) (st : CS) : DDI t (bnW v t) (bdV nu ki t) (List.range (bnW v t)) (bgF nu pt v ki t st) ∧ Ptd (List.range (bnW v t)) (bdV nu ki t) (List.range (bnW v t)) := by
  obtain ⟨r1, r2, r3⟩ := bgF_rows (nu := nu) (pt := pt) (v := v) (ki := ki) ht st
  obtain ⟨F, hF⟩ : ∃ F, F = bgF nu pt v ki t st := ⟨_, rfl⟩
  rw [← hF] at r1 r2 r3 ⊢
  rw [if_neg (show ¬ v = 2 by omega)] at r2
  obtain ⟨n, hn⟩ : ∃ n, n = bnW v t := ⟨_, rfl⟩
  rw [← hn] at r1 ⊢
  have hnv : (v = 0 ∧ n = t) ∨ (v = 1 ∧ n = t + 1) := by
    rw [hn]
    unfold bnW
    split
    · left; exact ⟨by assumption, rfl⟩
    · right; exact ⟨by omega, rfl⟩
  have hp : Ptd (List.range n) (bdV nu ki t) (List.range n) := fun y hy c hc => by
    have hc' := List.mem_range.mp hc
    have h0 := hy c hc
    by_cases hct : c < t
    · rw [bdV_unit hct ht, dot_unit hc'] at h0
      exact h0
    · have e : c = t := by omega
      rw [e, bdV_last ht, dot_linl, dot_unit (by omega)] at h0
      rw [e]
      omega
  have hlast : ∀ r, r < t → F.2.1 (r * 5 + t) = 0 := fun r hr => by
    rw [(r2 r hr).2.1]
    show (if r < ki then (nI 0).toInt64 else (-(nI 0)).toInt64) = 0
    split <;> decide
  have hval : ∀ r, r < n → ∀ k, k < n → vc F.2.1 r k = if k = r then (if r < t then 1 else -1) else 0 := fun r hr k hk => by
    unfold vc
    by_cases hrt : r < t
    · rw [if_pos hrt]
      by_cases hkt : k < t
      · rw [(r2 r hrt).1 k hkt]
        split <;> rfl
      · have e : k = t := by omega
        rw [e, hlast r hrt, if_neg (by omega)]
        rfl
    · have hv1 : v = 1 ∧ r = t := by omega
      have := r3 (by omega)
      rw [if_neg hrt, hv1.2]
      by_cases hkt : k < t
      · rw [this.1 k hkt, if_neg (by omega)]
        rfl
      · rw [show k = t by omega, this.2.1, if_pos rfl]
        decide
  have hd : ∀ j, j < n → ∀ r, r < n → dot (List.range n) (bdV nu ki t (id j)) (vc F.2.1 r) = if j = r then 1 else 0 := fun j hj r hr => by
    show dot (List.range n) (bdV nu ki t j) (vc F.2.1 r) = _
    by_cases hjt : j < t
    · rw [bdV_unit hjt ht, dot_unit hj, hval r hr j hj]
      by_cases e : j = r
      · rw [if_pos e, if_pos (by omega), if_pos e]
      · rw [if_neg e, if_neg e]
    · have e : j = t := by omega
      rw [e, bdV_last ht, dot_linl, dot_unit (by omega), hval r hr t (by omega)]
      by_cases e2 : t = r
      · rw [if_pos e2, if_neg (by omega), if_pos e2]; omega
      · rw [if_neg e2, if_neg e2]; omega
  have hid : (List.range n).map id = List.range n := List.map_id _
  obtain ⟨s1, s2, s3⟩ := simp_ext (cs := List.range n) (b := bdV nu ki t) (n := n) (by rw [List.length_range]) id (fun r => vc F.2.1 r) (by rw [hid]; exact hp) hd
  rw [hid] at s1 s3
  refine ⟨⟨fun i hi => s1 i (by omega), fun i hi j hj => ?_, fun i hi j hj hne => s2 i (by omega) j (by omega) hne, fun x hx => ?_, fun e i hi => ?_⟩, hp⟩
  · rw [List.mem_range]
    have hin : i < n := by omega
    by_cases hit : i < t
    · rw [(r2 i hit).2.2, axS_bits ht hit hj]
      constructor
      · rintro (⟨z1, z2⟩ | ⟨z1, z2⟩)
        · exact ⟨by omega, by have := hd j (by omega) i hin; rw [if_neg z2] at this; exact this⟩
        · exact ⟨by omega, by have := hd j (by omega) i hin; rw [if_neg (by omega)] at this; exact this⟩
      · rintro ⟨z1, z2⟩
        have hne : j ≠ i := fun q => by
          have := hd j z1 i hin
          rw [if_pos q] at this
          have this : dot (List.range n) (bdV nu ki t j) (vc F.2.1 i) = 1 := this
          omega
        by_cases hjt : j < t
        · exact Or.inl ⟨hjt, hne⟩
        · exact Or.inr (by omega)
    · have hv1 : v = 1 ∧ i = t := by omega
      rw [hv1.2, (r3 (by omega)).2.2, b_axM ht hj, decide_eq_true_eq]
      constructor
      · intro z
        exact ⟨by omega, by have := hd j (by omega) t (by omega); rw [if_neg (by omega)] at this; exact this⟩
      · rintro ⟨z1, z2⟩
        have hne : j ≠ t := fun q => by
          have := hd j z1 t (by omega)
          rw [if_pos q] at this
          have this : dot (List.range n) (bdV nu ki t j) (vc F.2.1 t) = 1 := this
          omega
        omega
  · obtain ⟨k, hk, hpk⟩ := s3 x hx
    exact ⟨k, by omega, hpk⟩
  · exact hlast i (by omega)
theorem kpL_all {sl : Nat → Int64} {old : Nat} : ∀ (n r : Nat), (∀ j, r ≤ j → j < r + n → ¬ (j < old ∧ sl j < 0)) → ∀ e, e < n → (kpL sl old r n)[e]? = some (r + e)
  | 0, _, _, e, he => by omega
  | n + 1, r, h, e, he => by
    rw [kpL, if_neg (h r (Nat.le_refl _) (by omega)), List.singleton_append]
    cases e with
    | zero => rfl
    | succ e =>
      rw [List.getElem?_cons_succ, kpL_all n (r + 1) (fun j h1 h2 => h j (by omega) (by omega)) e (by omega)]
      congr 1
      omega
theorem kpL_len {sl : Nat → Int64} {old : Nat} : ∀ (n r : Nat), (∀ j, r ≤ j → j < r + n → ¬ (j < old ∧ sl j < 0)) → (kpL sl old r n).length = n
  | 0, _, _ => rfl
  | n + 1, r, h => by
    rw [kpL, if_neg (h r (Nat.le_refl _) (by omega)), List.singleton_append, List.length_cons, kpL_len n (r + 1) (fun j h1 h2 => h j (by omega) (by omega))]
/-- EVEN: the first work's cut -/
theorem first_dd {nu pt : Nat → Int32} {ki t kf f : Nat} {sl : Nat → Int64} (ht : t ≤ 4) (ht1 : 1 ≤ t) (hki : ki ≤ t) (hf : fstP pt 0 12 = some f) (hf12 : f < 12) (hnu : ∀ k, k < t → (nu (f * 4 + k)).toInt.natAbs ≤ 10000) (st : CS) (hsl : ∀ r, r < (bgF nu pt 2 ki t st).1 → sl r = slk (bgF nu pt 2 ki t st).2.1 nu f ki t r) :
    DDI t (t + 1) (bdV nu ki t) ((5 + f) :: List.range t) (cutF nu f ki t kf sl (bgF nu pt 2 ki t st)) ∧ Ptd (List.range (t + 1)) (bdV nu ki t) ((5 + f) :: List.range t) := by
  obtain ⟨r1, r2, r3⟩ := bgF_rows (nu := nu) (pt := pt) (v := 2) (ki := ki) ht st
  obtain ⟨G, hG⟩ : ∃ G, G = bgF nu pt 2 ki t st := ⟨_, rfl⟩
  rw [← hG] at r1 r2 r3 hsl ⊢
  rw [if_pos rfl, hf] at r2
  have r1 : G.1 = t + 1 := r1
  have r3 := r3 (by decide)
  obtain ⟨a, ha⟩ : ∃ a : Nat → Int, a = fun k => (nu (f * 4 + k)).toInt := ⟨_, rfl⟩
  have hlast : ∀ r, r < t → (G.2.1 (r * 5 + t)).toInt = if r < ki then a r else -(a r) := fun r hr => by
    rw [(r2 r hr).2.1, ha]
    show (if r < ki then (nu (f * 4 + r)).toInt64 else (-(nu (f * 4 + r))).toInt64).toInt = _
    have hb := hnu r hr
    split
    · exact i32_to64 _
    · rw [i32_to64, Int32.toInt_neg]
      apply Int.bmod_eq_of_le <;> omega
  have hval : ∀ r, r < t + 1 → ∀ k, k < t → vc G.2.1 r k = if k = r then 1 else 0 := fun r hr k hk => by
    unfold vc
    by_cases hrt : r < t
    · rw [(r2 r hrt).1 k hk]
      split <;> rfl
    · rw [show r = t by omega, r3.1 k hk, if_neg (by omega)]
      rfl
  have hvt : ∀ r, r < t → vc G.2.1 r t = if r < ki then a r else -(a r) := hlast
  have hvtt : vc G.2.1 t t = -1 := by
    unfold vc
    rw [r3.2.1]
    decide
  have hab : ∀ k, k < t → (a k).natAbs ≤ 10000 := fun k hk => by rw [ha]; exact hnu k hk
  -- the first work's bound
  have hdf : ∀ y : Nat → Int, dot (List.range (t + 1)) (bdV nu ki t (5 + f)) y = dot (List.range t) (bdV nu ki t (5 + f)) y - y t := fun y => by
    unfold dot
    rw [lsum_range]
    have e4 : bdV nu ki t (5 + f) t = -1 := by
      unfold bdV
      rw [if_neg (by omega), if_neg (by omega), if_neg (by omega)]
    rw [e4]
    omega
  have hbf : ∀ k, k < t → bdV nu ki t (5 + f) k = if k < ki then a k else -(a k) := fun k hk => by
    rw [ha]
    unfold bdV
    rw [if_neg (by omega), show 5 + f - 5 = f by omega, if_pos hk]
  have hdr : ∀ r, r < t + 1 → dot (List.range t) (bdV nu ki t (5 + f)) (vc G.2.1 r) = if r < t then bdV nu ki t (5 + f) r else 0 := fun r hr => by
    have e : dot (List.range t) (bdV nu ki t (5 + f)) (vc G.2.1 r) = dot (List.range t) (bdV nu ki t (5 + f)) (dl r) := dot_congr (fun _ _ => rfl) (fun k hk => by
      rw [hval r hr k (List.mem_range.mp hk)]
      rfl)
    rw [e, dot_comm]
    by_cases hrt : r < t
    · rw [if_pos hrt, dot_unit hrt]
    · rw [if_neg hrt]
      exact dot_zl (fun k hk => by have := List.mem_range.mp hk; unfold dl; rw [if_neg (by omega)])
  have hdot : ∀ r, r < t + 1 → dot (List.range (t + 1)) (bdV nu ki t (5 + f)) (vc G.2.1 r) = if r < t then 0 else 1 := fun r hr => by
    rw [hdf, hdr r hr]
    by_cases hrt : r < t
    · rw [if_pos hrt, if_pos hrt, hvt r hrt, hbf r hrt]
      split <;> omega
    · rw [if_neg hrt, if_neg hrt, show r = t by omega, hvtt]
      omega
  have hslv : ∀ r, r < t + 1 → (sl r).toInt = if r < t then 0 else 1 := fun r hr => by
    rw [hsl r (by omega), (slk_int (ray := G.2.1) (nu := nu) (r := r) (w := f) (ki := ki) (t := t) (n := t + 1) (B := 10000) (by decide) hki ht (Or.inr rfl) (by
      by_cases hrt : r < t
      · rw [hvt r hrt]
        have := hab r hrt
        split <;> omega
      · rw [show r = t by omega, hvtt]
        decide) (fun e => by omega) (fun j hj => by
      rw [hval r hr j hj]
      have := hnu j hj
      split <;> omega)).1]
    exact hdot r hr
  have hno : ∀ r, r < t + 1 → ¬ sl r < 0 := fun r hr => by
    rw [i64_lt, hslv r hr]
    show ¬ (if r < t then (0 : Int) else 1) < 0
    split <;> omega
  have hP : prO kf sl G.2.2 G.1 0 G.1 = [] := by
    refine List.eq_nil_iff_forall_not_mem.mpr (fun p hp => ?_)
    rw [prO_mem] at hp
    exact hno p.2 (by omega) hp.2.2.2.2.1
  have hcut : cutF nu f ki t kf sl G = cmL t sl (bdW f) G.1 0 G.1 (0, G.2) := by
    unfold cutF
    rw [ctO_jn ht G.1 0 G (by omega) (Nat.le_refl _) (fun _ _ => rfl), hP]
    rfl
  have hcm := cmL_kp (sl := sl) (bd := bdW f) (old := G.1) ht G G.1 0 (0, G.2) [] rfl (Nat.le_refl _) (fun e j q => by simp at q) (fun i _ => ⟨fun k _ => rfl, rfl⟩)
  rw [← hcut, List.nil_append] at hcm
  obtain ⟨F, hF⟩ : ∃ F, F = cutF nu f ki t kf sl G := ⟨_, rfl⟩
  rw [← hF] at hcm ⊢
  have hall : ∀ j, 0 ≤ j → j < 0 + G.1 → ¬ (j < G.1 ∧ sl j < 0) := fun j _ h2 q => hno j (by omega) q.2
  have hF1 : F.1 = t + 1 := by rw [hcm.1, kpL_len G.1 0 hall, r1]
  have hrow : ∀ r, r < t + 1 → (∀ k, k ≤ t → F.2.1 (r * 5 + k) = G.2.1 (r * 5 + k)) ∧ F.2.2 r = cmB sl (bdW f) G.1 r (G.2.2 r) := fun r hr => by
    have := hcm.2 r (0 + r) (kpL_all G.1 0 hall r (by omega))
    rw [Nat.zero_add] at this
    exact this
  obtain ⟨ι, hι⟩ : ∃ ι : Nat → Nat, ι = fun j => if j < t then j else 5 + f := ⟨_, rfl⟩
  have hvF : ∀ r, r < t + 1 → ∀ k ∈ List.range (t + 1), vc F.2.1 r k = vc G.2.1 r k := fun r hr k hk => by
    unfold vc
    rw [(hrow r hr).1 k (by have := List.mem_range.mp hk; omega)]
  have hmem : ∀ i, i ∈ (List.range (t + 1)).map ι ↔ i ∈ (5 + f) :: List.range t := fun i => by
    rw [hι]
    simp only [List.mem_map, List.mem_range, List.mem_cons]
    constructor
    · rintro ⟨j, hj, rfl⟩
      by_cases hjt : j < t
      · rw [if_pos hjt]; exact Or.inr hjt
      · rw [if_neg hjt]; exact Or.inl rfl
    · rintro (e | e)
      · exact ⟨t, by omega, by rw [if_neg (by omega), e]⟩
      · exact ⟨i, by omega, if_pos e⟩
  have hp : Ptd (List.range (t + 1)) (bdV nu ki t) ((List.range (t + 1)).map ι) := fun y hy c hc => by
    have hz : ∀ k, k < t → y k = 0 := fun k hk => by
      have := hy k ((hmem k).mpr (List.mem_cons_of_mem _ (List.mem_range.mpr hk)))
      rw [bdV_unit hk ht, dot_unit (by omega)] at this
      exact this
    by_cases hct : c < t
    · exact hz c hct
    · have := hy (5 + f) ((hmem _).mpr List.mem_cons_self)
      rw [hdf, dot_zr (fun k hk => hz k (List.mem_range.mp hk))] at this
      rw [show c = t by have := List.mem_range.mp hc; omega]
      omega
  have hd : ∀ j, j < t + 1 → ∀ r, r < t + 1 → dot (List.range (t + 1)) (bdV nu ki t (ι j)) (vc F.2.1 r) = if j = r then 1 else 0 := fun j hj r hr => by
    have e : dot (List.range (t + 1)) (bdV nu ki t (ι j)) (vc F.2.1 r) = dot (List.range (t + 1)) (bdV nu ki t (ι j)) (vc G.2.1 r) := dot_congr (fun _ _ => rfl) (hvF r hr)
    rw [e, hι]
    show dot (List.range (t + 1)) (bdV nu ki t (if j < t then j else 5 + f)) (vc G.2.1 r) = _
    by_cases hjt : j < t
    · rw [if_pos hjt, bdV_unit hjt ht, dot_unit (by omega), hval r hr j hjt]
    · rw [if_neg hjt, hdot r hr]
      by_cases hrt : r < t
      · rw [if_pos hrt, if_neg (by omega)]
      · rw [if_neg hrt, if_pos (by omega)]
  obtain ⟨s1, s2, s3⟩ := simp_ext (cs := List.range (t + 1)) (b := bdV nu ki t) (n := t + 1) (by rw [List.length_range]) ι (fun r => vc F.2.1 r) hp hd
  refine ⟨DDI_mem hmem ⟨fun i hi => s1 i (by omega), fun i hi j hj => ?_, fun i hi j hj hne => s2 i (by omega) j (by omega) hne, fun x hx => ?_, fun e => by omega⟩, Ptd_more hp (fun i hi => (hmem i).mp hi)⟩
  · have hin : i < t + 1 := by omega
    rw [(hrow i hin).2, hmem, List.mem_cons, List.mem_range]
    have hj1 : ∀ q, q < t + 1 → ι q = j → (dot (List.range (t + 1)) (bdV nu ki t j) (vc F.2.1 i) = 0 ↔ q ≠ i) := fun q hq e => by
      have := hd q hq i hin
      rw [e] at this
      rw [this]
      by_cases h : q = i
      · rw [if_pos h]; exact ⟨fun z => by omega, fun z => absurd h z⟩
      · rw [if_neg h]; exact ⟨fun _ => h, fun _ => rfl⟩
    have hιt : ι t = 5 + f := by rw [hι]; exact if_neg (Nat.lt_irrefl _)
    have hιj : ∀ q, q < t → ι q = q := fun q hq => by rw [hι]; exact if_pos hq
    unfold cmB
    by_cases hit : i < t
    · have hz : sl i = 0 := by rw [i64_eq, hslv i hin, if_pos hit]; rfl
      rw [if_pos ⟨by omega, hz⟩, b_or, Bool.or_eq_true, (r2 i hit).2.2, axS_bits (v := 2) ht hit hj, b_bdW hf12 hj, decide_eq_true_eq]
      constructor
      · rintro ((⟨z1, z2⟩ | ⟨z1, z2⟩) | z)
        · exact ⟨Or.inr z1, (hj1 j (by omega) (hιj j z1)).mpr z2⟩
        · omega
        · exact ⟨Or.inl z, (hj1 t (by omega) (by rw [hιt, z])).mpr (by omega)⟩
      · rintro ⟨z1 | z1, z2⟩
        · exact Or.inr z1
        · exact Or.inl (Or.inl ⟨z1, (hj1 j (by omega) (hιj j z1)).mp z2⟩)
    · have hit : i = t := by omega
      have hz : ¬ sl i = 0 := by
        rw [i64_eq, hslv i hin, if_neg (by omega)]
        decide
      rw [if_neg (fun q => hz q.2), hit, r3.2.2, b_axM ht hj, decide_eq_true_eq]
      rw [hit] at hj1
      constructor
      · intro z
        exact ⟨Or.inr z, (hj1 j (by omega) (hιj j z)).mpr (by omega)⟩
      · rintro ⟨z1 | z1, z2⟩
        · exact absurd rfl ((hj1 t (by omega) (by rw [hιt, z1])).mp z2)
        · exact z1
  · obtain ⟨k, hk, hpk⟩ := s3 x hx
    exact ⟨k, by omega, hpk⟩
end ALL
