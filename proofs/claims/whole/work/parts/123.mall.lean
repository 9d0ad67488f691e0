/-! THE REFERENCE'S SIDES: every edge is told, and nothing else -/
section MALL
theorem tv_cg {wd t : Nat} {x y : Nat → Int} (ht : t ≤ wd) (h : ∀ c ∈ List.range wd, x c = y c) (k : Nat) : tv wd t x k = tv wd t y k := by
  unfold tv
  by_cases h1 : k < t
  · rw [if_pos h1, if_pos h1]
    exact h k (List.mem_range.mpr (by omega))
  · rw [if_neg h1, if_neg h1]
    by_cases h2 : k = 4 ∧ t < wd
    · rw [if_pos h2, if_pos h2]
      exact h t (List.mem_range.mpr h2.2)
    · rw [if_neg h2, if_neg h2]
theorem prm_pm {cs : List Nat} {x z : Nat → Int} (hzx : nz cs x) (hgx : gl x cs = 1) (hgz : gl z cs = 1) (h : par2 cs x z) : (∀ c ∈ cs, x c = z c) ∨ ∀ c ∈ cs, x c = -1 * z c := by
  obtain ⟨p, hp1, hp0⟩ := hzx
  have hab : ∀ c ∈ cs, (x c).natAbs = (z c).natAbs := fun c hc => Nat.dvd_antisymm (prm_dvd hgx h hc) (prm_dvd hgz (par2_symm h) hc)
  by_cases e : x p = z p
  · refine Or.inl (fun c hc => ?_)
    have := h p hp1 c hc
    rw [← e] at this
    have : x p * x c = x p * z c := by grind
    exact Int.eq_of_mul_eq_mul_left hp0 this
  · have e2 : z p = -(x p) := by have := hab p hp1; omega
    refine Or.inr (fun c hc => ?_)
    have := h p hp1 c hc
    rw [e2] at this
    have : x p * x c = x p * (-1 * z c) := by grind
    exact Int.eq_of_mul_eq_mul_left hp0 this
theorem rwF_map (bd : Nat → Int64) (ch : Nat → Nat) : ∀ d row, rwF bd ch row d = ((List.range' row d).map ch).map (vc bd)
  | 0, _ => rfl
  | d + 1, row => by rw [rwF, rwF_map bd ch d (row + 1)]; rfl
theorem rwF_map0 (bd : Nat → Int64) (ch : Nat → Nat) (d : Nat) : rwF bd ch 0 d = ((List.range d).map ch).map (vc bd) := by rw [rwF_map, List.range_eq_range']
/-- an edge in lowest terms -/
def Gd (bd : Nat → Int64) (nb wd : Nat) (x : Nat → Int) : Prop := Ext (List.range wd) (vc bd) (List.range nb) x ∧ gl x (List.range wd) = 1
def hasR (wd t : Nat) (s : (Nat → Int64) × Nat) (x : Nat → Int) : Prop := ∃ i, i < s.2 ∧ ∀ k, k < 5 → vc s.1 i k = tv wd t x k
def LI (bd : Nat → Int64) (nb wd t : Nat) (s : (Nat → Int64) × Nat) : Prop := srtS 4 s.2 s.1 ∧ ∀ i, i < s.2 → ∃ x, Gd bd nb wd x ∧ ∀ k, k < 5 → vc s.1 i k = tv wd t x k
theorem put_LI {bd : Nat → Int64} {nb wd t : Nat} {s : (Nat → Int64) × Nat} {T : Nat → Int64} {z : Nat → Int} (hL : LI bd nb wd t s) (hz : Gd bd nb wd z) (hT : ∀ k, k < 5 → tvT T k = tv wd t z k) : LI bd nb wd t (putF T s) ∧ (∀ x, hasR wd t s x → hasR wd t (putF T s) x) ∧ hasR wd t (putF T s) z := by
  obtain ⟨sd, ns⟩ := s
  obtain ⟨a1, a2, a3, i, a4, a5⟩ := putF_ok (T := T) hL.1
  refine ⟨⟨a1, fun i hi => ?_⟩, fun x hx => ?_, i, a4, fun k hk => (a5 k hk).trans (hT k hk)⟩
  · rcases a2 i hi with ⟨j, hj, e⟩ | e
    · obtain ⟨x, x1, x2⟩ := hL.2 j hj
      exact ⟨x, x1, fun k hk => (e k hk).trans (x2 k hk)⟩
    · exact ⟨z, hz, fun k hk => (e k hk).trans (hT k hk)⟩
  · obtain ⟨j, hj, e⟩ := hx
    obtain ⟨i, hi, f⟩ := a3 j hj
    exact ⟨i, hi, fun k hk => (f k hk).trans (e k hk)⟩
theorem hasR_cg {wd t : Nat} (ht : t ≤ wd) {s : (Nat → Int64) × Nat} {x z : Nat → Int} (h : ∀ c ∈ List.range wd, x c = z c) (hz : hasR wd t s z) : hasR wd t s x := by
  obtain ⟨i, hi, e⟩ := hz
  exact ⟨i, hi, fun k hk => (e k hk).trans (tv_cg ht h k).symm⟩
/-- one choice -/
theorem leafM {bd : Nat → Int64} {ch : Nat → Nat} {nb wd t : Nat} (hw : wd ≤ 5) (hw2 : 2 ≤ wd) (ht : t ≤ 4) (hwt : wd = t ∨ wd = t + 1) (hB : smB bd nb wd) (hp : Ptd (List.range wd) (vc bd) (List.range nb)) (hch : ∀ j, j + 1 < wd → ch j < nb) (q : TS) (hL : LI bd nb wd t q.2) :
    LI bd nb wd t (trF bd ch nb wd t q).2 ∧ (∀ x, hasR wd t q.2 x → hasR wd t (trF bd ch nb wd t q).2 x) ∧ ∀ x, Gd bd nb wd x → (∀ i ∈ (List.range (wd - 1)).map ch, dot (List.range wd) (vc bd i) x = 0) → nz (List.range wd) (crs (((List.range (wd - 1)).map ch).map (vc bd)) (List.range wd)) → hasR wd t (trF bd ch nb wd t q).2 x := by
  have hn : (List.range wd).Nodup := List.nodup_range
  obtain ⟨S, hS⟩ : ∃ S, S = (List.range (wd - 1)).map ch := ⟨_, rfl⟩
  have hSl : S.length + 1 = (List.range wd).length := by rw [hS, List.length_map, List.length_range, List.length_range]; omega
  have hSm : ∀ i ∈ S, i ∈ List.range nb := fun i hi => by
    rw [hS] at hi
    obtain ⟨j, hj, rfl⟩ := List.mem_map.mp hi
    have := List.mem_range.mp hj
    exact List.mem_range.mpr (hch j (by omega))
  have hc := trF_cases hw hw2 ht hwt hB hch q
  rw [rwF_map0, ← hS] at hc
  rw [← hS]
  rcases hc with ⟨h0, e⟩ | ⟨h0, z, hg, hpar, hc⟩
  · rw [e]
    exact ⟨hL, fun x hx => hx, fun x _ _ h => absurd h h0⟩
  · have hzS : ∀ i ∈ S, dot (List.range wd) (vc bd i) z = 0 := fun i hi => par2_dot h0 hpar (crs_perp hn (List.mem_map_of_mem hi))
    have hznz : nz (List.range wd) z := by
      refine Classical.byContradiction (fun hno => ?_)
      have : ∀ c ∈ List.range wd, z c = 0 := fun c hc => Classical.byContradiction (fun h => hno ⟨c, hc, h⟩)
      have h1 : gl z (List.range wd) = gl (fun c => 0 * z c) (List.range wd) := gl_congr (fun c hc => by rw [this c hc]; rfl)
      rw [gl_mul, hg] at h1
      simp at h1
    -- a row on the line and within the bounds is an edge
    have good : ∀ y : Nat → Int, nz (List.range wd) y → gl y (List.range wd) = 1 → (∀ i ∈ S, dot (List.range wd) (vc bd i) y = 0) → Cb bd nb wd y → Gd bd nb wd y := fun y y1 y2 y3 y4 => by
      refine ⟨⟨fun i hi => y4 i (List.mem_range.mp hi), y1, fun w hw => ?_⟩, y2⟩
      exact basis_line hn hSl h0 y3 (fun i hi => hw i (hSm i hi) (y3 i hi))
    have same : ∀ y : Nat → Int, Gd bd nb wd y → (∀ i ∈ S, dot (List.range wd) (vc bd i) y = 0) → ∀ x, Gd bd nb wd x → (∀ i ∈ S, dot (List.range wd) (vc bd i) x = 0) → ∀ c ∈ List.range wd, x c = y c := fun y hy y3 x hx x3 =>
      prm_eq hp hx.1.1 hx.1.2.1 hy.1.1 hx.2 hy.2 (basis_line hn hSl h0 x3 y3)
    have hmd : ∀ r : Nat → Int, dot (List.range wd) r (fun j => -1 * z j) = -1 * dot (List.range wd) r z := fun r => by
      have := dot_lc (List.range wd) r z z (-1) 0
      rw [Int.zero_mul, Int.add_zero] at this
      rw [← this]
      exact dot_congr (fun _ _ => rfl) (fun c _ => by show -1 * z c = -1 * z c + 0 * z c; omega)
    have hmS : ∀ i ∈ S, dot (List.range wd) (vc bd i) (fun j => -1 * z j) = 0 := fun i hi => by rw [hmd, hzS i hi]; rfl
    have hmg : gl (fun j => -1 * z j) (List.range wd) = 1 := by rw [gl_mul, hg]; rfl
    have hmz : nz (List.range wd) (fun j => -1 * z j) := by
      obtain ⟨c, c1, c2⟩ := hznz
      exact ⟨c, c1, by show -1 * z c ≠ 0; omega⟩
    have htw : t ≤ wd := by omega
    rcases hc with ⟨c1, T, hT, e⟩ | ⟨-, c1, T, hT, e⟩ | ⟨c1, c2, e⟩
    · rw [e]
      have hG := good z hznz hg hzS c1
      obtain ⟨p1, p2, p3⟩ := put_LI hL hG hT
      exact ⟨p1, p2, fun x hx x3 _ => hasR_cg htw (same z hG hzS x hx x3) p3⟩
    · rw [e]
      have hG := good (fun j => -1 * z j) hmz hmg hmS c1
      obtain ⟨p1, p2, p3⟩ := put_LI hL hG hT
      exact ⟨p1, p2, fun x hx x3 _ => hasR_cg htw (same _ hG hmS x hx x3) p3⟩
    · rw [e]
      refine ⟨hL, fun x hx => hx, fun x hx x3 _ => ?_⟩
      rcases prm_pm hx.1.2.1 hx.2 hg (basis_line hn hSl h0 x3 hzS) with h | h
      · refine absurd (fun γ hγ => ?_) c1
        rw [← dot_congr (fun _ _ => rfl) h]
        exact hx.1.1 γ (List.mem_range.mpr hγ)
      · refine absurd (fun γ hγ => ?_) c2
        rw [← dot_congr (z' := fun j => -1 * z j) (fun _ _ => rfl) h]
        exact hx.1.1 γ (List.mem_range.mpr hγ)
/-- what choosing does -/
def CO (bd : Nat → Int64) (nb wd t d many b : Nat) (q r : CT) : Prop :=
  LI bd nb wd t r.2.2 ∧ (∀ x, hasR wd t q.2.2 x → hasR wd t r.2.2 x) ∧ ∀ x, Gd bd nb wd x → ∀ L : List Nat, L.length = d → L.Pairwise (· < ·) → (∀ i ∈ L, b ≤ i ∧ i < nb) → (∀ i ∈ (List.range many).map q.1 ++ L, dot (List.range wd) (vc bd i) x = 0) → nz (List.range wd) (crs (((List.range many).map q.1 ++ L).map (vc bd)) (List.range wd)) → hasR wd t r.2.2 x
theorem chF_all {bd : Nat → Int64} {nb wd t : Nat} (hw : wd ≤ 5) (hw2 : 2 ≤ wd) (ht : t ≤ 4) (hwt : wd = t ∨ wd = t + 1) (hB : smB bd nb wd) (hp : Ptd (List.range wd) (vc bd) (List.range nb)) : ∀ (d many b : Nat) (q : CT), many + d + 1 = wd → (∀ j, j < many → q.1 j < nb) → LI bd nb wd t q.2.2 → CO bd nb wd t d many b q (chF bd nb wd t d many b q)
  | 0, many, b, q, hm, hq, hL => by
    obtain ⟨a1, a2, a3⟩ := leafM hw hw2 ht hwt hB hp (ch := q.1) (fun j hj => hq j (by omega)) q.2 hL
    rw [show wd - 1 = many by omega] at a3
    refine ⟨a1, a2, fun x hx L l1 _ _ l4 l5 => ?_⟩
    rw [List.eq_nil_of_length_eq_zero l1, List.append_nil] at l4 l5
    exact a3 x hx l4 l5
  | d + 1, many, b, q, hm, hq, hL => by
    rw [chF]
    have key : ∀ (n b : Nat) (q : CT), n = nb - b → (∀ j, j < many → q.1 j < nb) → LI bd nb wd t q.2.2 → CO bd nb wd t (d + 1) many b q (chG (fun m f z => chF bd nb wd t d m f z) many b n q) := by
      intro n
      induction n with
      | zero =>
        intro b q hn hq hL
        refine ⟨hL, fun x hx => hx, fun x hx L l1 _ l3 _ _ => ?_⟩
        obtain ⟨a, L', rfl⟩ : ∃ a L', L = a :: L' := by
          cases L with
          | nil => simp at l1
          | cons a L' => exact ⟨a, L', rfl⟩
        have := l3 a List.mem_cons_self
        omega
      | succ n ih =>
        intro b q hn hq hL
        obtain ⟨u, hu⟩ : ∃ u : CT, u = (updN q.1 many b, q.2) := ⟨_, rfl⟩
        have hu1 : ∀ j, j < many → u.1 j = q.1 j := fun j hj => by rw [hu]; show updN q.1 many b j = _; unfold updN; rw [if_neg (by omega)]
        have hu2 : u.1 many = b := by rw [hu]; show updN q.1 many b many = _; unfold updN; rw [if_pos rfl]
        have hu3 : u.2 = q.2 := by rw [hu]
        have hpre : (List.range (many + 1)).map u.1 = (List.range many).map q.1 ++ [b] := by
          rw [List.range_succ, List.map_append, List.map_singleton, hu2]
          congr 1
          exact List.map_congr_left (fun j hj => hu1 j (List.mem_range.mp hj))
        have h1 := chF_all hw hw2 ht hwt hB hp d (many + 1) (b + 1) u (by omega) (fun j hj => by
          by_cases e : j = many
          · rw [e, hu2]; omega
          · rw [hu1 j (by omega)]; exact hq j (by omega)) (by rw [hu3]; exact hL)
        obtain ⟨r, hr⟩ : ∃ r, r = chF bd nb wd t d (many + 1) (b + 1) u := ⟨_, rfl⟩
        rw [← hr] at h1
        have hr1 : ∀ j, j < many → r.1 j = q.1 j := fun j hj => by rw [hr, chF_ch bd nb wd t d (many + 1) (b + 1) u j (by omega), hu1 j hj]
        have hrp : (List.range many).map r.1 = (List.range many).map q.1 := List.map_congr_left (fun j hj => hr1 j (List.mem_range.mp hj))
        have h2 := ih (b + 1) r (by omega) (fun j hj => by rw [hr1 j hj]; exact hq j hj) h1.1
        rw [chG]
        show CO bd nb wd t (d + 1) many b q (chG (fun m f z => chF bd nb wd t d m f z) many (b + 1) n (chF bd nb wd t d (many + 1) (b + 1) (updN q.1 many b, q.2)))
        rw [← hu, ← hr]
        obtain ⟨b1, b2, b3⟩ := h1
        obtain ⟨c1, c2, c3⟩ := h2
        rw [hu3] at b2
        rw [hpre] at b3
        rw [hrp] at c3
        refine ⟨c1, fun x hx => c2 x (b2 x hx), fun x hx L l1 l2 l3 l4 l5 => ?_⟩
        obtain ⟨a, L', rfl⟩ : ∃ a L', L = a :: L' := by
          cases L with
          | nil => simp at l1
          | cons a L' => exact ⟨a, L', rfl⟩
        have hlt := (List.pairwise_cons.mp l2).1
        by_cases e : a = b
        · have e2 : (List.range many).map q.1 ++ [b] ++ L' = (List.range many).map q.1 ++ a :: L' := by rw [e, List.append_assoc]; rfl
          rw [← e2] at l4 l5
          exact c2 x (b3 x hx L' (by simpa using l1) (List.pairwise_cons.mp l2).2 (fun i hi => by
            have h1 := hlt i hi
            have h2 := l3 i (List.mem_cons_of_mem _ hi)
            omega) l4 l5)
        · refine c3 x hx (a :: L') l1 l2 (fun i hi => ?_) l4 l5
          have h0 := l3 a List.mem_cons_self
          have h2 := l3 i hi
          rcases List.mem_cons.mp hi with z | z
          · omega
          · have h1 := hlt i z
            omega
    exact key (nb - b) b q rfl hq hL
/-- THE REFERENCE'S LIST: all edges in lowest terms, in order -/
theorem asF_all {bd : Nat → Int64} {nb wd t : Nat} (hw : wd ≤ 5) (hw2 : 2 ≤ wd) (ht : t ≤ 4) (hwt : wd = t ∨ wd = t + 1) (hB : smB bd nb wd) (hp : Ptd (List.range wd) (vc bd) (List.range nb)) (q : CT) : LI bd nb wd t (asF bd nb wd t q).2.2 ∧ ∀ x, Gd bd nb wd x → hasR wd t (asF bd nb wd t q).2.2 x := by
  obtain ⟨a1, -, a3⟩ := chF_all hw hw2 ht hwt hB hp (wd - 1) 0 0 (q.1, q.2.1, q.2.2.1, 0) (by omega) (fun j hj => absurd hj (by omega)) ⟨fun i j _ h => absurd h (Nat.not_lt_zero j), fun i h => absurd h (Nat.not_lt_zero i)⟩
  refine ⟨a1, fun x hx => ?_⟩
  obtain ⟨S, s1, s2, s3, s4⟩ := ext_basis List.nodup_range hx.1
  rw [List.length_range] at s1
  exact a3 x hx S (by omega) s2 (fun i hi => ⟨Nat.zero_le _, List.mem_range.mp (s3 i hi).1⟩) (fun i hi => (s3 i hi).2) s4
end MALL
