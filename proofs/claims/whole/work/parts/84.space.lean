/-! what the points fill; the bonds of the class -/
theorem lx_sb {a b : V3} : lx a b ↔ lx o3 (sb3 b a) := by
  unfold lx o3 sb3
  dsimp only
  omega
theorem lx_sm {c : Int} (hc : 0 < c) (v : V3) : lx o3 (sm3 c v) ↔ lx o3 v := by
  unfold lx o3 sm3
  dsimp only
  have k1 : ∀ x : Int, 0 < c * x ↔ 0 < x := fun x => by
    constructor
    · intro h
      refine Classical.byContradiction fun hn => ?_
      have := Int.mul_nonneg (Int.le_of_lt hc) (show 0 ≤ -x by omega)
      rw [Int.mul_neg] at this
      omega
    · intro h
      exact Int.mul_pos hc h
  have k2 : ∀ x : Int, 0 = c * x ↔ 0 = x := fun x => by
    constructor
    · intro h
      have := (Int.mul_eq_zero.mp h.symm).resolve_left (by omega)
      omega
    · intro h
      rw [← h, Int.mul_zero]
  rw [k1, k1, k1, k2, k2]
theorem lx_ng {v : V3} : lx o3 (ng3 v) ↔ lx v o3 := by
  unfold lx o3 ng3
  dsimp only
  omega
theorem lx_0 {v : V3} (h : v ≠ o3) : lx o3 v ∨ lx v o3 := by
  rcases lx_tri o3 v with c | c | c
  · exact Or.inl c
  · exact (h c.symm).elim
  · exact Or.inr c
/-- what the points of S fill, and its direction or square step -/
def FD (S : V3 → Prop) (f : Nat) (N : V3) : Prop :=
  (f = 0 ∧ ∀ p q, S p → S q → p = q) ∨
  (f = 1 ∧ prim N ∧ lx o3 N ∧ (∀ p q, S p → S q → cr N (sb3 q p) = o3) ∧ ∃ p q, S p ∧ S q ∧ p ≠ q) ∨
  (f = 2 ∧ prim N ∧ lx o3 N ∧ (∀ p q, S p → S q → d3 N p = d3 N q) ∧ ∃ p q r, S p ∧ S q ∧ S r ∧ ¬ row3 p q r) ∨
  (f = 3 ∧ ∃ p q r t, S p ∧ S q ∧ S r ∧ S t ∧ d3 (cr (sb3 q p) (sb3 r p)) (sb3 t p) ≠ 0)
theorem times_i (u v : V3) : fX6_times (iz u.1) (iz u.2.1) (iz u.2.2) (iz v.1) (iz v.2.1) (iz v.2.2) = some (iz (d3 u v)) := by
  unfold fX6_times
  simp only [iz_mul, iz_add]
  rfl
theorem d3_bd2 {A B : Int} {u v : V3} (hu : bdv A u) (hv : bdv B v) : -(3 * (A * B)) ≤ d3 u v ∧ d3 u v ≤ 3 * (A * B) := by
  obtain ⟨⟨a1, a2⟩, ⟨b1, b2⟩, c1, c2⟩ := hu
  obtain ⟨⟨p1, p2⟩, ⟨q1, q2⟩, r1, r2⟩ := hv
  have m1 := mbd (a := u.1) (b := v.1) A B a1 a2 p1 p2
  have m2 := mbd (a := u.2.1) (b := v.2.1) A B b1 b2 q1 q2
  have m3 := mbd (a := u.2.2) (b := v.2.2) A B c1 c2 r1 r2
  unfold d3
  omega
theorem space_b {k : Nat} {q : Nat → V3} (hk : k ≤ 121) (hr : ∀ i, i < k → rc3 (q i)) {R : V3} (hR : bdv 200 R) (l1 l2 l3 : Int32) : ∀ (m fuel i : Nat) (c1 c2 c3 : Int32), i + m = k → m < fuel → 1 ≤ i → ∃ c1' c2' c3' : Int32, ((∀ x, i ≤ x → x < k → d3 R (sb3 (q x) (q 0)) = 0) ∧ LX3_findSpace_107 (iz (k : Int)) (px q) (py q) (pz q) fuel (iz (i : Int)) 2 l1 l2 l3 c1 c2 c3 (iz R.1) (iz R.2.1) (iz R.2.2) = some (2, l1, l2, l3, c1', c2', c3', iz R.1, iz R.2.1, iz R.2.2)) ∨ ((∃ x, x < k ∧ d3 R (sb3 (q x) (q 0)) ≠ 0) ∧ LX3_findSpace_107 (iz (k : Int)) (px q) (py q) (pz q) fuel (iz (i : Int)) 2 l1 l2 l3 c1 c2 c3 (iz R.1) (iz R.2.1) (iz R.2.2) = some (3, l1, l2, l3, c1', c2', c3', iz R.1, iz R.2.1, iz R.2.2)) := by
  intro m
  induction m with
  | zero =>
    intro fuel i c1 c2 c3 h1 h2 h3
    obtain ⟨fuel, rfl⟩ : ∃ q, fuel = q + 1 := ⟨fuel - 1, by omega⟩
    refine ⟨c1, c2, c3, Or.inl ⟨fun x g1 g2 => by omega, ?_⟩⟩
    rw [LX3_findSpace_107, if_pos ((ix_le (by omega) (by omega)).mpr (by omega))]
  | succ m ih =>
    intro fuel i c1 c2 c3 h1 h2 h3
    obtain ⟨fuel, rfl⟩ : ∃ q, fuel = q + 1 := ⟨fuel - 1, by omega⟩
    have hb := d3_bd2 hR (sb_bd (hr i (by omega)) (hr 0 (by omega)))
    have st : LX3_findSpace_107 (iz (k : Int)) (px q) (py q) (pz q) (fuel + 1) (iz (i : Int)) 2 l1 l2 l3 c1 c2 c3 (iz R.1) (iz R.2.1) (iz R.2.2) = (if iz (d3 R (sb3 (q i) (q 0))) = 0 then LX3_findSpace_107 (iz (k : Int)) (px q) (py q) (pz q) fuel (iz ((i + 1 : Nat) : Int)) 2 l1 l2 l3 (iz (sb3 (q i) (q 0)).1) (iz (sb3 (q i) (q 0)).2.1) (iz (sb3 (q i) (q 0)).2.2) (iz R.1) (iz R.2.1) (iz R.2.2) else LX3_findSpace_107 (iz (k : Int)) (px q) (py q) (pz q) fuel (iz ((i + 1 : Nat) : Int)) 3 l1 l2 l3 (iz (sb3 (q i) (q 0)).1) (iz (sb3 (q i) (q 0)).2.1) (iz (sb3 (q i) (q 0)).2.2) (iz R.1) (iz R.2.1) (iz R.2.2)) := by
      rw [LX3_findSpace_107, if_neg (fun h => by have := (ix_le (by omega) (by omega)).mp h; omega), if_pos rfl, show (0 : Int32) = iz ((0 : Nat) : Int) from rfl, lead_i (by omega) (by omega) (by omega), bd_some, times_i, bd_some]
      unfold JX3_findSpace_158
      rw [ix_s]
    rw [st]
    by_cases c : d3 R (sb3 (q i) (q 0)) = 0
    · rw [if_pos (by rw [c]; rfl)]
      obtain ⟨a, b, d, g | g⟩ := ih fuel (i + 1) (iz (sb3 (q i) (q 0)).1) (iz (sb3 (q i) (q 0)).2.1) (iz (sb3 (q i) (q 0)).2.2) (by omega) (by omega) (by omega)
      · refine ⟨a, b, d, Or.inl ⟨fun x g1 g2 => ?_, g.2⟩⟩
        by_cases cx : x = i
        · rw [cx]; exact c
        · exact g.1 x (by omega) g2
      · exact ⟨a, b, d, Or.inr g⟩
    · rw [if_neg (by rw [z0, iz_eq (by omega) (by omega) (by omega) (by omega)]; exact c)]
      refine ⟨iz (sb3 (q i) (q 0)).1, iz (sb3 (q i) (q 0)).2.1, iz (sb3 (q i) (q 0)).2.2, Or.inr ⟨⟨i, by omega, c⟩, ?_⟩⟩
      obtain ⟨fuel, rfl⟩ : ∃ q, fuel = q + 1 := ⟨fuel - 1, by omega⟩
      rw [LX3_findSpace_107]
      by_cases ce : k ≤ i + 1
      · rw [if_pos ((ix_le (by omega) (by omega)).mpr ce)]
      · rw [if_neg (fun h => ce ((ix_le (by omega) (by omega)).mp h)), if_neg (by decide)]
theorem space_a {k : Nat} {q : Nat → V3} (hk : k ≤ 121) (hr : ∀ i, i < k → rc3 (q i)) {L : V3} (hL : bdv 10 L) : ∀ (m fuel i : Nat) (c1 c2 c3 r1 r2 r3 : Int32), i + m = k → m < fuel → 1 ≤ i → ∃ c1' c2' c3' r1' r2' r3' : Int32, ((∀ x, i ≤ x → x < k → cr L (sb3 (q x) (q 0)) = o3) ∧ LX3_findSpace_37 (iz (k : Int)) (px q) (py q) (pz q) fuel (iz (i : Int)) 1 (iz L.1) (iz L.2.1) (iz L.2.2) c1 c2 c3 r1 r2 r3 = JX3_findSpace_105 (iz (k : Int)) (px q) (py q) (pz q) 1 (iz L.1) (iz L.2.1) (iz L.2.2) c1' c2' c3' r1' r2' r3') ∨ (∃ x, x < k ∧ cr L (sb3 (q x) (q 0)) ≠ o3 ∧ LX3_findSpace_37 (iz (k : Int)) (px q) (py q) (pz q) fuel (iz (i : Int)) 1 (iz L.1) (iz L.2.1) (iz L.2.2) c1 c2 c3 r1 r2 r3 = JX3_findSpace_105 (iz (k : Int)) (px q) (py q) (pz q) 2 (iz L.1) (iz L.2.1) (iz L.2.2) c1' c2' c3' (iz (cr L (sb3 (q x) (q 0))).1) (iz (cr L (sb3 (q x) (q 0))).2.1) (iz (cr L (sb3 (q x) (q 0))).2.2)) := by
  intro m
  induction m with
  | zero =>
    intro fuel i c1 c2 c3 r1 r2 r3 h1 h2 h3
    obtain ⟨fuel, rfl⟩ : ∃ q, fuel = q + 1 := ⟨fuel - 1, by omega⟩
    refine ⟨c1, c2, c3, r1, r2, r3, Or.inl ⟨fun x g1 g2 => by omega, ?_⟩⟩
    rw [LX3_findSpace_37, if_pos ((ix_le (by omega) (by omega)).mpr (by omega))]
  | succ m ih =>
    intro fuel i c1 c2 c3 r1 r2 r3 h1 h2 h3
    obtain ⟨fuel, rfl⟩ : ∃ q, fuel = q + 1 := ⟨fuel - 1, by omega⟩
    have hb : sm100 (cr L (sb3 (q i) (q 0))) := bdv_100 (by decide) (cr_bd (A := 10) (B := 10) hL (sb_bd (hr i (by omega)) (hr 0 (by omega))))
    obtain ⟨r, e1, w1, w2⟩ := nought_i hb
    have st : LX3_findSpace_37 (iz (k : Int)) (px q) (py q) (pz q) (fuel + 1) (iz (i : Int)) 1 (iz L.1) (iz L.2.1) (iz L.2.2) c1 c2 c3 r1 r2 r3 = (if iz r = 0 then LX3_findSpace_37 (iz (k : Int)) (px q) (py q) (pz q) fuel (iz ((i + 1 : Nat) : Int)) 2 (iz L.1) (iz L.2.1) (iz L.2.2) (iz (sb3 (q i) (q 0)).1) (iz (sb3 (q i) (q 0)).2.1) (iz (sb3 (q i) (q 0)).2.2) (iz (cr L (sb3 (q i) (q 0))).1) (iz (cr L (sb3 (q i) (q 0))).2.1) (iz (cr L (sb3 (q i) (q 0))).2.2) else LX3_findSpace_37 (iz (k : Int)) (px q) (py q) (pz q) fuel (iz ((i + 1 : Nat) : Int)) 1 (iz L.1) (iz L.2.1) (iz L.2.2) (iz (sb3 (q i) (q 0)).1) (iz (sb3 (q i) (q 0)).2.1) (iz (sb3 (q i) (q 0)).2.2) (iz (cr L (sb3 (q i) (q 0))).1) (iz (cr L (sb3 (q i) (q 0))).2.1) (iz (cr L (sb3 (q i) (q 0))).2.2)) := by
      rw [LX3_findSpace_37, if_neg (fun h => by have := (ix_le (by omega) (by omega)).mp h; omega), if_pos rfl, show (0 : Int32) = iz ((0 : Nat) : Int) from rfl, lead_i (by omega) (by omega) (by omega), bd_some, sq_i, bd_some, e1, bd_some]
      unfold JX3_findSpace_99
      rw [ix_s]
    rw [st]
    rcases w1 with w1 | w1
    · subst w1
      rw [if_pos (show iz 0 = 0 from rfl)]
      refine ⟨iz (sb3 (q i) (q 0)).1, iz (sb3 (q i) (q 0)).2.1, iz (sb3 (q i) (q 0)).2.2, 0, 0, 0, Or.inr ⟨i, by omega, fun h => by have := w2.mpr h; omega, ?_⟩⟩
      obtain ⟨fuel, rfl⟩ : ∃ q, fuel = q + 1 := ⟨fuel - 1, by omega⟩
      rw [LX3_findSpace_37]
      by_cases ce : k ≤ i + 1
      · rw [if_pos ((ix_le (by omega) (by omega)).mpr ce)]
      · rw [if_neg (fun h => ce ((ix_le (by omega) (by omega)).mp h)), if_neg (by decide)]
    · subst w1
      rw [if_neg (by decide)]
      have c := w2.mp rfl
      obtain ⟨a, b, d, a', b', d', g | ⟨x, g1, g2, g3⟩⟩ := ih fuel (i + 1) (iz (sb3 (q i) (q 0)).1) (iz (sb3 (q i) (q 0)).2.1) (iz (sb3 (q i) (q 0)).2.2) (iz (cr L (sb3 (q i) (q 0))).1) (iz (cr L (sb3 (q i) (q 0))).2.1) (iz (cr L (sb3 (q i) (q 0))).2.2) (by omega) (by omega) (by omega)
      · refine ⟨a, b, d, a', b', d', Or.inl ⟨fun x g1 g2 => ?_, g.2⟩⟩
        by_cases cx : x = i
        · rw [cx]; exact c
        · exact g.1 x (by omega) g2
      · exact ⟨a, b, d, a', b', d', Or.inr ⟨x, g1, g2, g3⟩⟩
/-- what findSpace gives -/
theorem space_i {k : Nat} {q : Nat → V3} (hk : k ≤ 121) (hk1 : 1 ≤ k) (hr : ∀ i, i < k → rc3 (q i)) (fi l1 l2 l3 c1 c2 c3 r1 r2 r3 : Int32) : ∃ (f : Nat) (L1 L2 L3 C1 C2 C3 R1 R2 R3 : Int32), fX3_findSpace fi (iz (k : Int)) (px q) (py q) (pz q) l1 l2 l3 c1 c2 c3 r1 r2 r3 = some (iz (f : Int), L1, L2, L3, C1, C2, C3, R1, R2, R3) ∧
   ((f = 0 ∧ k = 1) ∨ (2 ≤ k ∧ L1 = iz (sb3 (q 1) (q 0)).1 ∧ L2 = iz (sb3 (q 1) (q 0)).2.1 ∧ L3 = iz (sb3 (q 1) (q 0)).2.2 ∧ ((f = 1 ∧ ∀ x, x < k → cr (sb3 (q 1) (q 0)) (sb3 (q x) (q 0)) = o3) ∨ ∃ y, y < k ∧ cr (sb3 (q 1) (q 0)) (sb3 (q y) (q 0)) ≠ o3 ∧ R1 = iz (cr (sb3 (q 1) (q 0)) (sb3 (q y) (q 0))).1 ∧ R2 = iz (cr (sb3 (q 1) (q 0)) (sb3 (q y) (q 0))).2.1 ∧ R3 = iz (cr (sb3 (q 1) (q 0)) (sb3 (q y) (q 0))).2.2 ∧ ((f = 2 ∧ ∀ x, x < k → d3 (cr (sb3 (q 1) (q 0)) (sb3 (q y) (q 0))) (sb3 (q x) (q 0)) = 0) ∨ (f = 3 ∧ ∃ x, x < k ∧ d3 (cr (sb3 (q 1) (q 0)) (sb3 (q y) (q 0))) (sb3 (q x) (q 0)) ≠ 0))))) := by
  unfold fX3_findSpace
  by_cases h2 : 2 ≤ k
  · rw [if_pos (by rw [z2, iz_le (by omega) (by omega) (by omega) (by omega)]; omega), show (0 : Int32) = iz ((0 : Nat) : Int) from rfl]
    have hl := lead_i (n := 121) (i := 0) (j := 1) (q := q) (by omega) (by omega) (by omega) l1 l2 l3
    rw [show iz ((1 : Nat) : Int) = 1 from rfl] at hl
    rw [hl, bd_some]
    have cr0 : ∀ v : V3, cr v (sb3 (q 0) (q 0)) = o3 := fun v => by unfold cr sb3 o3; exact v3_ext (by dsimp only; grind) (by dsimp only; grind) (by dsimp only; grind)
    have cr1 : cr (sb3 (q 1) (q 0)) (sb3 (q 1) (q 0)) = o3 := by unfold cr o3; exact v3_ext (by dsimp only; grind) (by dsimp only; grind) (by dsimp only; grind)
    have hLb : bdv 10 (sb3 (q 1) (q 0)) := sb_bd (hr 1 (by omega)) (hr 0 (by omega))
    obtain ⟨a, b, c, a', b', c', g | ⟨y, y1, y2, y3⟩⟩ := space_a hk hr (L := sb3 (q 1) (q 0)) hLb (k - 2) FU 2 c1 c2 c3 r1 r2 r3 (by omega) (by unfold FU; omega) (by omega)
    · refine ⟨1, _, _, _, a, b, c, a', b', c', (?_ : _ = some (iz ((1 : Nat) : Int), iz (sb3 (q 1) (q 0)).1, iz (sb3 (q 1) (q 0)).2.1, iz (sb3 (q 1) (q 0)).2.2, a, b, c, a', b', c')), Or.inr ⟨h2, rfl, rfl, rfl, Or.inl ⟨rfl, fun x hx => ?_⟩⟩⟩
      · refine g.2.trans ?_
        unfold JX3_findSpace_105
        rw [show FU = 4999 + 1 from rfl, LX3_findSpace_107]
        by_cases ce : k ≤ 2
        · rw [if_pos (show iz (k : Int) ≤ 2 from (ix_le (a := k) (b := 2) (by omega) (by omega)).mpr ce)]; rfl
        · rw [if_neg (show ¬ iz (k : Int) ≤ 2 from fun h => ce ((ix_le (a := k) (b := 2) (by omega) (by omega)).mp h)), if_neg (by decide)]; rfl
      · by_cases cx : 2 ≤ x
        · exact g.1 x cx hx
        · rcases (show x = 0 ∨ x = 1 by omega) with rfl | rfl
          · exact cr0 _
          · exact cr1
    · have hRb : bdv 200 (cr (sb3 (q 1) (q 0)) (sb3 (q y) (q 0))) := cr_bd (A := 10) (B := 10) hLb (sb_bd (hr y y1) (hr 0 (by omega)))
      obtain ⟨d, e, f, g | g⟩ := space_b hk hr hRb (iz (sb3 (q 1) (q 0)).1) (iz (sb3 (q 1) (q 0)).2.1) (iz (sb3 (q 1) (q 0)).2.2) (k - 2) FU 2 a b c (by omega) (by unfold FU; omega) (by omega)
      · refine ⟨2, _, _, _, d, e, f, _, _, _, y3.trans g.2, Or.inr ⟨h2, rfl, rfl, rfl, Or.inr ⟨y, y1, y2, rfl, rfl, rfl, Or.inl ⟨rfl, fun x hx => ?_⟩⟩⟩⟩
        by_cases cx : 2 ≤ x
        · exact g.1 x cx hx
        · rcases (show x = 0 ∨ x = 1 by omega) with rfl | rfl
          · rw [d3_sb]; omega
          · exact d3_cr1 _ _
      · exact ⟨3, _, _, _, d, e, f, _, _, _, y3.trans g.2, Or.inr ⟨h2, rfl, rfl, rfl, Or.inr ⟨y, y1, y2, rfl, rfl, rfl, Or.inr ⟨rfl, g.1⟩⟩⟩⟩
  · rw [if_neg (by rw [z2, iz_le (by omega) (by omega) (by omega) (by omega)]; omega)]
    exact ⟨0, _, _, _, _, _, _, _, _, _, rfl, Or.inl ⟨rfl, by omega⟩⟩
