/-! where a point lies: class and reference -/
def lp (s : Nat → V3) (e : Nat → Int) (X : V3) (Q : Int) : Nat → Nat → Int → Int
  | 0, _, v => v
  | m + 1, i, v => if 0 < d3 (s i) X - e i * Q then 0 else lp s e X Q m (i + 1) (if d3 (s i) X - e i * Q = 0 then 1 else v)
def wh (f : Nat) (N : V3) (ss : Nat) (s : Nat → V3) (e be : Nat → Int) (X : V3) (Q : Int) : Int := if (∀ i, i < nbd f → d3 (bnd f N i) X - be i * Q = 0) then lp s e X Q ss 0 2 else 0
theorem lp_rng (s : Nat → V3) (e : Nat → Int) (X : V3) (Q : Int) : ∀ (m i : Nat) (v : Int), 0 ≤ v → v ≤ 2 → 0 ≤ lp s e X Q m i v ∧ lp s e X Q m i v ≤ 2 := by
  intro m
  induction m with
  | zero => intro i v h1 h2; exact ⟨h1, h2⟩
  | succ m ih =>
    intro i v h1 h2
    rw [lp]
    split
    · omega
    · apply ih
      · split <;> omega
      · split <;> omega
theorem wh_rng (f : Nat) (N : V3) (ss : Nat) (s : Nat → V3) (e be : Nat → Int) (X : V3) (Q : Int) : 0 ≤ wh f N ss s e be X Q ∧ wh f N ss s e be X Q ≤ 2 := by
  unfold wh
  split
  · exact lp_rng s e X Q ss 0 2 (by omega) (by omega)
  · omega
theorem lg_le0 {a : Int} (h : -9223372036854775808 ≤ a) (h2 : a < 9223372036854775808) : lg_cmp (lz a) 0 ≤ 0 ↔ ¬ 0 < a := by
  rw [← lg_pos h h2, Int32.not_lt]
theorem lg_eq {a b : Int} (h : -9223372036854775808 ≤ a) (h2 : a < 9223372036854775808) (h3 : -9223372036854775808 ≤ b) (h4 : b < 9223372036854775808) : lg_cmp (lz a) (lz b) = 0 ↔ a = b := by
  unfold lg_cmp
  simp only [gt_iff_lt, lz_lt (a := b) (b := a) h3 h4 h h2, lz_eq (a := a) (b := b) h h2 h3 h4]
  by_cases c : b < a
  · rw [if_pos c]
    exact ⟨fun h => absurd h (by decide), fun h => by omega⟩
  · rw [if_neg c]
    by_cases c2 : a = b
    · rw [if_pos c2]; exact ⟨fun _ => c2, fun _ => rfl⟩
    · rw [if_neg c2]
      exact ⟨fun h => absurd h (by decide), fun h => (c2 h).elim⟩
/-- numbers of a point that is asked for -/
def rgX (X : V3) (Q : Int) : Prop := bdv 100000 X ∧ 0 ≤ Q ∧ Q ≤ 1000
theorem ex_bd {B : Int} (hB0 : 0 ≤ B) (hB : B ≤ 4000) {v X : V3} {e Q : Int} (hv : bdv B v) (he : -100000 ≤ e ∧ e ≤ 100000) (h : rgX X Q) : -9000000000 ≤ d3 v X - e * Q ∧ d3 v X - e * Q ≤ 9000000000 := by
  obtain ⟨hX, hQ0, hQ1⟩ := h
  have a := d3_bd2 hv hX
  have b := mbd (a := e) (b := Q) 100000 1000 he.1 he.2 (by omega) hQ1
  have c : B * 100000 ≤ 4000 * 100000 := Int.mul_le_mul_of_nonneg_right hB (by omega)
  omega
theorem place_i {f : Nat} {N : V3} {ss : Nat} {s bd' : Nat → V3} {e be : Nat → Int} (hss : ss ≤ 80) (hs : ∀ i, i < ss → bdv 4000 (s i) ∧ -100000 ≤ e i ∧ e i ≤ 100000) (hN : bdv 200 N) (hb : ∀ i, i < nbd f → bd' i = bnd f N i ∧ -100000 ≤ be i ∧ be i ≤ 100000) {X : V3} {Q : Int} (hX : rgX X Q) : fX0_placeOf ss (nbd f) (iz (ss : Int)) (px s) (py s) (pz s) (pe e) (iz ((nbd f : Nat) : Int)) (px bd') (py bd') (pz bd') (pe be) (iz X.1) (iz X.2.1) (iz X.2.2) (iz Q) = some (iz (wh f N ss s e be X Q)) := by
  have nb3 : nbd f ≤ 3 := by unfold nbd; split; omega; split <;> omega
  have hX' := hX
  obtain ⟨⟨⟨x1, x2⟩, ⟨x3, x4⟩, x5, x6⟩, q0, q1⟩ := hX
  have l2 : ∀ (m fuel i : Nat) (v : Int), i + m = ss → m < fuel → LX0_placeOf_52 ss (nbd f) (iz (ss : Int)) (px s) (py s) (pz s) (pe e) (iz ((nbd f : Nat) : Int)) (px bd') (py bd') (pz bd') (pe be) fuel (iz X.1) (iz X.2.1) (iz X.2.2) (iz Q) (iz v) (iz (i : Int)) = some (iz (lp s e X Q m i v)) := by
    intro m
    induction m with
    | zero =>
      intro fuel i v h1 h2
      obtain ⟨fuel, rfl⟩ : ∃ q, fuel = q + 1 := ⟨fuel - 1, by omega⟩
      rw [LX0_placeOf_52, if_pos ((ix_le (by omega) (by omega)).mpr (by omega))]
      rfl
    | succ m ih =>
      intro fuel i v h1 h2
      obtain ⟨fuel, rfl⟩ : ∃ q, fuel = q + 1 := ⟨fuel - 1, by omega⟩
      obtain ⟨g1, g2⟩ := hs i (by omega)
      have hx := excess_i (n := ss) (i := i) (s := s) (e := e) (by omega) (by omega) (bdv_100 (by decide) g1) ⟨by omega, by omega⟩ X Q
      have hbd := ex_bd (B := 4000) (by omega) (by omega) g1 g2 hX'
      rw [LX0_placeOf_52, if_neg (fun h => by have := (ix_le (by omega) (by omega)).mp h; omega), iz_lz (by omega) (by omega), iz_lz (by omega) (by omega), iz_lz (by omega) (by omega), iz_lz (by omega) (by omega), hx, bd_some, lp]
      unfold JX0_placeOf_103
      rw [ix_s]
      by_cases c : 0 < d3 (s i) X - e i * Q
      · rw [if_neg (fun h => (lg_le0 (by omega) (by omega)).mp h c), if_pos c]
        rfl
      · rw [if_pos ((lg_le0 (by omega) (by omega)).mpr c), if_neg c]
        by_cases c2 : d3 (s i) X - e i * Q = 0
        · rw [if_pos ((lg_0 (by omega) (by omega)).mpr c2), if_pos c2]
          exact ih fuel (i + 1) 1 (by omega) (by omega)
        · rw [if_neg (fun h => c2 ((lg_0 (by omega) (by omega)).mp h)), if_neg c2]
          exact ih fuel (i + 1) v (by omega) (by omega)
  have l1 : ∀ (m fuel i : Nat), i + m = nbd f → m < fuel → (∀ j, j < i → d3 (bnd f N j) X - be j * Q = 0) → LX0_placeOf_3 ss (nbd f) (iz (ss : Int)) (px s) (py s) (pz s) (pe e) (iz ((nbd f : Nat) : Int)) (px bd') (py bd') (pz bd') (pe be) fuel (iz X.1) (iz X.2.1) (iz X.2.2) (iz Q) (iz (i : Int)) = some (iz (wh f N ss s e be X Q)) := by
    intro m
    induction m with
    | zero =>
      intro fuel i h1 h2 h3
      obtain ⟨fuel, rfl⟩ : ∃ q, fuel = q + 1 := ⟨fuel - 1, by omega⟩
      rw [LX0_placeOf_3, if_pos ((ix_le (by omega) (by omega)).mpr (by omega))]
      unfold wh
      rw [if_pos (fun j hj => h3 j (by omega))]
      exact l2 ss FU 0 2 (by omega) (by unfold FU; omega)
    | succ m ih =>
      intro fuel i h1 h2 h3
      obtain ⟨fuel, rfl⟩ : ∃ q, fuel = q + 1 := ⟨fuel - 1, by omega⟩
      obtain ⟨g1, g2⟩ := hb i (by omega)
      have b1 : bdv 200 (bd' i) := by rw [g1]; exact bnd_bd hN i
      have hx := excess_i (n := nbd f) (i := i) (s := bd') (e := be) (by omega) (by omega) (bdv_100 (by decide) b1) ⟨by omega, by omega⟩ X Q
      have hbd := ex_bd (B := 200) (by omega) (by omega) b1 g2 hX'
      rw [LX0_placeOf_3, if_neg (fun h => by have := (ix_le (by omega) (by omega)).mp h; omega), iz_lz (by omega) (by omega), iz_lz (by omega) (by omega), iz_lz (by omega) (by omega), iz_lz (by omega) (by omega), hx, bd_some, ix_s]
      rw [g1] at hbd ⊢
      by_cases c : d3 (bnd f N i) X - be i * Q = 0
      · rw [if_pos ((lg_0 (by omega) (by omega)).mpr c)]
        exact ih fuel (i + 1) (by omega) (by omega) (fun j hj => by
          by_cases cj : j = i
          · rw [cj]; exact c
          · exact h3 j (by omega))
      · rw [if_neg (fun h => c ((lg_0 (by omega) (by omega)).mp h))]
        unfold wh
        rw [if_neg (fun h => c (h i (by omega)))]
        rfl
  unfold fX0_placeOf
  exact l1 (nbd f) FU 0 (by omega) (by unfold FU; omega) (fun j hj => by omega)
theorem where_i {f : Nat} {N : V3} {cs ss b : Nat} {c s : Nat → V3} {e be : Nat → Int} (hf : f ≤ 3) (hb : b < 8) (hcs : 1 ≤ cs) (hss : ss ≤ 80) (hs : ∀ i, i < ss → bdv 4000 (s i) ∧ -100000 ≤ e i ∧ e i ≤ 100000) (hN : bdv 200 N) (hc : rc3 (c 0)) (hbe : ∀ i, i < nbd f → be i = d3 (bnd f N i) (c 0)) (h0 : f = 0 → ss = 0) {FI CO CR SI' SR BO : Nat → Int32} (hR : RefB b f N cs c ss s e be FI CO CR SI' SR BO) {X : V3} {Q : Int} (hX : rgX X Q) : fX9_where FI CR SI' SR BO (iz (b : Int)) (lz X.1) (lz X.2.1) (lz X.2.2) (lz Q) = some (iz (wh f N ss s e be X Q)) := by
  have hX' := hX
  obtain ⟨⟨⟨x1, x2⟩, ⟨x3, x4⟩, x5, x6⟩, q0, q1⟩ := hX
  obtain ⟨r1, r2, r3, r4, r5, r6, r7⟩ := hR
  have l2 : ∀ (m fuel i : Nat) (v : Int), i + m = ss → m < fuel → LX9_where_224 FI CR SI' SR BO fuel (iz (b : Int)) (lz X.1) (lz X.2.1) (lz X.2.2) (lz Q) (iz v) (iz (i : Int)) = some (iz (lp s e X Q m i v)) := by
    intro m
    induction m with
    | zero =>
      intro fuel i v h1 h2
      obtain ⟨fuel, rfl⟩ : ∃ q, fuel = q + 1 := ⟨fuel - 1, by omega⟩
      rw [LX9_where_224, ix_gd hb (by omega), iz_cn (by omega), r4, if_pos ((ix_le (by omega) (by omega)).mpr (by omega))]
      rfl
    | succ m ih =>
      intro fuel i v h1 h2
      obtain ⟨fuel, rfl⟩ : ∃ q, fuel = q + 1 := ⟨fuel - 1, by omega⟩
      obtain ⟨g1, g2⟩ := hs i (by omega)
      have hbd := ex_bd (B := 4000) (by omega) (by omega) g1 g2 hX'
      obtain ⟨w1, w2, w3, w4⟩ := r5 i (by omega)
      obtain ⟨⟨v1, v2⟩, ⟨v3, v4⟩, v5, v6⟩ := g1
      rw [LX9_where_224, ix_gd hb (by omega), iz_cn (by omega), r4, if_neg (fun h => by have := (ix_le (by omega) (by omega)).mp h; omega), y360, ix_m, y4, ix_m, ix_a, y1, ix_a, y2, ix_a, y3, ix_a, ix_gd (by omega) (by omega), ix_gd (by omega) (by omega), ix_gd (by omega) (by omega), ix_gd (by omega) (by omega), iz_cn (by omega), iz_cn (by omega), iz_cn (by omega), iz_cn (by omega), w1, w2, w3, w4, iz_lz (by omega) (by omega), iz_lz (by omega) (by omega), iz_lz (by omega) (by omega), iz_lz (by omega) (by omega)]
      simp only [lz_mul, lz_add, lz_sub]
      unfold cut
      dsimp only
      have e1 : (s i).1 * X.1 + (s i).2.1 * X.2.1 + (s i).2.2 * X.2.2 - Q * e i = d3 (s i) X - e i * Q := by unfold d3; rw [Int.mul_comm Q]
      rw [e1, lp]
      unfold JX9_where_323
      rw [← y1, ix_s]
      by_cases c : 0 < d3 (s i) X - e i * Q
      · rw [if_neg (fun h => (lg_le0 (by omega) (by omega)).mp h c), if_pos c]
        rfl
      · rw [if_pos ((lg_le0 (by omega) (by omega)).mpr c), if_neg c]
        by_cases c2 : d3 (s i) X - e i * Q = 0
        · rw [if_pos ((lg_0 (by omega) (by omega)).mpr c2), if_pos c2]
          exact ih fuel (i + 1) 1 (by omega) (by omega)
        · rw [if_neg (fun h => c2 ((lg_0 (by omega) (by omega)).mp h)), if_neg c2]
          exact ih fuel (i + 1) v (by omega) (by omega)
  have tail : (∀ i, i < nbd f → d3 (bnd f N i) X - be i * Q = 0) → JX9_where_218 FI CR SI' SR BO (iz (b : Int)) (lz X.1) (lz X.2.1) (lz X.2.2) (lz Q) = some (iz (wh f N ss s e be X Q)) := fun h => by
    unfold JX9_where_218 wh
    rw [if_pos h]
    exact l2 ss FU 0 2 (by omega) (by unfold FU; omega)
  have none_ : ¬ (∀ i, i < nbd f → d3 (bnd f N i) X - be i * Q = 0) → (some 0 : Option Int32) = some (iz (wh f N ss s e be X Q)) := fun h => by
    unfold wh
    rw [if_neg h]
    rfl
  obtain ⟨c1, c2, c3⟩ := r3 0 (by omega)
  rw [Nat.mul_zero, Nat.add_zero] at c1 c2 c3
  obtain ⟨k1, k2, k3⟩ := hc
  have dx := mbd (a := Q) (b := (c 0).1) 1000 5 (by omega) (by omega) (by omega) (by omega)
  have dy := mbd (a := Q) (b := (c 0).2.1) 1000 5 (by omega) (by omega) (by omega) (by omega)
  have dz := mbd (a := Q) (b := (c 0).2.2) 1000 5 (by omega) (by omega) (by omega) (by omega)
  unfold fX9_where
  rw [y120, ix_m, y1, ix_a, y2, ix_a, y4, ix_m, ix_a, ix_a, ix_gd (by omega) (by omega), iz_cn (by omega), iz_cn (by omega), iz_cn (by omega), iz_cn (by omega), iz_cn (by omega), iz_cn (by omega), iz_cn (by omega), c1, c2, c3, iz_lz (by omega) (by omega), iz_lz (by omega) (by omega), iz_lz (by omega) (by omega)]
  simp only [lz_mul, lz_sub]
  unfold cut
  dsimp only
  rw [ix_gd (by omega) (by omega), ix_gd (by omega) (by omega), ix_gd (by omega) (by omega), ix_gd (by omega) (by omega), ix_gd (by omega) (by omega), ix_gd hb (by omega), r1]
  have eB : ∀ i, i < nbd f → (d3 (bnd f N i) X - be i * Q = 0 ↔ d3 (bnd f N i) (from3 X Q (c 0)) = 0) := fun i hi => by
    rw [hbe i hi, d3_from, Int.mul_comm]
  rcases (show f = 0 ∨ f = 1 ∨ f = 2 ∨ f = 3 by omega) with rfl | rfl | rfl | rfl
  · rw [if_pos (show iz ((0 : Nat) : Int) = 0 from rfl)]
    have hss0 := h0 rfl
    have e0 := eB 0 (by decide)
    have e1 := eB 1 (by decide)
    have e2 := eB 2 (by decide)
    have f0 : d3 (bnd 0 N 0) (from3 X Q (c 0)) = X.1 - Q * (c 0).1 := by unfold d3 bnd from3; simp
    have f1 : d3 (bnd 0 N 1) (from3 X Q (c 0)) = X.2.1 - Q * (c 0).2.1 := by unfold d3 bnd from3; simp
    have f2 : d3 (bnd 0 N 2) (from3 X Q (c 0)) = X.2.2 - Q * (c 0).2.2 := by unfold d3 bnd from3; simp
    by_cases a0 : X.1 - Q * (c 0).1 = 0
    · rw [if_pos ((lg_0 (by omega) (by omega)).mpr a0)]
      by_cases a1 : X.2.1 - Q * (c 0).2.1 = 0
      · rw [if_pos ((lg_0 (by omega) (by omega)).mpr a1)]
        by_cases a2 : X.2.2 - Q * (c 0).2.2 = 0
        · rw [if_pos ((lg_0 (by omega) (by omega)).mpr a2)]
          unfold wh
          rw [if_pos (fun i hi => by
            rcases (show i = 0 ∨ i = 1 ∨ i = 2 by unfold nbd at hi; simp at hi; omega) with rfl | rfl | rfl
            · rw [e0, f0]; exact a0
            · rw [e1, f1]; exact a1
            · rw [e2, f2]; exact a2), hss0]
          rfl
        · rw [if_neg (fun h => a2 ((lg_0 (by omega) (by omega)).mp h))]
          exact none_ (fun h => a2 (by rw [← f2]; exact e2.mp (h 2 (by decide))))
      · rw [if_neg (fun h => a1 ((lg_0 (by omega) (by omega)).mp h))]
        exact none_ (fun h => a1 (by rw [← f1]; exact e1.mp (h 1 (by decide))))
    · rw [if_neg (fun h => a0 ((lg_0 (by omega) (by omega)).mp h))]
      exact none_ (fun h => a0 (by rw [← f0]; exact e0.mp (h 0 (by decide))))
  · obtain ⟨b1, b2, b3⟩ := r6 (Or.inl rfl)
    obtain ⟨⟨n1, n2⟩, ⟨n3, n4⟩, n5, n6⟩ := hN
    rw [if_neg (by decide), if_pos (show iz ((1 : Nat) : Int) = iz ((1 : Nat) : Int) from rfl), b1, b2, b3, iz_lz (by omega) (by omega), iz_lz (by omega) (by omega), iz_lz (by omega) (by omega)]
    simp only [lz_mul]
    have e0 := eB 0 (by decide)
    have e1 := eB 1 (by decide)
    have e2 := eB 2 (by decide)
    have f0 : d3 (bnd 1 N 0) (from3 X Q (c 0)) = (X.2.1 - Q * (c 0).2.1) * N.2.2 - (X.2.2 - Q * (c 0).2.2) * N.2.1 := by unfold d3 bnd from3; simp; grind
    have f1 : d3 (bnd 1 N 1) (from3 X Q (c 0)) = (X.2.2 - Q * (c 0).2.2) * N.1 - (X.1 - Q * (c 0).1) * N.2.2 := by unfold d3 bnd from3; simp; grind
    have f2 : d3 (bnd 1 N 2) (from3 X Q (c 0)) = (X.1 - Q * (c 0).1) * N.2.1 - (X.2.1 - Q * (c 0).2.1) * N.1 := by unfold d3 bnd from3; simp; grind
    have m1 := mbd (a := X.2.1 - Q * (c 0).2.1) (b := N.2.2) 105000 200 (by omega) (by omega) n5 n6
    have m2 := mbd (a := X.2.2 - Q * (c 0).2.2) (b := N.2.1) 105000 200 (by omega) (by omega) n3 n4
    have m3 := mbd (a := X.2.2 - Q * (c 0).2.2) (b := N.1) 105000 200 (by omega) (by omega) n1 n2
    have m4 := mbd (a := X.1 - Q * (c 0).1) (b := N.2.2) 105000 200 (by omega) (by omega) n5 n6
    have m5 := mbd (a := X.1 - Q * (c 0).1) (b := N.2.1) 105000 200 (by omega) (by omega) n3 n4
    have m6 := mbd (a := X.2.1 - Q * (c 0).2.1) (b := N.1) 105000 200 (by omega) (by omega) n1 n2
    generalize (X.2.1 - Q * (c 0).2.1) * N.2.2 = t1 at *
    generalize (X.2.2 - Q * (c 0).2.2) * N.2.1 = t2 at *
    generalize (X.2.2 - Q * (c 0).2.2) * N.1 = t3 at *
    generalize (X.1 - Q * (c 0).1) * N.2.2 = t4 at *
    generalize (X.1 - Q * (c 0).1) * N.2.1 = t5 at *
    generalize (X.2.1 - Q * (c 0).2.1) * N.1 = t6 at *
    by_cases a0 : t1 = t2
    · rw [if_pos ((lg_eq (by omega) (by omega) (by omega) (by omega)).mpr a0)]
      by_cases a1 : t3 = t4
      · rw [if_pos ((lg_eq (by omega) (by omega) (by omega) (by omega)).mpr a1)]
        by_cases a2 : t5 = t6
        · rw [if_pos ((lg_eq (by omega) (by omega) (by omega) (by omega)).mpr a2)]
          unfold JX9_where_184
          rw [ix_gd hb (by omega), iz_cn (by omega), r1, if_neg (by decide)]
          exact tail (fun i hi => by
            rcases (show i = 0 ∨ i = 1 ∨ i = 2 by unfold nbd at hi; simp at hi; omega) with rfl | rfl | rfl
            · rw [e0, f0]; omega
            · rw [e1, f1]; omega
            · rw [e2, f2]; omega)
        · rw [if_neg (fun h => a2 ((lg_eq (by omega) (by omega) (by omega) (by omega)).mp h))]
          exact none_ (fun h => a2 (by have := e2.mp (h 2 (by decide)); omega))
      · rw [if_neg (fun h => a1 ((lg_eq (by omega) (by omega) (by omega) (by omega)).mp h))]
        exact none_ (fun h => a1 (by have := e1.mp (h 1 (by decide)); omega))
    · rw [if_neg (fun h => a0 ((lg_eq (by omega) (by omega) (by omega) (by omega)).mp h))]
      exact none_ (fun h => a0 (by have := e0.mp (h 0 (by decide)); omega))
  · obtain ⟨b1, b2, b3⟩ := r6 (Or.inr rfl)
    have hN' := hN
    obtain ⟨⟨n1, n2⟩, ⟨n3, n4⟩, n5, n6⟩ := hN
    rw [if_neg (by decide), if_neg (by decide), b1, b2, b3, iz_lz (by omega) (by omega), iz_lz (by omega) (by omega), iz_lz (by omega) (by omega)]
    unfold JX9_where_184
    rw [ix_gd hb (by omega), iz_cn (by omega), r1, if_pos (show iz ((2 : Nat) : Int) = 2 from rfl)]
    simp only [lz_mul, lz_add]
    have e0 := eB 0 (by decide)
    have f0 : N.1 * (X.1 - Q * (c 0).1) + N.2.1 * (X.2.1 - Q * (c 0).2.1) + N.2.2 * (X.2.2 - Q * (c 0).2.2) = d3 (bnd 2 N 0) (from3 X Q (c 0)) := rfl
    have bb := d3_bd2 (A := 200) (B := 105000) (u := bnd 2 N 0) (v := from3 X Q (c 0)) hN' ⟨by unfold from3; dsimp only; omega, by unfold from3; dsimp only; omega, by unfold from3; dsimp only; omega⟩
    rw [f0]
    by_cases a0 : d3 (bnd 2 N 0) (from3 X Q (c 0)) = 0
    · rw [if_pos ((lg_0 (by omega) (by omega)).mpr a0)]
      exact tail (fun i hi => by
        have : i = 0 := by unfold nbd at hi; simp at hi; omega
        subst this
        exact e0.mpr a0)
    · rw [if_neg (fun h => a0 ((lg_0 (by omega) (by omega)).mp h))]
      exact none_ (fun h => a0 (e0.mp (h 0 (by decide))))
  · rw [if_neg (by decide), if_neg (by decide)]
    unfold JX9_where_184
    rw [ix_gd hb (by omega), iz_cn (by omega), r1, if_neg (by decide)]
    exact tail (fun i hi => by unfold nbd at hi; simp at hi)
