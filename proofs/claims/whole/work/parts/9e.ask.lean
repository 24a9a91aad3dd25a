/-! good bodies; the first questions -/
/-- a body made of some points in reach -/
def GB (f : Nat) (N : V3) (cs : Nat) (c : Nat → V3) (ss : Nat) (s : Nat → V3) (e : Nat → Int) (bd' : Nat → V3) (be L G : Nat → Int) : Prop := ∃ (n : Nat) (p : Nat → V3), 1 ≤ n ∧ (∀ v, Mm n p v → rc3 v) ∧ BodyP (Mm n p) f N cs c ss s e bd' be L G
def GF (f : Nat) (N : V3) (cs : Nat) (c : Nat → V3) (ss : Nat) (s : Nat → V3) (e : Nat → Int) (bd' : Nat → V3) (be L G : Nat → Int) : Prop := f ≤ 3 ∧ 1 ≤ cs ∧ cs ≤ 40 ∧ ss ≤ 80 ∧ (∀ i, i < ss → bdv 4000 (s i) ∧ -100000 ≤ e i ∧ e i ≤ 100000) ∧ bdv 200 N ∧ (∀ i, i < nbd f → bd' i = bnd f N i ∧ -100000 ≤ be i ∧ be i ≤ 100000) ∧ (∀ i, i < nbd f → be i = d3 (bnd f N i) (c 0)) ∧ (f = 0 → ss = 0) ∧ (∀ i, i < cs → rc3 (c i)) ∧ (∀ w, w < 3 → IsMn cs c w (L w) ∧ IsMx cs c w (G w))
theorem GB_facts {f : Nat} {N : V3} {cs : Nat} {c : Nat → V3} {ss : Nat} {s : Nat → V3} {e : Nat → Int} {bd' : Nat → V3} {be L G : Nat → Int} (h : GB f N cs c ss s e bd' be L G) : GF f N cs c ss s e bd' be L G := by
  obtain ⟨n, p, hn, hr, h1, h2, h3, h4, h5, h6, ⟨p0, hp0, h7⟩, h8, h9, h10, h11⟩ := h
  have f3 : f ≤ 3 := by rcases h1 with ⟨c, _⟩ | ⟨c, _⟩ | ⟨c, _⟩ | ⟨c, _⟩ <;> omega
  have hc : ∀ i, i < cs → Mm n p (c i) := fun i hi => ((h4 (c i)).mp ⟨i, hi, rfl⟩).1
  refine ⟨f3, h9, h10, h11, fun i hi => ?_, h2, fun i hi => ?_, fun i hi => ?_, fun h0 => ?_, fun i hi => hr _ (hc i hi), h8⟩
  · have g1 := h5.2 i hi
    have g2 := sd_bd hr h1 h2 g1
    obtain ⟨p', hp', ep'⟩ := (Sd_sup g1).2
    refine ⟨g2, ?_⟩
    rw [← ep']
    have := d3_bd2 g2 (rc_bdv (hr p' hp'))
    omega
  · obtain ⟨g1, g2⟩ := h7 i hi
    refine ⟨g1, ?_⟩
    rw [g2]
    have := d3_bd2 (A := 200) (bnd_bd (f := f) h2 i) (rc_bdv (hr p0 hp0))
    omega
  · rw [(h7 i hi).2]
    have hc0 := hc 0 (by omega)
    rcases h1 with ⟨rfl, g⟩ | ⟨rfl, g1, g2, g3, _⟩ | ⟨rfl, g1, g2, g3, _⟩ | ⟨rfl, _⟩
    · rw [g p0 (c 0) hp0 hc0]
    · have k := v3_iff.mp (g3 p0 (c 0) hp0 hc0)
      unfold cr sb3 o3 at k
      dsimp only at k
      obtain ⟨k1, k2, k3⟩ := k
      rcases (show i = 0 ∨ i = 1 ∨ i = 2 by unfold nbd at hi; simp at hi; omega) with rfl | rfl | rfl
      · show d3 (0, N.2.2, -N.2.1) p0 = d3 (0, N.2.2, -N.2.1) (c 0)
        unfold d3; dsimp only; grind
      · show d3 (-N.2.2, 0, N.1) p0 = d3 (-N.2.2, 0, N.1) (c 0)
        unfold d3; dsimp only; grind
      · show d3 (N.2.1, -N.1, 0) p0 = d3 (N.2.1, -N.1, 0) (c 0)
        unfold d3; dsimp only; grind
    · exact g3 p0 (c 0) hp0 hc0
    · unfold nbd at hi; simp at hi
  · subst h0
    rcases Nat.eq_zero_or_pos ss with q | q
    · exact q
    · rcases h5.2 0 q with ⟨g, _⟩ | ⟨g, _⟩ | ⟨g, _⟩ <;> omega
theorem some_iz (x : Int32) : ∃ a : Int, x = iz a ∧ -2147483648 ≤ a ∧ a < 2147483648 := ⟨x.toInt, (iz_t x).symm, rng_i x⟩
theorem in_z {x a b : Int} (h : -9223372036854775808 ≤ x) (h2 : x < 9223372036854775808) (h3 : -9223372036854775808 ≤ a) (h4 : a < 9223372036854775808) (h5 : -9223372036854775808 ≤ b) (h6 : b < 9223372036854775808) : fX9_in (lz x) (lz a) (lz b) = some (if a ≤ x ∧ x ≤ b then 1 else 0) := by
  rw [in_i, lz_i h h2, lz_i h3 h4, lz_i h5 h6]
theorem among_z {x : Int} {k : Int} (h : -2147483648 ≤ x) (h2 : x < 2147483648) (h3 : 0 ≤ k) (h4 : k < 2147483648) : fX8_isAmong (iz x).toInt64 (iz k) = some (if -k ≤ x ∧ x ≤ k then 1 else 0) := by
  unfold fX8_isAmong
  rw [iz_neg, iz_lz (by omega) (by omega), iz_lz (by omega) (by omega), iz_lz (by omega) (by omega)]
  rw [am_i, lz_i (by omega) (by omega), lz_i (by omega) (by omega), lz_i (by omega) (by omega)]
theorem is_i {bc b : Nat} (hb : b < bc) (hbc : bc ≤ 8) : fX9_is (iz (bc : Int)) (iz (b : Int)) = some 1 := by
  unfold fX9_is
  rw [ix_m1 (by omega), iz_lz (by omega) (by omega), iz_lz (by omega) (by omega), show (0 : Int64) = lz 0 from rfl, in_z (by omega) (by omega) (by omega) (by omega) (by omega) (by omega), bd_some, if_pos (by omega)]
theorem find_i {bc b : Nat} (hb : b < bc) (hbc : bc ≤ 8) : fX8_find_F (iz (bc : Int)) (iz (b : Int)) = some () := by
  unfold fX8_find_F
  rw [if_neg (by rw [z0, iz_lt (by omega) (by omega) (by omega) (by omega)]; omega), if_neg (by rw [ix_le (by omega) (by omega)]; omega), ix_gd (by omega) (by omega)]
theorem isnot {bc : Nat} {b : Int} (hb : b < 0 ∨ (bc : Int) ≤ b) (h : -2147483648 ≤ b) (h2 : b < 2147483648) (hbc : bc ≤ 8) : fX9_is (iz (bc : Int)) (iz b) = some 0 := by
  unfold fX9_is
  rw [z1, iz_sub, iz_lz (by omega) (by omega), iz_lz (by omega) (by omega), show (0 : Int64) = lz 0 from rfl, in_z (by omega) (by omega) (by omega) (by omega) (by omega) (by omega), bd_some, if_neg (by omega)]
theorem findnot {bc : Nat} {b : Int} (hb : b < 0 ∨ (bc : Int) ≤ b) (h : -2147483648 ≤ b) (h2 : b < 2147483648) (hbc : bc ≤ 8) : fX8_find_N (iz (bc : Int)) (iz b) = some () := by
  unfold fX8_find_N
  by_cases c : b < 0
  · rw [if_pos (by rw [z0, iz_lt (by omega) (by omega) (by omega) (by omega)]; exact c)]
  · rw [if_neg (by rw [z0, iz_lt (by omega) (by omega) (by omega) (by omega)]; exact c), if_pos (by rw [iz_le (by omega) (by omega) (by omega) (by omega)]; omega)]
theorem way_i {w : Int} (h : -2147483648 ≤ w) (h2 : w < 2147483648) : fX8_isWay (iz w) = some (if 0 ≤ w ∧ w ≤ 2 then 1 else 0) := by
  unfold fX8_isWay
  by_cases c : w < 0
  · rw [if_pos (by rw [z0, iz_lt (by omega) (by omega) (by omega) (by omega)]; exact c), if_neg (by omega)]
  · rw [if_neg (by rw [z0, iz_lt (by omega) (by omega) (by omega) (by omega)]; exact c)]
    by_cases c2 : 2 < w
    · rw [if_pos (by rw [z2, iz_lt (by omega) (by omega) (by omega) (by omega)]; exact c2), if_neg (by omega)]
    · rw [if_neg (by rw [z2, iz_lt (by omega) (by omega) (by omega) (by omega)]; exact c2), if_pos (by omega)]
theorem lt0 {a : Int} (h : -2147483648 ≤ a) (h2 : a < 2147483648) : iz a < 0 ↔ a < 0 := by rw [z0, iz_lt h h2 (by omega) (by omega)]
theorem le3 {a : Int} (h : -2147483648 ≤ a) (h2 : a < 2147483648) : iz a ≤ 3 ↔ a ≤ 3 := by rw [z3, iz_le h h2 (by omega) (by omega)]
theorem eq2 {a : Int} (h : -2147483648 ≤ a) (h2 : a < 2147483648) : iz a = 2 ↔ a = 2 := by rw [z2, iz_eq h h2 (by omega) (by omega)]
theorem eqm4 {a : Int} (h : -2147483648 ≤ a) (h2 : a < 2147483648) : iz a = -4 ↔ a = -4 := by rw [show (-4 : Int32) = iz (-4) from rfl, iz_eq h h2 (by omega) (by omega)]
theorem n10 : ¬ ((1 : Int32) = 0) := by decide
theorem nat_of {w : Int} (h : 0 ≤ w) : ∃ k : Nat, w = (k : Int) := ⟨w.toNat, by omega⟩
section
variable {f : Nat} {N : V3} {cs : Nat} {c : Nat → V3} {ss : Nat} {s : Nat → V3} {e : Nat → Int} {bd' : Nat → V3} {be L G : Nat → Int} {b bc : Nat} {FI CO CR SI' SR BO : Nat → Int32}
theorem q_has (h : GF f N cs c ss s e bd' be L G) (hR : RefB b f N cs c ss s e be FI CO CR SI' SR BO) (hb : b < bc) (hbc : bc ≤ 8) (p2 p3 p4 p5 : Int32) : ∃ r, fX8_has_F ss (nbd f) (iz (bc : Int)) (iz (ss : Int)) (px s) (py s) (pz s) (pe e) (iz ((nbd f : Nat) : Int)) (px bd') (py bd') (pz bd') (pe be) (iz (b : Int)) p2 p3 p4 p5 = some r ∧ fX9_has (iz (bc : Int)) FI CR SI' SR BO (iz (b : Int)) p2 p3 p4 p5 = some r := by
  obtain ⟨f3, c1, c40, s80, hs, hN, hbd, hbe, h0, hcr, hLG⟩ := h
  obtain ⟨x, rfl, x1, x2⟩ := some_iz p2
  obtain ⟨y, rfl, y1', y2'⟩ := some_iz p3
  obtain ⟨z, rfl, z1', z2'⟩ := some_iz p4
  obtain ⟨q, rfl, q1, q2⟩ := some_iz p5
  unfold fX8_has_F fX9_has
  rw [find_i hb hbc, bd_some, is_i hb hbc, bd_some, if_neg n10, iz_lz x1 x2, iz_lz y1' y2', iz_lz z1' z2', iz_lz q1 q2]
  rw [show (1 : Int64) = lz 1 from rfl, show (1000 : Int64) = lz 1000 from rfl, show (-100000 : Int64) = lz (-100000) from rfl, show (100000 : Int64) = lz 100000 from rfl, in_z (by omega) (by omega) (by omega) (by omega) (by omega) (by omega), in_z (by omega) (by omega) (by omega) (by omega) (by omega) (by omega), in_z (by omega) (by omega) (by omega) (by omega) (by omega) (by omega), in_z (by omega) (by omega) (by omega) (by omega) (by omega) (by omega)]
  rw [← iz_lz x1 x2, ← iz_lz y1' y2', ← iz_lz z1' z2', show (100000 : Int32) = iz 100000 from rfl, among_z x1 x2 (by omega) (by omega), among_z y1' y2' (by omega) (by omega), among_z z1' z2' (by omega) (by omega)]
  rw [show (1000 : Int32) = iz 1000 from rfl, z1]
  simp only [bd_some, iz_lt (a := q) (b := 1) (by omega) (by omega) (by omega) (by omega), iz_le (a := q) (b := 1000) (by omega) (by omega) (by omega) (by omega)]
  by_cases a1 : 1 ≤ q ∧ q ≤ 1000
  · rw [if_neg (show ¬ q < 1 by omega), if_pos a1.2, if_pos a1]
    by_cases a2 : -100000 ≤ x ∧ x ≤ 100000
    · rw [if_pos a2]
      by_cases a3 : -100000 ≤ y ∧ y ≤ 100000
      · rw [if_pos a3]
        by_cases a4 : -100000 ≤ z ∧ z ≤ 100000
        · rw [if_pos a4]
          have hX : rgX (x, y, z) q := ⟨⟨a2, a3, a4⟩, by omega, by omega⟩
          have k1 := place_i (f := f) (N := N) s80 hs hN hbd hX
          have k2 := where_i f3 (show b < 8 by omega) c1 s80 hs hN (hcr 0 (by omega)) hbe h0 hR hX
          refine ⟨iz (wh f N ss s e be (x, y, z) q), ?_, ?_⟩
          · rw [if_neg (by decide), if_neg (by decide), if_neg (by decide)]
            exact (congrArg (fun o => bd o _) k1)
          · rw [if_neg (by decide), if_neg (by decide), if_neg (by decide), if_neg (by decide), iz_lz x1 x2, iz_lz y1' y2', iz_lz z1' z2']
            exact (congrArg (fun o => bd o _) k2)
        · rw [if_neg a4]
          exact ⟨-1, rfl, rfl⟩
      · rw [if_neg a3]
        exact ⟨-1, rfl, rfl⟩
    · rw [if_neg a2]
      exact ⟨-1, rfl, rfl⟩
  · rw [if_neg a1]
    by_cases a2 : q < 1
    · rw [if_pos a2]; exact ⟨-1, rfl, rfl⟩
    · rw [if_neg a2, if_neg (by omega)]; exact ⟨-1, rfl, rfl⟩
theorem q_cornerOf (h : GF f N cs c ss s e bd' be L G) (hR : RefB b f N cs c ss s e be FI CO CR SI' SR BO) (hb : b < bc) (hbc : bc ≤ 8) (p2 p3 : Int32) : ∃ r, fX8_cornerOf_F cs (iz (bc : Int)) (iz (cs : Int)) (px c) (py c) (pz c) (iz (b : Int)) p2 p3 = some r ∧ fX9_cornerOf (iz (bc : Int)) CO CR (iz (b : Int)) p2 p3 = some r := by
  obtain ⟨f3, c1, c40, s80, hs, hN, hbd, hbe, h0, hcr, hLG⟩ := h
  obtain ⟨r1, r2, r3, r4, r5, r6, r7⟩ := hR
  obtain ⟨i, rfl, i1, i2⟩ := some_iz p2
  obtain ⟨w, rfl, w1, w2⟩ := some_iz p3
  unfold fX8_cornerOf_F fX9_cornerOf
  rw [find_i hb hbc, bd_some, is_i hb hbc, bd_some, if_neg n10, ix_gd (by omega) (by omega), iz_cn (by omega), r2, ix_m1 c1, iz_lz i1 i2, iz_lz (by omega) (by omega), iz_lz w1 w2, show (0 : Int64) = lz 0 from rfl, show (2 : Int64) = lz 2 from rfl, in_z (by omega) (by omega) (by omega) (by omega) (by omega) (by omega), in_z (by omega) (by omega) (by omega) (by omega) (by omega) (by omega), bd_some, bd_some, way_i w1 w2, bd_some]
  simp only [lt0 (a := i) (by omega) (by omega), iz_le (a := (cs : Int)) (b := i) (by omega) (by omega) (by omega) (by omega)]
  by_cases a1 : 0 ≤ i ∧ i ≤ ((cs - 1 : Nat) : Int)
  · rw [if_neg (show ¬ i < 0 by omega), if_neg (show ¬ (cs : Int) ≤ i by omega), if_pos a1, if_neg n10]
    by_cases a2 : 0 ≤ w ∧ w ≤ 2
    · obtain ⟨i', rfl⟩ := nat_of a1.1
      obtain ⟨w', rfl⟩ := nat_of a2.1
      rw [if_pos a2, if_neg n10, if_neg n10, part_i (by omega) (Nat.le_refl _) (by omega) (by omega), bd_some, y120, ix_m, y3, ix_m, ix_a, ix_a, ix_gd (by omega) (by omega), iz_cn (by omega)]
      obtain ⟨g1, g2, g3⟩ := r3 i' (by omega)
      refine ⟨_, rfl, ?_⟩
      rcases (show w' = 0 ∨ w' = 1 ∨ w' = 2 by omega) with rfl | rfl | rfl
      · rw [Nat.add_zero, g1]; rfl
      · rw [g2]; rfl
      · rw [g3]; rfl
    · rw [if_neg a2, if_pos (show (0 : Int32) = 0 from rfl), if_pos (show (0 : Int32) = 0 from rfl)]
      exact ⟨_, rfl, rfl⟩
  · rw [if_neg a1, if_pos (show (0 : Int32) = 0 from rfl)]
    by_cases a3 : i < 0
    · rw [if_pos a3]; exact ⟨_, rfl, rfl⟩
    · rw [if_neg a3, if_pos (by omega)]; exact ⟨_, rfl, rfl⟩
theorem part1_i {n sz i w : Nat} {s : Nat → V3} {e : Nat → Int} (hi : i < sz) (hn : sz ≤ n) (hn2 : n < 1000) (hw : w < 4) : fX1_part n (iz (sz : Int)) (px s) (py s) (pz s) (pe e) (iz (i : Int)) (iz (w : Int)) = some (iz (if w = 0 then (s i).1 else if w = 1 then (s i).2.1 else if w = 2 then (s i).2.2 else e i)) := by
  unfold fX1_part
  rw [if_neg (by rw [z0, iz_lt (by omega) (by omega) (by omega) (by omega)]; omega), if_pos ((ix_lt (by omega) (by omega)).mpr hi), ix_gd (by omega) (by omega), ix_gd (by omega) (by omega), ix_gd (by omega) (by omega), ix_gd (by omega) (by omega), iz_cn (by omega)]
  rcases (show w = 0 ∨ w = 1 ∨ w = 2 ∨ w = 3 by omega) with rfl | rfl | rfl | rfl
  · rfl
  · rw [if_neg (by decide), if_pos (show iz ((1 : Nat) : Int) = 1 from rfl)]; rfl
  · rw [if_neg (by decide), if_neg (by decide), if_pos (show iz ((2 : Nat) : Int) = 2 from rfl)]; rfl
  · rw [if_neg (by decide), if_neg (by decide), if_neg (by decide)]; rfl
theorem q_side (h : GF f N cs c ss s e bd' be L G) (hR : RefB b f N cs c ss s e be FI CO CR SI' SR BO) (hb : b < bc) (hbc : bc ≤ 8) (p2 p3 : Int32) : ∃ r, fX8_side_F ss (nbd f) (iz (bc : Int)) (iz (f : Int)) (iz (ss : Int)) (px s) (py s) (pz s) (pe e) (iz ((nbd f : Nat) : Int)) (px bd') (py bd') (pz bd') (pe be) (iz (b : Int)) p2 p3 = some r ∧ fX9_side_ (iz (bc : Int)) FI SI' SR BO (iz (b : Int)) p2 p3 = some r := by
  obtain ⟨f3, c1, c40, s80, hs, hN, hbd, hbe, h0, hcr, hLG⟩ := h
  obtain ⟨r1, r2, r3, r4, r5, r6, r7⟩ := hR
  obtain ⟨i, rfl, i1, i2⟩ := some_iz p2
  obtain ⟨w, rfl, w1, w2⟩ := some_iz p3
  unfold fX8_side_F fX9_side_
  rw [find_i hb hbc, bd_some, is_i hb hbc, bd_some, if_neg n10, ix_gd (by omega) (by omega), ix_gd (by omega) (by omega), iz_cn (by omega), r1, r4, z1, iz_sub, iz_lz i1 i2, iz_lz (by omega) (by omega), iz_lz (by omega) (by omega), show (0 : Int64) = lz 0 from rfl, show (3 : Int64) = lz 3 from rfl, in_z (by omega) (by omega) (by omega) (by omega) (by omega) (by omega), in_z (by omega) (by omega) (by omega) (by omega) (by omega) (by omega), bd_some, bd_some]
  simp only [lt0 (a := i) (by omega) (by omega), lt0 (a := w) (by omega) (by omega), le3 (a := w) (by omega) (by omega), iz_le (a := (ss : Int)) (b := i) (by omega) (by omega) (by omega) (by omega), eqm4 (a := i) (by omega) (by omega), eq2 (a := (f : Int)) (by omega) (by omega)]
  by_cases a1 : 0 ≤ w ∧ w ≤ 3
  · obtain ⟨w', rfl⟩ := nat_of a1.1
    rw [if_neg (show ¬ (w' : Int) < 0 by omega), if_pos a1.2, if_pos a1, if_neg n10]
    by_cases a2 : i = -4
    · rw [if_pos a2, if_pos a2]
      by_cases a3 : (f : Int) = 2
      · have f2 : f = 2 := by omega
        subst f2
        obtain ⟨g1, g2, g3⟩ := r6 (Or.inr rfl)
        have g4 := r7 rfl
        have hb0 := (hbd 0 (by decide)).1
        rw [if_pos a3, if_pos a3, y0, show nbd 2 = 1 from rfl, part1_i (by omega) (Nat.le_refl _) (by omega) (by omega), bd_some, y4, ix_m, ix_a, ix_gd (by omega) (by omega), iz_cn (by omega), hb0]
        refine ⟨_, rfl, ?_⟩
        rcases (show w' = 0 ∨ w' = 1 ∨ w' = 2 ∨ w' = 3 by omega) with rfl | rfl | rfl | rfl
        · rw [Nat.add_zero, g1]; rfl
        · rw [g2]; rfl
        · rw [g3]; rfl
        · rw [g4]; rfl
      · rw [if_neg a3, if_neg a3]
        exact ⟨_, rfl, rfl⟩
    · rw [if_neg a2, if_neg a2]
      by_cases a3 : 0 ≤ i ∧ i ≤ (ss : Int) - 1
      · obtain ⟨i', rfl⟩ := nat_of a3.1
        obtain ⟨g1, g2, g3, g4⟩ := r5 i' (by omega)
        rw [if_neg (show ¬ (i' : Int) < 0 by omega), if_neg (show ¬ (ss : Int) ≤ i' by omega), if_pos a3, if_neg n10, part1_i (by omega) (Nat.le_refl _) (by omega) (by omega), bd_some, y360, ix_m, y4, ix_m, ix_a, ix_a, ix_gd (by omega) (by omega), iz_cn (by omega)]
        refine ⟨_, rfl, ?_⟩
        rcases (show w' = 0 ∨ w' = 1 ∨ w' = 2 ∨ w' = 3 by omega) with rfl | rfl | rfl | rfl
        · rw [Nat.add_zero, g1]; rfl
        · rw [g2]; rfl
        · rw [g3]; rfl
        · rw [g4]; rfl
      · rw [if_neg a3, if_pos (show (0 : Int32) = 0 from rfl)]
        by_cases a4 : i < 0
        · rw [if_pos a4]; exact ⟨_, rfl, rfl⟩
        · rw [if_neg a4, if_pos (by omega)]; exact ⟨_, rfl, rfl⟩
  · rw [if_neg a1, if_pos (show (0 : Int32) = 0 from rfl)]
    by_cases a3 : w < 0
    · rw [if_pos a3]; exact ⟨_, rfl, rfl⟩
    · rw [if_neg a3, if_neg (by omega)]; exact ⟨_, rfl, rfl⟩
end
