/-! most, within -/
section
variable {f : Nat} {N : V3} {cs : Nat} {c : Nat → V3} {ss : Nat} {s : Nat → V3} {e : Nat → Int} {bd' : Nat → V3} {be L G : Nat → Int} {b bc : Nat} {FI CO CR SI' SR BO : Nat → Int32}
theorem most_r (hcs : cs ≤ 40) (hcs1 : 1 ≤ cs) (hcr : ∀ i, i < cs → rc3 (c i)) {u : V3} (hu : bdv 100 u) (hb8 : b < 8) (r2 : CO b = iz (cs : Int)) (r3 : RC CR b cs c) (bo hi : Int32) : ∃ r : Int, LX9_most_60 bo CO CR FU (iz (b : Int)) (iz u.1) (iz u.2.1) (iz u.2.2) hi 0 0 = some (iz r) ∧ (∃ j, j < cs ∧ d3 u (c j) = r) ∧ (hi = 0 → ∀ j, j < cs → r ≤ d3 u (c j)) ∧ (hi ≠ 0 → ∀ j, j < cs → d3 u (c j) ≤ r) := by
  have loop : ∀ (m fuel k : Nat) (r : Int), k + m = cs → m < fuel → -10000 ≤ r → r ≤ 10000 → (1 ≤ k → (∃ j, j < k ∧ d3 u (c j) = r) ∧ (hi = 0 → ∀ j, j < k → r ≤ d3 u (c j)) ∧ (hi ≠ 0 → ∀ j, j < k → d3 u (c j) ≤ r)) → ∃ r' : Int, LX9_most_60 bo CO CR fuel (iz (b : Int)) (iz u.1) (iz u.2.1) (iz u.2.2) hi (iz r) (iz (k : Int)) = some (iz r') ∧ (∃ j, j < cs ∧ d3 u (c j) = r') ∧ (hi = 0 → ∀ j, j < cs → r' ≤ d3 u (c j)) ∧ (hi ≠ 0 → ∀ j, j < cs → d3 u (c j) ≤ r') := by
    intro m
    induction m with
    | zero =>
      intro fuel k r k1 k2 l1 l2 inv
      obtain ⟨fuel, rfl⟩ : ∃ q, fuel = q + 1 := ⟨fuel - 1, by omega⟩
      have ek : k = cs := by omega
      subst ek
      exact ⟨r, by rw [LX9_most_60, ix_gd (by omega) (by omega), iz_cn (by omega), r2, if_pos ((ix_le (by omega) (by omega)).mpr (Nat.le_refl _))], inv hcs1⟩
    | succ m ih =>
      intro fuel k r k1 k2 l1 l2 inv
      obtain ⟨fuel, rfl⟩ : ∃ q, fuel = q + 1 := ⟨fuel - 1, by omega⟩
      have hd := d3_bd2 hu (rc_bdv (hcr k (by omega)))
      obtain ⟨t1, t2, t3⟩ := r3 k (by omega)
      rw [LX9_most_60, ix_gd (by omega) (by omega), iz_cn (by omega), r2, if_neg (fun h => by have := (ix_le (by omega) (by omega)).mp h; omega), y120, ix_m, y3, ix_m, ix_a, y1, ix_a, y2, ix_a, ix_gd (by omega) (by omega), ix_gd (by omega) (by omega), ix_gd (by omega) (by omega), iz_cn (by omega), iz_cn (by omega), iz_cn (by omega), t1, t2, t3]
      simp only [iz_mul, iz_add]
      have e1 : u.1 * (c k).1 + u.2.1 * (c k).2.1 + u.2.2 * (c k).2.2 = d3 u (c k) := rfl
      rw [e1]
      unfold cut JX9_most_145 JX9_most_150 JX9_most_152
      dsimp only
      rw [ix_s]
      have take : (1 ≤ k → (hi = 0 → d3 u (c k) ≤ r) ∧ (hi ≠ 0 → r ≤ d3 u (c k))) → ∃ r' : Int, LX9_most_60 bo CO CR fuel (iz (b : Int)) (iz u.1) (iz u.2.1) (iz u.2.2) hi (iz (d3 u (c k))) (iz ((k + 1 : Nat) : Int)) = some (iz r') ∧ (∃ j, j < cs ∧ d3 u (c j) = r') ∧ (hi = 0 → ∀ j, j < cs → r' ≤ d3 u (c j)) ∧ (hi ≠ 0 → ∀ j, j < cs → d3 u (c j) ≤ r') := fun hh => by
        refine ih fuel (k + 1) _ (by omega) (by omega) (by omega) (by omega) (fun _ => ⟨⟨k, by omega, rfl⟩, fun h0 j hj => ?_, fun h0 j hj => ?_⟩)
        · by_cases cj : j = k
          · rw [cj]; exact Int.le_refl _
          · have a := (inv (by omega)).2.1 h0 j (by omega)
            have b := (hh (by omega)).1 h0
            omega
        · by_cases cj : j = k
          · rw [cj]; exact Int.le_refl _
          · have a := (inv (by omega)).2.2 h0 j (by omega)
            have b := (hh (by omega)).2 h0
            omega
      have keep : 1 ≤ k → (hi = 0 → r ≤ d3 u (c k)) → (hi ≠ 0 → d3 u (c k) ≤ r) → ∃ r' : Int, LX9_most_60 bo CO CR fuel (iz (b : Int)) (iz u.1) (iz u.2.1) (iz u.2.2) hi (iz r) (iz ((k + 1 : Nat) : Int)) = some (iz r') ∧ (∃ j, j < cs ∧ d3 u (c j) = r') ∧ (hi = 0 → ∀ j, j < cs → r' ≤ d3 u (c j)) ∧ (hi ≠ 0 → ∀ j, j < cs → d3 u (c j) ≤ r') := fun hk q1 q2 => by
        obtain ⟨⟨j0, hj0, ej0⟩, p1, p2⟩ := inv hk
        refine ih fuel (k + 1) r (by omega) (by omega) l1 l2 (fun _ => ⟨⟨j0, by omega, ej0⟩, fun h0 j hj => ?_, fun h0 j hj => ?_⟩)
        · by_cases cj : j = k
          · rw [cj]; exact q1 h0
          · exact p1 h0 j (by omega)
        · by_cases cj : j = k
          · rw [cj]; exact q2 h0
          · exact p2 h0 j (by omega)
      by_cases c0 : k = 0
      · rw [if_pos (show iz (k : Int) = 0 by rw [c0]; rfl)]
        exact take (fun h => by omega)
      · rw [if_neg (show ¬ iz (k : Int) = 0 by rw [z0, iz_eq (by omega) (by omega) (by omega) (by omega)]; omega)]
        by_cases ch : hi = 0
        · rw [if_pos ch]
          by_cases cc : r ≤ d3 u (c k)
          · rw [if_pos (by rw [iz_le (by omega) (by omega) (by omega) (by omega)]; exact cc)]
            exact keep (by omega) (fun _ => cc) (fun h => (h ch).elim)
          · rw [if_neg (by rw [iz_le (by omega) (by omega) (by omega) (by omega)]; exact cc)]
            exact take (fun _ => ⟨fun _ => by omega, fun h => (h ch).elim⟩)
        · rw [if_neg ch]
          by_cases cc : d3 u (c k) ≤ r
          · rw [if_pos (by rw [iz_le (by omega) (by omega) (by omega) (by omega)]; exact cc)]
            exact keep (by omega) (fun h => (ch h).elim) (fun _ => cc)
          · rw [if_neg (by rw [iz_le (by omega) (by omega) (by omega) (by omega)]; exact cc)]
            exact take (fun _ => ⟨fun h => (ch h).elim, fun _ => by omega⟩)
  exact loop cs FU 0 0 (by omega) (by unfold FU; omega) (by omega) (by omega) (fun h => by omega)
theorem q_most (h : GF f N cs c ss s e bd' be L G) (hR : RefB b f N cs c ss s e be FI CO CR SI' SR BO) (hb : b < bc) (hbc : bc ≤ 8) (p2 p3 p4 p5 : Int32) : ∃ r, fX8_most_F cs (iz (bc : Int)) (iz (cs : Int)) (px c) (py c) (pz c) (iz (b : Int)) p2 p3 p4 p5 = some r ∧ fX9_most (iz (bc : Int)) CO CR (iz (b : Int)) p2 p3 p4 p5 = some r := by
  obtain ⟨f3, c1, c40, s80, hs, hN, hbd, hbe, h0, hcr, hLG⟩ := h
  obtain ⟨r1, r2, r3, r4, r5, r6, r7⟩ := hR
  obtain ⟨x, rfl, x1, x2⟩ := some_iz p2
  obtain ⟨y, rfl, y1', y2'⟩ := some_iz p3
  obtain ⟨z, rfl, z1', z2'⟩ := some_iz p4
  unfold fX8_most_F fX9_most
  rw [find_i hb hbc, bd_some, is_i hb hbc, bd_some, if_neg n10, show (100 : Int32) = iz 100 from rfl, among_z x1 x2 (by omega) (by omega), among_z y1' y2' (by omega) (by omega), among_z z1' z2' (by omega) (by omega), iz_lz x1 x2, iz_lz y1' y2', iz_lz z1' z2', show (-100 : Int64) = lz (-100) from rfl, show (100 : Int64) = lz 100 from rfl, in_z (by omega) (by omega) (by omega) (by omega) (by omega) (by omega), in_z (by omega) (by omega) (by omega) (by omega) (by omega) (by omega), in_z (by omega) (by omega) (by omega) (by omega) (by omega) (by omega)]
  simp only [bd_some]
  by_cases a2 : -100 ≤ x ∧ x ≤ 100
  · rw [if_pos a2]
    by_cases a3 : -100 ≤ y ∧ y ≤ 100
    · rw [if_pos a3]
      by_cases a4 : -100 ≤ z ∧ z ≤ 100
      · rw [if_pos a4]
        simp only [if_neg n10]
        obtain ⟨u, rfl, rfl, rfl⟩ : ∃ u : V3, u.1 = x ∧ u.2.1 = y ∧ u.2.2 = z := ⟨(x, y, z), rfl, rfl, rfl⟩
        have hu : bdv 100 u := ⟨a2, a3, a4⟩
        have hun : bdv 100 (ng3 u) := by unfold ng3; exact ⟨by dsimp only; omega, by dsimp only; omega, by dsimp only; omega⟩
        obtain ⟨r, m1, ⟨j, hj, ej⟩, m3, m4⟩ := most_r c40 c1 hcr hu (show b < 8 by omega) r2 r3 (iz (bc : Int)) p5
        have hgt : ∀ u, bdv 100 u → ∀ k, k < cs → -1500 ≤ d3 u (c k) := fun u hu k hk => by have := d3_bd2 hu (rc_bdv (hcr k hk)); omega
        have mx : ∀ u, bdv 100 u → (∀ j, j < cs → d3 u (c j) ≤ mxv u c cs) ∧ ∃ j, j < cs ∧ d3 u (c j) = mxv u c cs := fun u hu => by
          have e : ∀ k, k ≤ cs → mxv u c k = mxv u (zp cs c) k := by
            intro k
            induction k with
            | zero => intro _; rfl
            | succ k ih => intro hk; rw [mxv, mxv, ih (by omega), show zp cs c k = c k from if_pos (by omega)]
          have := mxv_is u (zp cs c) (fun k => by
            unfold zp
            by_cases ck : k < cs
            · rw [if_pos ck]; exact hgt u hu k ck
            · rw [if_neg ck]; unfold d3 o3; dsimp only; omega) cs c1
          rw [← e cs (Nat.le_refl _)] at this
          obtain ⟨q1, j, hj, q2⟩ := this
          refine ⟨fun j hj => ?_, j, hj, ?_⟩
          · have := q1 j hj; rw [show zp cs c j = c j from if_pos hj] at this; exact this
          · rw [show zp cs c j = c j from if_pos hj] at q2; exact q2
        refine ⟨iz r, ?_, m1⟩
        by_cases ch : p5 = 0
        · rw [if_pos ch]
          have k1 := gof_i (cs := cs) (c := c) c40 hcr hun
          obtain ⟨q1, j', hj', q2⟩ := mx _ hun
          rw [show - iz u.1 = iz (ng3 u).1 from iz_neg u.1, show - iz u.2.1 = iz (ng3 u).2.1 from iz_neg u.2.1, show - iz u.2.2 = iz (ng3 u).2.2 from iz_neg u.2.2, k1, bd_some, iz_neg]
          have e1 := m3 ch j' hj'
          have e2 := q1 j hj
          rw [d3_ng] at e2 q2
          have : -(mxv (ng3 u) c cs) = r := by omega
          rw [this]
        · rw [if_neg ch]
          have k1 := gof_i (cs := cs) (c := c) c40 hcr hu
          obtain ⟨q1, j', hj', q2⟩ := mx _ hu
          rw [k1, bd_some]
          have e1 := m4 ch j' hj'
          have e2 := q1 j hj
          have : mxv u c cs = r := by omega
          rw [this]
      · rw [if_neg a4]
        simp only [if_neg n10, if_pos (rfl : (0 : Int32) = 0)]
        exact ⟨_, rfl, rfl⟩
    · rw [if_neg a3]
      simp only [if_neg n10, if_pos (rfl : (0 : Int32) = 0)]
      exact ⟨_, rfl, rfl⟩
  · rw [if_neg a2]
    simp only [if_neg n10, if_pos (rfl : (0 : Int32) = 0)]
    exact ⟨_, rfl, rfl⟩
end
section
variable {f : Nat} {N : V3} {ss : Nat} {s : Nat → V3} {e : Nat → Int} {bd' : Nat → V3} {be L G : Nat → Int} {cs2 : Nat} {c2 : Nat → V3} {b bc : Nat} {FI CO CR SI' SR BO : Nat → Int32} {cs : Nat} {c : Nat → V3} {a : Nat}
theorem rgc {p : V3} (h : rc3 p) : rgX p 1 := by
  obtain ⟨h1, h2, h3⟩ := h
  exact ⟨⟨by omega, by omega, by omega⟩, by omega, by omega⟩
theorem q_within (h : GF f N cs2 c2 ss s e bd' be L G) (hR : RefB b f N cs2 c2 ss s e be FI CO CR SI' SR BO) (hb : b < bc) (ha : a < bc) (hbc : bc ≤ 8) (hcs : cs ≤ 40) (hcr : ∀ i, i < cs → rc3 (c i)) (r2 : CO a = iz (cs : Int)) (r3 : RC CR a cs c) : ∃ r, fX8_within_FF cs ss (nbd f) (iz (bc : Int)) (iz (cs : Int)) (px c) (py c) (pz c) (iz (ss : Int)) (px s) (py s) (pz s) (pe e) (iz ((nbd f : Nat) : Int)) (px bd') (py bd') (pz bd') (pe be) (iz (a : Int)) (iz (b : Int)) = some r ∧ fX9_within (iz (bc : Int)) FI CO CR SI' SR BO (iz (a : Int)) (iz (b : Int)) = some r := by
  obtain ⟨f3, c1, c40, s80, hs, hN, hbd, hbe, h0, hcr2, hLG⟩ := h
  unfold fX8_within_FF fX9_within
  rw [find_i ha hbc, bd_some, find_i hb hbc, bd_some, is_i ha hbc, bd_some, if_neg n10, is_i hb hbc, bd_some, if_neg n10]
  have pl : ∀ k, k < cs → fX0_placeOf ss (nbd f) (iz (ss : Int)) (px s) (py s) (pz s) (pe e) (iz ((nbd f : Nat) : Int)) (px bd') (py bd') (pz bd') (pe be) (iz (c k).1) (iz (c k).2.1) (iz (c k).2.2) (iz 1) = some (iz (wh f N ss s e be (c k) 1)) := fun k hk => place_i (f := f) (N := N) s80 hs hN hbd (rgc (hcr k hk))
  have wr : ∀ k, k < cs → fX9_where FI CR SI' SR BO (iz (b : Int)) (lz (c k).1) (lz (c k).2.1) (lz (c k).2.2) (lz 1) = some (iz (wh f N ss s e be (c k) 1)) := fun k hk => where_i f3 (show b < 8 by omega) c1 s80 hs hN (hcr2 0 (by omega)) hbe h0 hR (rgc (hcr k hk))
  have lc : ∀ (m fuel k : Nat), k + m = cs → m < fuel → (∃ r : Int, LX0_holds_2 ss (nbd f) cs (iz (ss : Int)) (px s) (py s) (pz s) (pe e) (iz ((nbd f : Nat) : Int)) (px bd') (py bd') (pz bd') (pe be) (iz (cs : Int)) (px c) (py c) (pz c) fuel (iz (k : Int)) = some (iz r) ∧ (r = 0 ∨ r = 1) ∧ (r = 1 ↔ ∀ j, k ≤ j → j < cs → wh f N ss s e be (c j) 1 ≠ 0)) := by
    intro m
    induction m with
    | zero =>
      intro fuel k k1 k2
      obtain ⟨fuel, rfl⟩ : ∃ q, fuel = q + 1 := ⟨fuel - 1, by omega⟩
      exact ⟨1, by rw [LX0_holds_2, if_pos ((ix_le (by omega) (by omega)).mpr (by omega))]; rfl, Or.inr rfl, fun _ j h1 h2 => by omega, fun _ => rfl⟩
    | succ m ih =>
      intro fuel k k1 k2
      obtain ⟨fuel, rfl⟩ : ∃ q, fuel = q + 1 := ⟨fuel - 1, by omega⟩
      have hr := wh_rng f N ss s e be (c k) 1
      rw [LX0_holds_2, if_neg (fun h => by have := (ix_le (by omega) (by omega)).mp h; omega), ix_gd (by omega) (by omega), iz_cn (by omega), px_i, py_i, pz_i, show (1 : Int32) = iz 1 from rfl, pl k (by omega), bd_some]
      by_cases cc : wh f N ss s e be (c k) 1 = 0
      · rw [if_pos (by rw [cc]; rfl)]
        exact ⟨0, rfl, Or.inl rfl, by omega, fun hh => (hh k (Nat.le_refl _) (by omega) cc).elim⟩
      · rw [if_neg (by rw [z0, iz_eq (by omega) (by omega) (by omega) (by omega)]; exact cc), ← z1, ix_s]
        obtain ⟨r, q1, q2, q3⟩ := ih fuel (k + 1) (by omega) (by omega)
        refine ⟨r, q1, q2, q3.trans ⟨fun hh j h1 h2 => ?_, fun hh j h1 h2 => hh j (by omega) h2⟩⟩
        by_cases cj : j = k
        · rw [cj]; exact cc
        · exact hh j (by omega) h2
  have lr : ∀ (m fuel k : Nat) (t : Int), k + m = cs → m < fuel → (t = 0 ∨ t = 1) → (∃ r : Int, LX9_within_23 (iz (bc : Int)) FI CO CR SI' SR BO fuel (iz (a : Int)) (iz (b : Int)) (iz t) (iz (k : Int)) = some (iz r) ∧ (r = 0 ∨ r = 1) ∧ (r = 1 ↔ t = 1 ∧ ∀ j, k ≤ j → j < cs → wh f N ss s e be (c j) 1 ≠ 0)) := by
    intro m
    induction m with
    | zero =>
      intro fuel k t k1 k2 ht
      obtain ⟨fuel, rfl⟩ : ∃ q, fuel = q + 1 := ⟨fuel - 1, by omega⟩
      rw [LX9_within_23, ix_gd (by omega) (by omega), iz_cn (by omega), r2, if_pos ((ix_le (by omega) (by omega)).mpr (by omega))]
      rcases ht with rfl | rfl
      · rw [if_pos (show iz 0 = 0 from rfl)]
        exact ⟨0, rfl, Or.inl rfl, by omega, fun h => by omega⟩
      · rw [if_neg (by decide)]
        exact ⟨1, rfl, Or.inr rfl, fun _ => ⟨rfl, fun j h1 h2 => by omega⟩, fun _ => rfl⟩
    | succ m ih =>
      intro fuel k t k1 k2 ht
      obtain ⟨fuel, rfl⟩ : ∃ q, fuel = q + 1 := ⟨fuel - 1, by omega⟩
      rw [LX9_within_23, ix_gd (by omega) (by omega), iz_cn (by omega), r2, if_neg (fun h => by have := (ix_le (by omega) (by omega)).mp h; omega)]
      unfold JX9_within_90 JX9_within_91
      rw [ix_s]
      rcases ht with rfl | rfl
      · rw [if_pos (show iz 0 = 0 from rfl)]
        obtain ⟨r, q1, q2, q3⟩ := ih fuel (k + 1) 0 (by omega) (by omega) (Or.inl rfl)
        exact ⟨r, q1, q2, q3.trans ⟨fun hh => by omega, fun hh => by omega⟩⟩
      · have hr := wh_rng f N ss s e be (c k) 1
        obtain ⟨t1, t2, t3⟩ := r3 k (by omega)
        obtain ⟨w1, w2, w3⟩ := hcr k (by omega)
        rw [if_neg (by decide), y120, ix_m, y3, ix_m, ix_a, y1, ix_a, y2, ix_a, ix_gd (by omega) (by omega), ix_gd (by omega) (by omega), ix_gd (by omega) (by omega), iz_cn (by omega), iz_cn (by omega), iz_cn (by omega), t1, t2, t3, iz_lz (by omega) (by omega), iz_lz (by omega) (by omega), iz_lz (by omega) (by omega), show (1 : Int64) = lz 1 from rfl, wr k (by omega), bd_some]
        by_cases cc : wh f N ss s e be (c k) 1 = 0
        · rw [if_pos (by rw [cc]; decide)]
          obtain ⟨r, q1, q2, q3⟩ := ih fuel (k + 1) 0 (by omega) (by omega) (Or.inl rfl)
          exact ⟨r, q1, q2, q3.trans ⟨fun hh => by omega, fun hh => (hh.2 k (Nat.le_refl _) (by omega) cc).elim⟩⟩
        · rw [if_neg (by rw [z0, iz_le (by omega) (by omega) (by omega) (by omega)]; omega)]
          obtain ⟨r, q1, q2, q3⟩ := ih fuel (k + 1) 1 (by omega) (by omega) (Or.inr rfl)
          refine ⟨r, q1, q2, q3.trans ⟨fun hh => ⟨rfl, fun j h1 h2 => ?_⟩, fun hh => ⟨rfl, fun j h1 h2 => hh.2 j (by omega) h2⟩⟩⟩
          by_cases cj : j = k
          · rw [cj]; exact cc
          · exact hh.2 j (by omega) h2
  obtain ⟨r, p1, p2, p3⟩ := lc cs FU 0 (by omega) (by unfold FU; omega)
  obtain ⟨r', q1, q2, q3⟩ := lr cs FU 0 1 (by omega) (by unfold FU; omega) (Or.inr rfl)
  have e1 : r = r' := by
    have : r = 1 ↔ r' = 1 := p3.trans (Iff.trans ⟨fun h => ⟨rfl, h⟩, fun h => h.2⟩ q3.symm)
    omega
  subst e1
  refine ⟨iz r, ?_, q1⟩
  unfold fX0_holds
  refine (congrArg (fun o => bd o _) p1).trans ?_
  rw [bd_some]
  rcases p2 with rfl | rfl
  · rw [if_pos (show iz 0 = 0 from rfl)]; rfl
  · rw [if_neg (by decide)]; rfl
end
