/-! more questions -/
def oc (n : V3) (e0 : Int) (c : Nat → V3) : Nat → Nat
  | 0 => 0
  | k + 1 => oc n e0 c k + (if d3 n (c k) = e0 then 1 else 0)
theorem oc_le (n : V3) (e0 : Int) (c : Nat → V3) (k : Nat) : oc n e0 c k ≤ k := by
  induction k with
  | zero => exact Nat.le_refl _
  | succ k ih => unfold oc; split <;> omega
section
variable {f : Nat} {N : V3} {cs : Nat} {c : Nat → V3} {ss : Nat} {s : Nat → V3} {e : Nat → Int} {bd' : Nat → V3} {be L G : Nat → Int} {b bc : Nat} {FI CO CR SI' SR BO : Nat → Int32}
theorem q_on (h : GF f N cs c ss s e bd' be L G) (hR : RefB b f N cs c ss s e be FI CO CR SI' SR BO) (hb : b < bc) (hbc : bc ≤ 8) (p2 : Int32) : ∃ r, fX8_on_F cs ss (iz (bc : Int)) (iz (cs : Int)) (px c) (py c) (pz c) (iz (ss : Int)) (px s) (py s) (pz s) (pe e) (iz (b : Int)) p2 = some r ∧ fX9_on (iz (bc : Int)) CO CR SI' SR (iz (b : Int)) p2 = some r := by
  obtain ⟨f3, c1, c40, s80, hs, hN, hbd, hbe, h0, hcr, hLG⟩ := h
  obtain ⟨r1, r2, r3, r4, r5, r6, r7⟩ := hR
  obtain ⟨i, rfl, i1, i2⟩ := some_iz p2
  unfold fX8_on_F fX9_on
  rw [find_i hb hbc, bd_some, is_i hb hbc, bd_some, if_neg n10, ix_gd (by omega) (by omega), iz_cn (by omega), r4, z1, iz_sub, iz_lz i1 i2, iz_lz (by omega) (by omega), show (0 : Int64) = lz 0 from rfl, in_z (by omega) (by omega) (by omega) (by omega) (by omega) (by omega), bd_some]
  simp only [lt0 (a := i) (by omega) (by omega), iz_lt (a := i) (b := (ss : Int)) (by omega) (by omega) (by omega) (by omega)]
  by_cases a1 : 0 ≤ i ∧ i ≤ (ss : Int) - 1
  · obtain ⟨i', rfl⟩ := nat_of a1.1
    obtain ⟨g1, g2⟩ := hs i' (by omega)
    rw [if_neg (show ¬ (i' : Int) < 0 by omega), if_pos (show (i' : Int) < ss by omega), if_pos a1, if_neg n10]
    have lc : ∀ (m fuel k : Nat), k + m = cs → m < fuel → LX0_cornersOn_4 cs ss (iz (cs : Int)) (px c) (py c) (pz c) (px s) (py s) (pz s) (pe e) fuel (iz (i' : Int)) (iz ((oc (s i') (e i') c k : Nat) : Int)) (iz (k : Int)) = some (iz ((oc (s i') (e i') c cs : Nat) : Int)) := by
      intro m
      induction m with
      | zero =>
        intro fuel k k1 k2
        obtain ⟨fuel, rfl⟩ : ∃ q, fuel = q + 1 := ⟨fuel - 1, by omega⟩
        rw [LX0_cornersOn_4, if_pos ((ix_le (by omega) (by omega)).mpr (by omega)), show k = cs by omega]
      | succ m ih =>
        intro fuel k k1 k2
        obtain ⟨fuel, rfl⟩ : ∃ q, fuel = q + 1 := ⟨fuel - 1, by omega⟩
        have hx := excess_i (n := ss) (i := i') (s := s) (e := e) (by omega) (by omega) (bdv_100 (by decide) g1) ⟨by omega, by omega⟩ (c k) 1
        have hd := d3_bd (bdv_100 (by decide) g1) (hcr k (by omega))
        obtain ⟨w1, w2, w3⟩ := hcr k (by omega)
        rw [LX0_cornersOn_4, if_neg (fun h => by have := (ix_le (by omega) (by omega)).mp h; omega), ix_gd (by omega) (by omega), iz_cn (by omega), px_i, py_i, pz_i, iz_lz (by omega) (by omega), iz_lz (by omega) (by omega), iz_lz (by omega) (by omega), show (1 : Int64) = lz 1 from rfl, hx, bd_some]
        unfold JX0_cornersOn_62
        rw [ix_s, ix_s]
        have := ih fuel (k + 1) (by omega) (by omega)
        by_cases cc : d3 (s i') (c k) - e i' * 1 = 0
        · rw [if_pos ((lg_0 (by omega) (by omega)).mpr cc)]
          rw [oc, if_pos (show d3 (s i') (c k) = e i' by omega)] at this
          exact this
        · rw [if_neg (fun h => cc ((lg_0 (by omega) (by omega)).mp h))]
          rw [oc, if_neg (show ¬ d3 (s i') (c k) = e i' by omega)] at this
          exact this
    have lr : ∀ (m fuel k : Nat), k + m = cs → m < fuel → LX9_on_33 (iz (bc : Int)) CO CR SI' SR fuel (iz (b : Int)) (iz (i' : Int)) (iz ((oc (s i') (e i') c k : Nat) : Int)) (iz (k : Int)) = some (iz ((oc (s i') (e i') c cs : Nat) : Int)) := by
      intro m
      induction m with
      | zero =>
        intro fuel k k1 k2
        obtain ⟨fuel, rfl⟩ : ∃ q, fuel = q + 1 := ⟨fuel - 1, by omega⟩
        rw [LX9_on_33, ix_gd (by omega) (by omega), iz_cn (by omega), r2, if_pos ((ix_le (by omega) (by omega)).mpr (by omega)), show k = cs by omega]
      | succ m ih =>
        intro fuel k k1 k2
        obtain ⟨fuel, rfl⟩ : ∃ q, fuel = q + 1 := ⟨fuel - 1, by omega⟩
        obtain ⟨t1, t2, t3⟩ := r3 k (by omega)
        obtain ⟨r, o1, o2, o3'⟩ := isOn_i (p := c k) (show b < 8 by omega) (show i' < ss by omega) s80 r5 g1 g2 (hcr k (by omega))
        rw [LX9_on_33, ix_gd (by omega) (by omega), iz_cn (by omega), r2, if_neg (fun h => by have := (ix_le (by omega) (by omega)).mp h; omega), y120, ix_m, y3, ix_m, ix_a, y1, ix_a, y2, ix_a, ix_gd (by omega) (by omega), ix_gd (by omega) (by omega), ix_gd (by omega) (by omega), iz_cn (by omega), iz_cn (by omega), iz_cn (by omega), t1, t2, t3, o1, bd_some]
        unfold JX9_on_95
        rw [← y1, ix_s]
        have := ih fuel (k + 1) (by omega) (by omega)
        by_cases cc : d3 (s i') (c k) = e i'
        · have : r = 1 := o3'.mpr cc
          subst this
          rw [if_neg (by decide), y1, ix_a]
          rw [oc, if_pos cc] at this
          exact this
        · have : r = 0 := by
            rcases o2 with q | q
            · exact q
            · exact (cc (o3'.mp q)).elim
          subst this
          rw [if_pos (show iz 0 = 0 from rfl), y0, ix_a]
          rw [oc, if_neg cc] at this
          exact this
    refine ⟨iz ((oc (s i') (e i') c cs : Nat) : Int), ?_, ?_⟩
    · unfold fX0_cornersOn
      have := lc cs FU 0 (by omega) (by unfold FU; omega)
      exact congrArg (fun o => bd o _) this
    · exact lr cs FU 0 (by omega) (by unfold FU; omega)
  · rw [if_neg a1, if_pos (show (0 : Int32) = 0 from rfl)]
    by_cases a3 : i < 0
    · rw [if_pos a3]; exact ⟨_, rfl, rfl⟩
    · rw [if_neg a3, if_neg (by omega)]; exact ⟨_, rfl, rfl⟩
end
def mxv (u : V3) (c : Nat → V3) : Nat → Int
  | 0 => -1500
  | k + 1 => if mxv u c k < d3 u (c k) then d3 u (c k) else mxv u c k
theorem mxv_is (u : V3) (c : Nat → V3) (hc : ∀ k, -1500 ≤ d3 u (c k)) : ∀ k, 1 ≤ k → (∀ j, j < k → d3 u (c j) ≤ mxv u c k) ∧ ∃ j, j < k ∧ d3 u (c j) = mxv u c k := by
  intro k
  induction k with
  | zero => intro h; omega
  | succ k ih =>
    intro _
    rw [mxv]
    by_cases c0 : k = 0
    · subst c0
      have h0 := hc 0
      rw [mxv]
      have e1 : (if (-1500 : Int) < d3 u (c 0) then d3 u (c 0) else -1500) = d3 u (c 0) := by split <;> omega
      rw [e1]
      exact ⟨fun j hj => by rw [show j = 0 by omega]; exact Int.le_refl _, 0, by omega, rfl⟩
    · obtain ⟨h1, j, hj, h2⟩ := ih (by omega)
      by_cases cc : mxv u c k < d3 u (c k)
      · rw [if_pos cc]
        refine ⟨fun j hj => ?_, k, by omega, rfl⟩
        by_cases cj : j = k
        · rw [cj]; exact Int.le_refl _
        · have := h1 j (by omega); omega
      · rw [if_neg cc]
        refine ⟨fun j hj => ?_, j, by omega, h2⟩
        by_cases cj : j = k
        · rw [cj]; omega
        · exact h1 j (by omega)
section
variable {f : Nat} {N : V3} {cs : Nat} {c : Nat → V3} {ss : Nat} {s : Nat → V3} {e : Nat → Int} {bd' : Nat → V3} {be L G : Nat → Int} {b bc : Nat} {FI CO CR SI' SR BO : Nat → Int32}
theorem gof_i (hcs : cs ≤ 40) (hcr : ∀ i, i < cs → rc3 (c i)) {u : V3} (hu : bdv 100 u) : fX0_greatestOf cs (iz (cs : Int)) (px c) (py c) (pz c) (iz u.1) (iz u.2.1) (iz u.2.2) = some (iz (mxv u c cs)) := by
  have rng : ∀ k, k ≤ cs → -1500 ≤ mxv u c k ∧ mxv u c k ≤ 10000 := by
    intro k
    induction k with
    | zero => intro _; rw [mxv]; omega
    | succ k ih =>
      intro hk
      have := ih (by omega)
      have hd := d3_bd2 hu (rc_bdv (hcr k (by omega)))
      rw [mxv]
      split <;> omega
  have loop : ∀ (m fuel k : Nat), k + m = cs → m < fuel → LX0_greatestOf_8 cs (iz (cs : Int)) (px c) (py c) (pz c) fuel (iz u.1) (iz u.2.1) (iz u.2.2) (iz (mxv u c k)) (iz (k : Int)) = some (iz (mxv u c cs)) := by
    intro m
    induction m with
    | zero =>
      intro fuel k k1 k2
      obtain ⟨fuel, rfl⟩ : ∃ q, fuel = q + 1 := ⟨fuel - 1, by omega⟩
      rw [LX0_greatestOf_8, if_pos ((ix_le (by omega) (by omega)).mpr (by omega)), show k = cs by omega]
    | succ m ih =>
      intro fuel k k1 k2
      obtain ⟨fuel, rfl⟩ : ∃ q, fuel = q + 1 := ⟨fuel - 1, by omega⟩
      have hd := d3_bd2 hu (rc_bdv (hcr k (by omega)))
      have hr := rng k (by omega)
      have := ih fuel (k + 1) (by omega) (by omega)
      rw [LX0_greatestOf_8, if_neg (fun h => by have := (ix_le (by omega) (by omega)).mp h; omega), ix_gd (by omega) (by omega), iz_cn (by omega), px_i, py_i, pz_i]
      simp only [iz_mul, iz_add]
      have e1 : u.1 * (c k).1 + u.2.1 * (c k).2.1 + u.2.2 * (c k).2.2 = d3 u (c k) := rfl
      rw [e1]
      unfold cut
      rw [ix_s]
      simp only [iz_lt (a := mxv u c k) (b := d3 u (c k)) (by omega) (by omega) (by omega) (by omega)]
      rw [mxv] at this
      by_cases cc : mxv u c k < d3 u (c k)
      · rw [if_pos cc]; rw [if_pos cc] at this; exact this
      · rw [if_neg cc]; rw [if_neg cc] at this; exact this
  unfold fX0_greatestOf
  have e0 : (-1500 : Int32) = iz (mxv u c 0) := by rw [mxv]; decide
  rw [e0]
  exact loop cs FU 0 (by omega) (by unfold FU; omega)
end
