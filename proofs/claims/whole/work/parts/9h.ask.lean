/-! same, about -/
theorem RC_k {CR : Nat → Int32} {b cs : Nat} {c : Nat → V3} (h : RC CR b cs c) {k : Nat} (hk : k < 3 * cs) : CR (120 * b + k) = iz (co (c (k / 3)) (k % 3)) := by
  obtain ⟨h1, h2, h3⟩ := h (k / 3) (by omega)
  rcases (show k % 3 = 0 ∨ k % 3 = 1 ∨ k % 3 = 2 by omega) with q | q | q
  · rw [q, show 120 * b + k = 120 * b + 3 * (k / 3) by omega]; exact h1
  · rw [q, show 120 * b + k = 120 * b + 3 * (k / 3) + 1 by omega]; exact h2
  · rw [q, show 120 * b + k = 120 * b + 3 * (k / 3) + 2 by omega]; exact h3
theorem mod3_i {k : Nat} (hk : k < 1000) : iz (k : Int) - iz (k : Int) / 3 * 3 = iz ((k % 3 : Nat) : Int) := iz_mod (a := k) (b := 3) (by omega) (by omega)
section
variable {cs cs1 : Nat} {c c1 : Nat → V3} {a b bc : Nat} {CO CR : Nat → Int32}
theorem moved_i (hcs : cs ≤ 40) (hcs1 : 1 ≤ cs) (hc1 : cs1 ≤ 40) (hcr : ∀ i, i < cs → rc3 (c i)) (hcr1 : ∀ i, i < cs1 → rc3 (c1 i)) : ∃ r : Int, fX4_isMoved cs cs1 (iz (cs : Int)) (px c) (py c) (pz c) (iz (cs1 : Int)) (px c1) (py c1) (pz c1) = some (iz r) ∧ (r = 0 ∨ r = 1) ∧ (r = 1 ↔ cs = cs1 ∧ ∀ i, i < cs → sb3 (c i) (c1 i) = sb3 (c 0) (c1 0)) := by
  unfold fX4_isMoved
  by_cases e : cs = cs1
  · subst e
    rw [if_pos rfl, if_neg (by rw [z0, iz_eq (by omega) (by omega) (by omega) (by omega)]; omega)]
    have loop : ∀ (m fuel k : Nat), k + m = cs → m < fuel → (∀ i, i < k → sb3 (c i) (c1 i) = sb3 (c 0) (c1 0)) → ∃ r : Int, LX4_isMoved_22 cs cs (iz (cs : Int)) (px c) (py c) (pz c) (iz (cs : Int)) (px c1) (py c1) (pz c1) fuel (iz (k : Int)) = some (iz r) ∧ (r = 0 ∨ r = 1) ∧ (r = 1 ↔ ∀ i, i < cs → sb3 (c i) (c1 i) = sb3 (c 0) (c1 0)) := by
      intro m
      induction m with
      | zero =>
        intro fuel k k1 k2 inv
        obtain ⟨fuel, rfl⟩ : ∃ q, fuel = q + 1 := ⟨fuel - 1, by omega⟩
        exact ⟨1, by rw [LX4_isMoved_22, if_pos ((ix_le (by omega) (by omega)).mpr (by omega))]; rfl, Or.inr rfl, fun _ => fun i hi => inv i (by omega), fun _ => rfl⟩
      | succ m ih =>
        intro fuel k k1 k2 inv
        obtain ⟨fuel, rfl⟩ : ∃ q, fuel = q + 1 := ⟨fuel - 1, by omega⟩
        obtain ⟨a1, a2, a3⟩ := hcr k (by omega)
        obtain ⟨b1, b2, b3⟩ := hcr1 k (by omega)
        obtain ⟨d1, d2, d3'⟩ := hcr 0 (by omega)
        obtain ⟨f1, f2, f3⟩ := hcr1 0 (by omega)
        rw [LX4_isMoved_22, if_neg (fun h => by have := (ix_le (by omega) (by omega)).mp h; omega), y0, ix_gd (by omega) (by omega), ix_gd (by omega) (by omega), ix_gd (by omega) (by omega), ix_gd (by omega) (by omega), iz_cn (by omega), iz_cn (by omega)]
        simp only [px_i, py_i, pz_i, iz_sub]
        simp (disch := omega) only [iz_eq]
        have no : sb3 (c k) (c1 k) ≠ sb3 (c 0) (c1 0) → ∃ r : Int, (some (iz ((0 : Nat) : Int)) : Option Int32) = some (iz r) ∧ (r = 0 ∨ r = 1) ∧ (r = 1 ↔ ∀ i, i < cs → sb3 (c i) (c1 i) = sb3 (c 0) (c1 0)) := fun ne => ⟨0, rfl, Or.inl rfl, by omega, fun h => (ne (h k (by omega))).elim⟩
        by_cases c1' : (c k).1 - (c1 k).1 = (c 0).1 - (c1 0).1
        · rw [if_pos c1']
          by_cases c2' : (c k).2.1 - (c1 k).2.1 = (c 0).2.1 - (c1 0).2.1
          · rw [if_pos c2']
            by_cases c3' : (c k).2.2 - (c1 k).2.2 = (c 0).2.2 - (c1 0).2.2
            · rw [if_pos c3', ix_s]
              exact ih fuel (k + 1) (by omega) (by omega) (fun i hi => by
                by_cases ci : i = k
                · rw [ci]; exact v3_ext c1' c2' c3'
                · exact inv i (by omega))
            · rw [if_neg c3']; exact no (fun h => c3' (v3_iff.mp h).2.2)
          · rw [if_neg c2']; exact no (fun h => c2' (v3_iff.mp h).2.1)
        · rw [if_neg c1']; exact no (fun h => c1' (v3_iff.mp h).1)
    obtain ⟨r, q1, q2, q3⟩ := loop (cs - 1) FU 1 (by omega) (by unfold FU; omega) (fun i hi => by rw [show i = 0 by omega])
    exact ⟨r, q1, q2, q3.trans ⟨fun h => ⟨rfl, h⟩, fun h => h.2⟩⟩
  · rw [if_neg (by rw [ix_eq (by omega) (by omega)]; exact e)]
    exact ⟨0, rfl, Or.inl rfl, by omega, fun h => (e h.1).elim⟩
theorem q_same (ha : a < bc) (hb : b < bc) (hbc : bc ≤ 8) (hcs : cs ≤ 40) (hcs1 : 1 ≤ cs) (hc1 : cs1 ≤ 40) (hc11 : 1 ≤ cs1) (hcr : ∀ i, i < cs → rc3 (c i)) (hcr1 : ∀ i, i < cs1 → rc3 (c1 i)) (ra : CO a = iz (cs : Int)) (rca : RC CR a cs c) (rb : CO b = iz (cs1 : Int)) (rcb : RC CR b cs1 c1) : ∃ r, fX8_same_FF cs cs1 (iz (bc : Int)) (iz (cs : Int)) (px c) (py c) (pz c) (iz (cs1 : Int)) (px c1) (py c1) (pz c1) (iz (a : Int)) (iz (b : Int)) = some r ∧ fX9_same (iz (bc : Int)) CO CR (iz (a : Int)) (iz (b : Int)) = some r := by
  obtain ⟨r, m1, m2, m3⟩ := moved_i (c := c) (c1 := c1) hcs hcs1 hc1 hcr hcr1
  obtain ⟨k, e1, b1, b2, l1, l2, l3⟩ := cmp_i (n := cs) (n2 := cs1) (p := c) (q := c1) (a := 0) (b := 0) (by omega) (by omega) (by omega) (by omega) (hcr 0 (by omega)) (hcr1 0 (by omega))
  unfold fX8_same_FF fX9_same
  rw [find_i ha hbc, bd_some, find_i hb hbc, bd_some, is_i ha hbc, bd_some, if_neg n10, is_i hb hbc, bd_some, if_neg n10, m1, bd_some, ix_gd (by omega) (by omega), ix_gd (by omega) (by omega), iz_cn (by omega), iz_cn (by omega), ra, rb]
  by_cases e : cs = cs1
  · subst e
    have df : ∀ j, j < 3 * cs → CR (120 * a + j) - CR (120 * b + j) = iz (co (c (j / 3)) (j % 3) - co (c1 (j / 3)) (j % 3)) := fun j hj => by rw [RC_k rca hj, RC_k rcb hj, iz_sub]
    have dfb : ∀ j, j < 3 * cs → -10 ≤ co (c (j / 3)) (j % 3) - co (c1 (j / 3)) (j % 3) ∧ co (c (j / 3)) (j % 3) - co (c1 (j / 3)) (j % 3) ≤ 10 := fun j hj => by
      have h1 := co_bd (hcr (j / 3) (by omega)) (j % 3)
      have h2 := co_bd (hcr1 (j / 3) (by omega)) (j % 3)
      omega
    have mv : (∀ j, j < 3 * cs → co (c (j / 3)) (j % 3) - co (c1 (j / 3)) (j % 3) = co (c 0) (j % 3) - co (c1 0) (j % 3)) ↔ ∀ i, i < cs → sb3 (c i) (c1 i) = sb3 (c 0) (c1 0) := by
      constructor
      · intro h i hi
        have g0 := h (3 * i) (by omega)
        have g1 := h (3 * i + 1) (by omega)
        have g2 := h (3 * i + 2) (by omega)
        rw [show 3 * i / 3 = i by omega, show 3 * i % 3 = 0 by omega] at g0
        rw [show (3 * i + 1) / 3 = i by omega, show (3 * i + 1) % 3 = 1 by omega] at g1
        rw [show (3 * i + 2) / 3 = i by omega, show (3 * i + 2) % 3 = 2 by omega] at g2
        exact v3_ext g0 g1 g2
      · intro h j hj
        have g := v3_iff.mp (h (j / 3) (by omega))
        rcases (show j % 3 = 0 ∨ j % 3 = 1 ∨ j % 3 = 2 by omega) with q | q | q
        · rw [q]; exact g.1
        · rw [q]; exact g.2.1
        · rw [q]; exact g.2.2
    rw [if_pos rfl]
    unfold JX9_same_38
    have loop : ∀ (m fuel k : Nat) (sm : Int), k + m = 3 * cs → m < fuel → (sm = 0 ∨ sm = 1) → (sm = 1 ↔ ∀ j, j < k → co (c (j / 3)) (j % 3) - co (c1 (j / 3)) (j % 3) = 0) → (∀ j, j < k → co (c (j / 3)) (j % 3) - co (c1 (j / 3)) (j % 3) = co (c 0) (j % 3) - co (c1 0) (j % 3)) → ∃ r : Int, LX9_same_45 (iz (bc : Int)) CO CR fuel (iz (a : Int)) (iz (b : Int)) 1 (iz sm) (iz (k : Int)) = some (iz r) ∧ ((∀ i, i < cs → sb3 (c i) (c1 i) = sb3 (c 0) (c1 0)) → r = if c 0 = c1 0 then 2 else 1) ∧ (¬ (∀ i, i < cs → sb3 (c i) (c1 i) = sb3 (c 0) (c1 0)) → r = 0) := by
      intro m
      induction m with
      | zero =>
        intro fuel k sm k1 k2 hsm is il
        obtain ⟨fuel, rfl⟩ : ∃ q, fuel = q + 1 := ⟨fuel - 1, by omega⟩
        have ek : k = 3 * cs := by omega
        subst ek
        rw [LX9_same_45, ix_gd (by omega) (by omega), iz_cn (by omega), ra, y3, ix_m, if_pos ((ix_le (by omega) (by omega)).mpr (Nat.le_refl _))]
        unfold JX9_same_152 JX9_same_165
        have eq0 : sm = 1 ↔ c 0 = c1 0 := by
          rw [is]
          constructor
          · intro h
            have g0 := h 0 (by omega)
            have g1 := h 1 (by omega)
            have g2 := h 2 (by omega)
            have g0 : (c 0).1 - (c1 0).1 = 0 := g0
            have g1 : (c 0).2.1 - (c1 0).2.1 = 0 := g1
            have g2 : (c 0).2.2 - (c1 0).2.2 = 0 := g2
            exact v3_ext (by omega) (by omega) (by omega)
          · intro h j hj
            rw [il j hj, h]; omega
        rcases hsm with rfl | rfl
        · rw [if_pos (show iz 0 = 0 from rfl), if_neg (by decide)]
          exact ⟨1, rfl, fun _ => by rw [if_neg (fun h => by have := eq0.mpr h; omega)], fun h => (h (mv.mp il)).elim⟩
        · rw [if_neg (by decide), if_neg (by decide)]
          exact ⟨2, rfl, fun _ => by rw [if_pos (eq0.mp rfl)], fun h => (h (mv.mp il)).elim⟩
      | succ m ih =>
        intro fuel k sm k1 k2 hsm is il
        obtain ⟨fuel, rfl⟩ : ∃ q, fuel = q + 1 := ⟨fuel - 1, by omega⟩
        have d1 := df k (by omega)
        have d2 := df (k % 3) (by omega)
        have p1 := dfb k (by omega)
        have p2 := dfb (k % 3) (by omega)
        rw [show k % 3 / 3 = 0 by omega, show k % 3 % 3 = k % 3 by omega] at d2 p2
        have fin : ∀ sm' : Int, (sm' = 0 ∨ sm' = 1) → (sm' = 1 ↔ sm = 1 ∧ co (c (k / 3)) (k % 3) - co (c1 (k / 3)) (k % 3) = 0) → ∃ r : Int, JX9_same_104 (iz (bc : Int)) CO CR (LX9_same_45 (iz (bc : Int)) CO CR fuel) (iz (a : Int)) (iz (b : Int)) (iz (k : Int)) (iz (co (c (k / 3)) (k % 3) - co (c1 (k / 3)) (k % 3))) (iz sm') = some (iz r) ∧ ((∀ i, i < cs → sb3 (c i) (c1 i) = sb3 (c 0) (c1 0)) → r = if c 0 = c1 0 then 2 else 1) ∧ (¬ (∀ i, i < cs → sb3 (c i) (c1 i) = sb3 (c 0) (c1 0)) → r = 0) := by
          intro sm' h1 h2
          unfold JX9_same_104 JX9_same_145
          rw [mod3_i (by omega), y120, ix_m, ix_m, ix_a, ix_a, ix_gd (by omega) (by omega), ix_gd (by omega) (by omega), iz_cn (by omega), iz_cn (by omega), d2]
          simp only [iz_eq (a := co (c (k / 3)) (k % 3) - co (c1 (k / 3)) (k % 3)) (b := co (c 0) (k % 3) - co (c1 0) (k % 3)) (by omega) (by omega) (by omega) (by omega)]
          by_cases cc : co (c (k / 3)) (k % 3) - co (c1 (k / 3)) (k % 3) = co (c 0) (k % 3) - co (c1 0) (k % 3)
          · rw [if_pos cc, ix_s]
            refine ih fuel (k + 1) sm' (by omega) (by omega) h1 (h2.trans ?_) (fun j hj => ?_)
            · rw [is]
              constructor
              · rintro ⟨x, y⟩ j hj
                by_cases cj : j = k
                · rw [cj]; exact y
                · exact x j (by omega)
              · intro h
                exact ⟨fun j hj => h j (by omega), h k (by omega)⟩
            · by_cases cj : j = k
              · rw [cj]; exact cc
              · exact il j (by omega)
          · rw [if_neg cc, ix_s]
            obtain ⟨fuel, rfl⟩ : ∃ q, fuel = q + 1 := ⟨fuel - 1, by omega⟩
            refine ⟨0, ?_, fun h => (cc (mv.mpr h k (by omega))).elim, fun _ => rfl⟩
            rw [LX9_same_45, ix_gd (by omega) (by omega), iz_cn (by omega)]
            unfold JX9_same_152 JX9_same_165
            by_cases q1 : 3 * CO a ≤ iz ((k + 1 : Nat) : Int)
            · rw [if_pos q1]
              by_cases q2 : iz sm' = 0
              · rw [if_pos q2, if_pos rfl]; rfl
              · rw [if_neg q2, if_pos rfl, if_pos rfl]; rfl
            · rw [if_neg q1, if_pos rfl]
              by_cases q2 : iz sm' = 0
              · rw [if_pos q2, if_pos rfl]; rfl
              · rw [if_neg q2, if_pos rfl, if_pos rfl]; rfl
        rw [LX9_same_45, ix_gd (by omega) (by omega), iz_cn (by omega), ra, y3, ix_m, if_neg (fun h => by have := (ix_le (by omega) (by omega)).mp h; omega), if_neg (show ¬ (1 : Int32) = 0 by decide), y120, ix_m, ix_m, ix_a, ix_a, ix_gd (by omega) (by omega), ix_gd (by omega) (by omega), iz_cn (by omega), iz_cn (by omega), d1]
        unfold cut JX9_same_103
        dsimp only
        simp only [show iz (co (c (k / 3)) (k % 3) - co (c1 (k / 3)) (k % 3)) = 0 ↔ co (c (k / 3)) (k % 3) - co (c1 (k / 3)) (k % 3) = 0 from by rw [z0, iz_eq (by omega) (by omega) (by omega) (by omega)]]
        rcases hsm with rfl | rfl
        · rw [if_pos (show iz 0 = 0 from rfl)]
          exact fin 0 (by omega) (by omega)
        · rw [if_neg (show ¬ iz 1 = 0 by decide)]
          by_cases cz : co (c (k / 3)) (k % 3) - co (c1 (k / 3)) (k % 3) = 0
          · rw [if_pos cz]; exact fin 1 (by omega) (by omega)
          · rw [if_neg cz]; exact fin 0 (by omega) (by omega)
    obtain ⟨r', q1, q2, q3⟩ := loop (3 * cs) FU 0 1 (by omega) (by unfold FU; omega) (Or.inr rfl) ⟨fun _ j hj => by omega, fun _ => rfl⟩ (fun j hj => by omega)
    refine ⟨iz r', ?_, q1⟩
    by_cases cm : ∀ i, i < cs → sb3 (c i) (c1 i) = sb3 (c 0) (c1 0)
    · have : r = 1 := m3.mpr ⟨rfl, cm⟩
      subst this
      rw [if_neg (show ¬ iz 1 = 0 by decide), y0, e1, bd_some, q2 cm]
      by_cases ck : k = 0
      · rw [if_pos (by rw [ck]; rfl), if_pos (l2.mp ck)]; rfl
      · rw [if_neg (by rw [← y0, z0, iz_eq (by omega) (by omega) (by omega) (by omega)]; exact ck), if_neg (fun h => ck (l2.mpr h))]; rfl
    · have : r = 0 := by
        rcases m2 with q | q
        · exact q
        · exact (cm (m3.mp q).2).elim
      subst this
      rw [if_pos (show iz 0 = 0 from rfl), q3 cm]; rfl
  · have : r = 0 := by
      rcases m2 with q | q
      · exact q
      · exact (e (m3.mp q).1).elim
    subst this
    rw [if_pos (show iz 0 = 0 from rfl), if_neg (by rw [ix_eq (by omega) (by omega)]; exact e)]
    unfold JX9_same_38
    refine ⟨0, rfl, ?_⟩
    rw [show FU = 4999 + 1 from rfl, LX9_same_45, ix_gd (by omega) (by omega), iz_cn (by omega), ra, y3, ix_m, y0, if_neg (fun h => by have := (ix_le (by omega) (by omega)).mp h; omega), if_pos rfl]
    unfold JX9_same_152 JX9_same_165
    rw [if_pos (show iz ((0 : Nat) : Int) = 0 from rfl), if_pos (show iz ((0 : Nat) : Int) = 0 from rfl)]
    rfl
end
