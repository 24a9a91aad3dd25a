theorem t4_congr {k : Nat → Int} {b b' : Nat → V4} (e : ∀ j, j < 4 → b j = b' j) : t4 k b = t4 k b' := by
  unfold t4
  rw [e 0 (by omega), e 1 (by omega), e 2 (by omega), e 3 (by omega)]
theorem Fr_congr {b b' f : Nat → V4} {d : Int} (e : ∀ j, j < 4 → b j = b' j) (h : Fr b f d) : Fr b' f d := by
  obtain ⟨h1, h2, h3⟩ := h
  refine ⟨h1, fun i j hi hj => by rw [← e j hj]; exact h2 i j hi hj, fun x => by rw [← t4_congr e]; exact h3 x⟩
theorem DF_congr {v : Nat → V4} {m : Nat} {w : Nat → Int} {ix jx : Nat → Nat} {f : Nat → V4} {d : Int} (e : ∀ j, j < 4 → ix j = jx j) (h : DF v m w ix f d) : DF v m w jx f d := by
  obtain ⟨h1, h2, h3⟩ := h
  have eg : gf f w ix = gf f w jx := by
    unfold gf t4
    simp only [e 0 (by omega), e 1 (by omega), e 2 (by omega), e 3 (by omega)]
  exact ⟨Fr_congr (fun j hj => by rw [e j hj]) h1, fun i hi => by rw [← e i hi]; exact h2 i hi, fun k hk => by rw [← eg]; exact h3 k hk⟩
abbrev Cd : Type := Nat × Nat × Nat × Nat × Nat
def ixc (c : Cd) : Nat → Nat := fun j => if j = 0 then c.1 else if j = 1 then c.2.1 else if j = 2 then c.2.2.1 else c.2.2.2.1
def cds (m : Nat) : List Cd := (List.range m).flatMap fun a => (List.range m).flatMap fun b => (List.range m).flatMap fun c => (List.range m).flatMap fun d => (List.range 4).map fun i => (a, b, c, d, i)
theorem cds_mem {m a b c d i : Nat} (ha : a < m) (hb : b < m) (hc : c < m) (hd : d < m) (hi : i < 4) : (a, b, c, d, i) ∈ cds m := by
  unfold cds
  simp only [List.mem_flatMap, List.mem_map, List.mem_range]
  exact ⟨a, ha, b, hb, c, hc, d, hd, i, hi, rfl⟩
theorem ixc_eq (ix : Nat → Nat) (i : Nat) : ∀ j, j < 4 → ix j = ixc (ix 0, ix 1, ix 2, ix 3, i) j := by
  intro j hj
  rcases four hj with rfl | rfl | rfl | rfl <;> rfl
/-- where the way from X towards C enters a frame -/
def cand (X C : V4) (f : Nat → V4) (i : Nat) : Prop := i < 4 ∧ dt (f i) X < 0 ∧ 0 < dt (f i) C ∧ ∀ j, j < 4 → j ≠ i → 0 ≤ dt (f j) X * dt (f i) C - dt (f i) X * dt (f j) C
theorem tri_cover {v : Nat → V4} {m : Nat} {w : Nat → Int} (X C : V4) {ix0 : Nat → Nat} {f0 : Nat → V4} {d0 : Int} (h0 : DF v m w ix0 f0 d0) (hC : ∀ i, i < 4 → 0 < dt (f0 i) C)
    (hside : ∀ ix f d i, i < 4 → DF v m w ix f d → (∀ k, k < m → 0 ≤ dt (f i) (v k)) → 0 ≤ dt (f i) X)
    (hgen : ∀ ix f d i, i < 4 → DF v m w ix f d → dt (f i) X ≠ 0)
    (htie : ∀ ix f d i j, i < 4 → j < 4 → i ≠ j → DF v m w ix f d → dt (f i) X * dt (f j) C ≠ dt (f j) X * dt (f i) C) :
    ∃ ix f d, DF v m w ix f d ∧ ∀ i, i < 4 → 0 < dt (f i) X := by
  refine Classical.byContradiction fun hno => ?_
  have hch : ∀ c : Cd, ∃ f : Nat → V4, (∃ f' d', DF v m w (ixc c) f' d' ∧ cand X C f' c.2.2.2.2) → ∃ d, DF v m w (ixc c) f d ∧ cand X C f c.2.2.2.2 := by
    intro c
    by_cases h : ∃ f' d', DF v m w (ixc c) f' d' ∧ cand X C f' c.2.2.2.2
    · obtain ⟨f', d', h⟩ := h
      exact ⟨f', fun _ => ⟨d', h⟩⟩
    · exact ⟨fun _ => (0, 0, 0, 0), fun h' => absurd h' h⟩
  obtain ⟨F, hF⟩ := Classical.axiomOfChoice hch
  -- there is a first one
  have first : ∃ c, c ∈ cds m ∧ ∃ f' d', DF v m w (ixc c) f' d' ∧ cand X C f' c.2.2.2.2 := by
    have hex : ∃ j, j ∈ [0, 1, 2, 3] ∧ (j < 4 ∧ dt (f0 j) X < 0) := by
      refine Classical.byContradiction fun hn => hno ⟨ix0, f0, d0, h0, fun j hj4 => ?_⟩
      have hne := hgen _ f0 d0 j hj4 h0
      have hnn : ¬ dt (f0 j) X < 0 := fun hlt => hn ⟨j, by rcases four hj4 with rfl | rfl | rfl | rfl <;> simp, hj4, hlt⟩
      omega
    obtain ⟨k, hkL, ⟨hk4, hkX⟩, hmin⟩ := fin_min (fun j => dt (f0 j) X) (fun j => dt (f0 j) C) (fun j => j < 4 ∧ dt (f0 j) X < 0) [0, 1, 2, 3] (fun j _ hp => hC j hp.1) hex
    refine ⟨(ix0 0, ix0 1, ix0 2, ix0 3, k), cds_mem (h0.2.1 0 (by omega)) (h0.2.1 1 (by omega)) (h0.2.1 2 (by omega)) (h0.2.1 3 (by omega)) hk4, f0, d0, DF_congr (ixc_eq ix0 k) h0, hk4, hkX, hC k hk4, fun j hj4 hjk => ?_⟩
    show 0 ≤ dt (f0 j) X * dt (f0 k) C - dt (f0 k) X * dt (f0 j) C
    by_cases c : dt (f0 j) X < 0
    · have := hmin j (by rcases four hj4 with rfl | rfl | rfl | rfl <;> simp) ⟨hj4, c⟩
      omega
    · have n1 : 0 ≤ dt (f0 j) X * dt (f0 k) C := Int.mul_nonneg (by omega) (Int.le_of_lt (hC k hk4))
      have n2 : 0 ≤ (- dt (f0 k) X) * dt (f0 j) C := Int.mul_nonneg (by omega) (Int.le_of_lt (hC j hj4))
      have e1 : (- dt (f0 k) X) * dt (f0 j) C = - (dt (f0 k) X * dt (f0 j) C) := by grind
      omega
  obtain ⟨c, hcL, hPc, hmin⟩ := fin_min (fun c => - dt (F c c.2.2.2.2) X) (fun c => dt (F c c.2.2.2.2) C) (fun c => ∃ f' d', DF v m w (ixc c) f' d' ∧ cand X C f' c.2.2.2.2) (cds m) (fun c _ hp => by
    obtain ⟨d, _, hc⟩ := hF c hp
    exact hc.2.2.1) first
  obtain ⟨d, hD, hi, hX, hCi, hj⟩ := hF c hPc
  generalize F c = f at hD hi hX hCi hj hmin
  generalize hie : c.2.2.2.2 = i at hD hi hX hCi hj hmin
  have hj' : ∀ j, j < 4 → j ≠ i → 0 < dt (f j) X * dt (f i) C - dt (f i) X * dt (f j) C := by
    intro j hj4 hji
    have h1 := hj j hj4 hji
    have h2 := htie _ f d i j hi hj4 (fun e => hji e.symm) hD
    omega
  have hneg : ∃ k, k < m ∧ dt (f i) (v k) < 0 := by
    refine Classical.byContradiction fun hn => ?_
    have := hside _ f d i hi hD (fun k hk => Int.not_lt.mp fun hlt => hn ⟨k, hk, hlt⟩)
    omega
  rcases tri_down hD X C i hi hX hCi hj' hneg hgen with h | ⟨ix', f', d', i', hi', hD', hX', hC', hj2, hlt⟩
  · exact hno h
  · have hc' := hD'.2.1
    have hP' : ∃ f2 d2, DF v m w (ixc (ix' 0, ix' 1, ix' 2, ix' 3, i')) f2 d2 ∧ cand X C f2 i' := ⟨f', d', DF_congr (ixc_eq ix' i') hD', hi', hX', hC', hj2⟩
    have hm := hmin (ix' 0, ix' 1, ix' 2, ix' 3, i') (cds_mem (hc' 0 (by omega)) (hc' 1 (by omega)) (hc' 2 (by omega)) (hc' 3 (by omega)) hi') hP'
    obtain ⟨d2, hD2, hi2, hX2, hC2, _⟩ := hF (ix' 0, ix' 1, ix' 2, ix' 3, i') hP'
    have hm : - dt (f i) X * dt (F (ix' 0, ix' 1, ix' 2, ix' 3, i') i') C ≤ - dt (F (ix' 0, ix' 1, ix' 2, ix' 3, i') i') X * dt (f i) C := hm
    generalize F (ix' 0, ix' 1, ix' 2, ix' 3, i') = g at hm hD2 hX2 hC2
    have s1 := Fr_same (DF_congr (ixc_eq ix' i') hD').1 hD2.1 i' hi' X
    have s2 := Fr_same (DF_congr (ixc_eq ix' i') hD').1 hD2.1 i' hi' C
    have dp := hD'.1.1
    have dp2 := hD2.1.1
    have m1 : (- dt (f i) X * dt (g i') C) * d' ≤ (- dt (g i') X * dt (f i) C) * d' := Int.mul_le_mul_of_nonneg_right hm (Int.le_of_lt dp)
    have e1 : (- dt (f i) X * dt (g i') C) * d' = - dt (f i) X * (d' * dt (g i') C) := by grind
    have e2 : (- dt (g i') X * dt (f i) C) * d' = - (d' * dt (g i') X) * dt (f i) C := by grind
    rw [e1, e2, s1, s2] at m1
    have m2 : ((- dt (f' i') X) * dt (f i) C) * d2 < ((- dt (f i) X) * dt (f' i') C) * d2 := Int.mul_lt_mul_of_pos_right hlt dp2
    have e3 : ((- dt (f' i') X) * dt (f i) C) * d2 = - (d2 * dt (f' i') X) * dt (f i) C := by grind
    have e4 : ((- dt (f i) X) * dt (f' i') C) * d2 = - dt (f i) X * (d2 * dt (f' i') C) := by grind
    rw [e3, e4] at m2
    omega
