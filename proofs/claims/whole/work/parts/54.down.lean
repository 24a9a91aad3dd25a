/-- one step along the way from X towards C -/
theorem tri_down {v : Nat → V4} {m : Nat} {w : Nat → Int} {ix : Nat → Nat} {f : Nat → V4} {d : Int} (h : DF v m w ix f d) (X C : V4) (i : Nat) (hi : i < 4) (hX : dt (f i) X < 0) (hC : 0 < dt (f i) C) (hj : ∀ j, j < 4 → j ≠ i → 0 < dt (f j) X * dt (f i) C - dt (f i) X * dt (f j) C) (hneg : ∃ k, k < m ∧ dt (f i) (v k) < 0)
    (hgen : ∀ ix f d i, i < 4 → DF v m w ix f d → dt (f i) X ≠ 0) :
    (∃ ix f d, DF v m w ix f d ∧ ∀ i, i < 4 → 0 < dt (f i) X) ∨ ∃ (ix' : Nat → Nat) (f' : Nat → V4) (d' : Int) (i' : Nat), i' < 4 ∧ DF v m w ix' f' d' ∧ dt (f' i') X < 0 ∧ 0 < dt (f' i') C ∧ (∀ j, j < 4 → j ≠ i' → 0 ≤ dt (f' j) X * dt (f' i') C - dt (f' i') X * dt (f' j) C) ∧ (- dt (f' i') X) * dt (f i) C < (- dt (f i) X) * dt (f' i') C := by
  obtain ⟨e, f', d', he, hq, hD, hfi, hfj⟩ := tri_step h i hi hneg
  have hd := h.1.1
  -- the shares at the point of crossing
  have Y : ∀ j, j < 4 → j ≠ i → 0 < dt (f' j) X * dt (f i) C - dt (f i) X * dt (f' j) C := by
    intro j hj4 hji
    have e1 : dt (f' j) X * dt (f i) C - dt (f i) X * dt (f' j) C = (- dt (f i) (v e)) * (dt (f j) X * dt (f i) C - dt (f i) X * dt (f j) C) := by
      rw [hfj j hj4 hji X, hfj j hj4 hji C]
      grind
    rw [e1]
    exact Int.mul_pos (by omega) (hj j hj4 hji)
  have Yi : dt (f' i) X * dt (f i) C - dt (f i) X * dt (f' i) C = 0 := by
    rw [hfi X, hfi C]
    grind
  have Xi : 0 < dt (f' i) X := by
    rw [hfi X]
    have := Int.mul_pos hd (show 0 < - dt (f i) X by omega)
    have e2 : -d * dt (f i) X = d * - dt (f i) X := by grind
    omega
  by_cases hall : ∀ j, j < 4 → 0 < dt (f' j) X
  · exact Or.inl ⟨_, f', d', hD, hall⟩
  · right
    have hex : ∃ j, j ∈ [0, 1, 2, 3] ∧ (j < 4 ∧ dt (f' j) X < 0) := by
      refine Classical.byContradiction fun hno => hall fun j hj4 => ?_
      have hne := hgen _ f' d' j hj4 hD
      have hnn : ¬ dt (f' j) X < 0 := fun hlt => hno ⟨j, by rcases four hj4 with rfl | rfl | rfl | rfl <;> simp, hj4, hlt⟩
      omega
    have hji : ∀ j, dt (f' j) X < 0 → j ≠ i := fun j hlt e => by subst e; omega
    have hCp : ∀ j, j < 4 → dt (f' j) X < 0 → 0 < dt (f' j) C := by
      intro j hj4 hlt
      have y := Y j hj4 (hji j hlt)
      have n1 : dt (f' j) X * dt (f i) C < 0 := Int.mul_neg_of_neg_of_pos hlt hC
      have n2 : 0 < (- dt (f i) X) * dt (f' j) C := by
        have e1 : (- dt (f i) X) * dt (f' j) C = - (dt (f i) X * dt (f' j) C) := by grind
        omega
      exact Int.pos_of_mul_pos_right n2 (by omega)
    obtain ⟨k, hkL, ⟨hk4, hkX⟩, hmin⟩ := fin_min (fun j => dt (f' j) X) (fun j => dt (f' j) C) (fun j => j < 4 ∧ dt (f' j) X < 0) [0, 1, 2, 3] (fun j _ hp => hCp j hp.1 hp.2) hex
    have hkC := hCp k hk4 hkX
    have yk := Y k hk4 (hji k hkX)
    have strict : (- dt (f' k) X) * dt (f i) C < (- dt (f i) X) * dt (f' k) C := by
      have e1 : (- dt (f' k) X) * dt (f i) C = - (dt (f' k) X * dt (f i) C) := by grind
      have e2 : (- dt (f i) X) * dt (f' k) C = - (dt (f i) X * dt (f' k) C) := by grind
      omega
    refine ⟨_, f', d', k, hk4, hD, hkX, hkC, fun j hj4 hjk => ?_, strict⟩
    by_cases c : dt (f' j) X < 0
    · have := hmin j (by rcases four hj4 with rfl | rfl | rfl | rfl <;> simp) ⟨hj4, c⟩
      omega
    · by_cases c2 : 0 ≤ dt (f' j) C
      · have n1 : 0 ≤ dt (f' j) X * dt (f' k) C := Int.mul_nonneg (by omega) (by omega)
        have n2 : 0 ≤ (- dt (f' k) X) * dt (f' j) C := Int.mul_nonneg (by omega) c2
        have e1 : (- dt (f' k) X) * dt (f' j) C = - (dt (f' k) X * dt (f' j) C) := by grind
        omega
      · have yj : 0 ≤ dt (f' j) X * dt (f i) C - dt (f i) X * dt (f' j) C := by
          by_cases ei : j = i
          · subst ei; omega
          · have := Y j hj4 ei; omega
        -- a c ≥ (-x) b, (-X') c < (-x) C', so a C' ≥ (-X') b
        have g : 0 ≤ (dt (f' j) X * dt (f' k) C - dt (f' k) X * dt (f' j) C) * dt (f i) C := by
          have s1 : 0 ≤ (dt (f' j) X * dt (f i) C - dt (f i) X * dt (f' j) C) * dt (f' k) C := Int.mul_nonneg yj (by omega)
          have s2 : 0 ≤ ((- dt (f i) X) * dt (f' k) C - (- dt (f' k) X) * dt (f i) C) * (- dt (f' j) C) := Int.mul_nonneg (by omega) (by omega)
          have e1 : (dt (f' j) X * dt (f' k) C - dt (f' k) X * dt (f' j) C) * dt (f i) C = (dt (f' j) X * dt (f i) C - dt (f i) X * dt (f' j) C) * dt (f' k) C + ((- dt (f i) X) * dt (f' k) C - (- dt (f' k) X) * dt (f i) C) * (- dt (f' j) C) := by grind
          omega
        exact Int.nonneg_of_mul_nonneg_left g hC
