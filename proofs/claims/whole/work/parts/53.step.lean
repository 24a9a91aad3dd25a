abbrev updN (ix : Nat → Nat) (i e : Nat) : Nat → Nat := fun j => if j = i then e else ix j
theorem pg_alg (d q g0 we w0 w1 w2 w3 a0 a1 a2 a3 e1 e2 e3 : Int) (hg : g0 = w0 * q + w1 * e1 + w2 * e2 + w3 * e3) : we * (-d * a0) + w1 * (-q * a1 + e1 * a0) + w2 * (-q * a2 + e2 * a0) + w3 * (-q * a3 + e3 * a0) = -q * (w0 * a0 + w1 * a1 + w2 * a2 + w3 * a3) - (d * we - g0) * a0 := by
  subst hg; grind
theorem piv_g (f : Nat → V4) (w : Nat → Int) (ix : Nat → Nat) (d : Int) (i : Nat) (hi : i < 4) (e : Nat) (y x : V4) :
    dt (gf (fun j => if j = i then sm (-d) (f i) else ad (sm (- dt (f i) y) (f j)) (sm (dt (f j) y) (f i))) w (updN ix i e)) x = - dt (f i) y * dt (gf f w ix) x - (d * w e - dt (gf f w ix) y) * dt (f i) x := by
  have g1 : dt (gf f w ix) x = w (ix 0) * dt (f 0) x + w (ix 1) * dt (f 1) x + w (ix 2) * dt (f 2) x + w (ix 3) * dt (f 3) x := t4_dt _ _ _
  have g2 : dt (gf f w ix) y = w (ix 0) * dt (f 0) y + w (ix 1) * dt (f 1) y + w (ix 2) * dt (f 2) y + w (ix 3) * dt (f 3) y := t4_dt _ _ _
  have r1 : ∀ j, dt (sm (-d) (f j)) x = -d * dt (f j) x := fun j => sm_dt _ _ _
  have r2 : ∀ i j, dt (ad (sm (- dt (f i) y) (f j)) (sm (dt (f j) y) (f i))) x = - dt (f i) y * dt (f j) x + dt (f j) y * dt (f i) x := fun i j => by rw [ad_dt, sm_dt, sm_dt]
  rw [gf, t4_dt, s4_eq]
  rcases four hi with rfl | rfl | rfl | rfl
  · simp only [if_pos, if_neg (show ¬ (1 : Nat) = 0 by decide), if_neg (show ¬ (2 : Nat) = 0 by decide), if_neg (show ¬ (3 : Nat) = 0 by decide), r1, r2]
    rw [g1, g2]
    grind
  · simp only [if_pos, if_neg (show ¬ (0 : Nat) = 1 by decide), if_neg (show ¬ (2 : Nat) = 1 by decide), if_neg (show ¬ (3 : Nat) = 1 by decide), r1, r2]
    rw [g1, g2]
    grind
  · simp only [if_pos, if_neg (show ¬ (0 : Nat) = 2 by decide), if_neg (show ¬ (1 : Nat) = 2 by decide), if_neg (show ¬ (3 : Nat) = 2 by decide), r1, r2]
    rw [g1, g2]
    grind
  · simp only [if_pos, if_neg (show ¬ (0 : Nat) = 3 by decide), if_neg (show ¬ (1 : Nat) = 3 by decide), if_neg (show ¬ (2 : Nat) = 3 by decide), r1, r2]
    rw [g1, g2]
    grind
theorem tri_step {v : Nat → V4} {m : Nat} {w : Nat → Int} {ix : Nat → Nat} {f : Nat → V4} {d : Int} (h : DF v m w ix f d) (i : Nat) (hi : i < 4) (hneg : ∃ k, k < m ∧ dt (f i) (v k) < 0) :
    ∃ (e : Nat) (f' : Nat → V4) (d' : Int), e < m ∧ dt (f i) (v e) < 0 ∧ DF v m w (updN ix i e) f' d' ∧ (∀ x, dt (f' i) x = -d * dt (f i) x) ∧ ∀ j, j < 4 → j ≠ i → ∀ x, dt (f' j) x = - dt (f i) (v e) * dt (f j) x + dt (f j) (v e) * dt (f i) x := by
  obtain ⟨h1, h2, h3⟩ := h
  obtain ⟨k0, hk0, hk1⟩ := hneg
  obtain ⟨e, he, ⟨he1, he2⟩, hmin⟩ := fin_min (fun k => d * w k - dt (gf f w ix) (v k)) (fun k => - dt (f i) (v k)) (fun k => k < m ∧ dt (f i) (v k) < 0) (List.range m) (fun x _ hx => by have := hx.2; omega) ⟨k0, List.mem_range.mpr hk0, hk0, hk1⟩
  refine ⟨e, fun j => if j = i then sm (-d) (f i) else ad (sm (- dt (f i) (v e)) (f j)) (sm (dt (f j) (v e)) (f i)), d * (- dt (f i) (v e)), he1, he2, ⟨?_, fun j hj => ?_, fun k hk => ?_⟩, fun x => ?_, fun j hj hji x => ?_⟩
  · have := Fr_pivot h1 i hi (v e) he2
    have eq : (fun j => v (updN ix i e j)) = (fun j => if j = i then v e else v (ix j)) := by
      funext j
      show v (if j = i then e else ix j) = _
      by_cases c : j = i
      · rw [if_pos c, if_pos c]
      · rw [if_neg c, if_neg c]
    rw [eq]
    exact this
  · show (if j = i then e else ix j) < m
    split
    · exact he1
    · exact h2 j hj
  · rw [piv_g f w ix d i hi e (v e) (v k)]
    have hre : 0 ≤ d * w e - dt (gf f w ix) (v e) := by have := h3 e he1; omega
    have hrk : 0 ≤ d * w k - dt (gf f w ix) (v k) := by have := h3 k hk; omega
    by_cases c : dt (f i) (v k) < 0
    · have hm := hmin k (List.mem_range.mpr hk) ⟨hk, c⟩
      have e1 : d * (- dt (f i) (v e)) * w k - (- dt (f i) (v e) * dt (gf f w ix) (v k) - (d * w e - dt (gf f w ix) (v e)) * dt (f i) (v k)) = (d * w k - dt (gf f w ix) (v k)) * (- dt (f i) (v e)) - (d * w e - dt (gf f w ix) (v e)) * (- dt (f i) (v k)) := by grind
      omega
    · have p1 : 0 ≤ (d * w k - dt (gf f w ix) (v k)) * (- dt (f i) (v e)) := Int.mul_nonneg hrk (by omega)
      have p2 : 0 ≤ (d * w e - dt (gf f w ix) (v e)) * dt (f i) (v k) := Int.mul_nonneg hre (by omega)
      have e1 : d * (- dt (f i) (v e)) * w k - (- dt (f i) (v e) * dt (gf f w ix) (v k) - (d * w e - dt (gf f w ix) (v e)) * dt (f i) (v k)) = (d * w k - dt (gf f w ix) (v k)) * (- dt (f i) (v e)) + (d * w e - dt (gf f w ix) (v e)) * dt (f i) (v k) := by grind
      omega
  · simp only [if_pos]
    exact sm_dt _ _ _
  · simp only [if_neg hji]
    rw [ad_dt, sm_dt, sm_dt]
