/-! weights on the points; frames whose weights lie nowhere above -/
def gf (f : Nat → V4) (w : Nat → Int) (ix : Nat → Nat) : V4 := t4 (fun j => w (ix j)) f
def DF (v : Nat → V4) (m : Nat) (w : Nat → Int) (ix : Nat → Nat) (f : Nat → V4) (d : Int) : Prop := Fr (fun i => v (ix i)) f d ∧ (∀ i, i < 4 → ix i < m) ∧ ∀ k, k < m → dt (gf f w ix) (v k) ≤ d * w k
theorem s4_eq (f : Nat → Int) : s4 f = f 0 + f 1 + f 2 + f 3 := rfl
theorem tri_uni {v : Nat → V4} {m : Nat} {w : Nat → Int} {ix jx : Nat → Nat} {f f' : Nat → V4} {d d' : Int} (h : DF v m w ix f d) (h' : DF v m w jx f' d') (x : V4) (hx : ∀ i, i < 4 → 0 < dt (f i) x) (hx' : ∀ i, i < 4 → 0 < dt (f' i) x) : ∀ i, i < 4 → dt (gf f' w jx) (v (ix i)) = d' * w (ix i) := by
  obtain ⟨h1, h2, h3⟩ := h
  obtain ⟨k1, k2, k3⟩ := h'
  have A := Fr_dt h1 (gf f' w jx) x
  have B := Fr_dt k1 (gf f w ix) x
  have gx : dt (gf f w ix) x = s4 (fun i => w (ix i) * dt (f i) x) := t4_dt _ _ _
  have gx' : dt (gf f' w jx) x = s4 (fun i => w (jx i) * dt (f' i) x) := t4_dt _ _ _
  rw [s4_eq] at A B gx gx'
  have p : ∀ i, i < 4 → 0 ≤ dt (f i) x * (d' * w (ix i) - dt (gf f' w jx) (v (ix i))) := fun i hi => Int.mul_nonneg (Int.le_of_lt (hx i hi)) (by have := k3 _ (h2 i hi); omega)
  have q : ∀ i, i < 4 → 0 ≤ dt (f' i) x * (d * w (jx i) - dt (gf f w ix) (v (jx i))) := fun i hi => Int.mul_nonneg (Int.le_of_lt (hx' i hi)) (by have := h3 _ (k2 i hi); omega)
  have hz : ∀ i, i < 4 → dt (f i) x * (d' * w (ix i) - dt (gf f' w jx) (v (ix i))) = 0 := by
    have p0 := p 0 (by omega)
    have p1 := p 1 (by omega)
    have p2 := p 2 (by omega)
    have p3 := p 3 (by omega)
    have q0 := q 0 (by omega)
    have q1 := q 1 (by omega)
    have q2 := q 2 (by omega)
    have q3 := q 3 (by omega)
    have S : (dt (f 0) x * (d' * w (ix 0) - dt (gf f' w jx) (v (ix 0))) + dt (f 1) x * (d' * w (ix 1) - dt (gf f' w jx) (v (ix 1))) + dt (f 2) x * (d' * w (ix 2) - dt (gf f' w jx) (v (ix 2))) + dt (f 3) x * (d' * w (ix 3) - dt (gf f' w jx) (v (ix 3)))) + (dt (f' 0) x * (d * w (jx 0) - dt (gf f w ix) (v (jx 0))) + dt (f' 1) x * (d * w (jx 1) - dt (gf f w ix) (v (jx 1))) + dt (f' 2) x * (d * w (jx 2) - dt (gf f w ix) (v (jx 2))) + dt (f' 3) x * (d * w (jx 3) - dt (gf f w ix) (v (jx 3)))) = 0 := by
      have A' : dt (f 0) x * dt (gf f' w jx) (v (ix 0)) + dt (f 1) x * dt (gf f' w jx) (v (ix 1)) + dt (f 2) x * dt (gf f' w jx) (v (ix 2)) + dt (f 3) x * dt (gf f' w jx) (v (ix 3)) = d * dt (gf f' w jx) x := A.symm
      have B' : dt (f' 0) x * dt (gf f w ix) (v (jx 0)) + dt (f' 1) x * dt (gf f w ix) (v (jx 1)) + dt (f' 2) x * dt (gf f w ix) (v (jx 2)) + dt (f' 3) x * dt (gf f w ix) (v (jx 3)) = d' * dt (gf f w ix) x := B.symm
      rw [gx'] at A'
      rw [gx] at B'
      clear p q p0 p1 p2 p3 q0 q1 q2 q3 A B gx gx' h1 h2 h3 k1 k2 k3 hx hx'
      generalize dt (f 0) x = a0 at *
      generalize dt (f 1) x = a1 at *
      generalize dt (f 2) x = a2 at *
      generalize dt (f 3) x = a3 at *
      generalize dt (f' 0) x = c0 at *
      generalize dt (f' 1) x = c1 at *
      generalize dt (f' 2) x = c2 at *
      generalize dt (f' 3) x = c3 at *
      generalize dt (gf f' w jx) (v (ix 0)) = e0 at *
      generalize dt (gf f' w jx) (v (ix 1)) = e1 at *
      generalize dt (gf f' w jx) (v (ix 2)) = e2 at *
      generalize dt (gf f' w jx) (v (ix 3)) = e3 at *
      generalize dt (gf f w ix) (v (jx 0)) = g0 at *
      generalize dt (gf f w ix) (v (jx 1)) = g1 at *
      generalize dt (gf f w ix) (v (jx 2)) = g2 at *
      generalize dt (gf f w ix) (v (jx 3)) = g3 at *
      generalize w (ix 0) = w0 at *
      generalize w (ix 1) = w1 at *
      generalize w (ix 2) = w2 at *
      generalize w (ix 3) = w3 at *
      generalize w (jx 0) = z0 at *
      generalize w (jx 1) = z1 at *
      generalize w (jx 2) = z2 at *
      generalize w (jx 3) = z3 at *
      grind
    intro i hi
    rcases four hi with rfl | rfl | rfl | rfl <;> omega
  intro i hi
  rcases Int.mul_eq_zero.mp (hz i hi) with h | h
  · have := hx i hi
    omega
  · omega
/-- the smallest of finitely many shares -/
theorem fin_min {α : Type} (num den : α → Int) (P : α → Prop) : ∀ (L : List α), (∀ x ∈ L, P x → 0 < den x) → (∃ x, x ∈ L ∧ P x) → ∃ x, x ∈ L ∧ P x ∧ ∀ y, y ∈ L → P y → num x * den y ≤ num y * den x := by
  intro L
  induction L with
  | nil => rintro _ ⟨x, h, _⟩; cases h
  | cons a L ih =>
    intro hd hex
    by_cases hL : ∃ x, x ∈ L ∧ P x
    · obtain ⟨x, hx, hPx, hmin⟩ := ih (fun x hx => hd x (List.mem_cons_of_mem _ hx)) hL
      by_cases ha : P a ∧ num a * den x < num x * den a
      · refine ⟨a, List.mem_cons_self, ha.1, fun y hy hPy => ?_⟩
        rcases List.mem_cons.mp hy with rfl | hy
        · exact Int.le_refl _
        · have h1 := hmin y hy hPy
          have d1 := hd a List.mem_cons_self ha.1
          have d2 := hd x (List.mem_cons_of_mem _ hx) hPx
          have d3 := hd y (List.mem_cons_of_mem _ hy) hPy
          have h2 : num a * den x * den y ≤ num x * den a * den y := Int.mul_le_mul_of_nonneg_right (Int.le_of_lt ha.2) (Int.le_of_lt d3)
          have h3 : num x * den y * den a ≤ num y * den x * den a := Int.mul_le_mul_of_nonneg_right h1 (Int.le_of_lt d1)
          have h4 : (num a * den y) * den x ≤ (num y * den a) * den x := by
            have e1 : num a * den y * den x = num a * den x * den y := by grind
            have e2 : num y * den a * den x = num y * den x * den a := by grind
            have e3 : num x * den a * den y = num x * den y * den a := by grind
            rw [e1, e2]
            omega
          exact Int.le_of_mul_le_mul_right h4 d2
      · refine ⟨x, List.mem_cons_of_mem _ hx, hPx, fun y hy hPy => ?_⟩
        rcases List.mem_cons.mp hy with rfl | hy
        · exact Int.not_lt.mp (fun h => ha ⟨hPy, h⟩)
        · exact hmin y hy hPy
    · obtain ⟨x, hx, hPx⟩ := hex
      rcases List.mem_cons.mp hx with rfl | hx
      · refine ⟨x, List.mem_cons_self, hPx, fun y hy hPy => ?_⟩
        rcases List.mem_cons.mp hy with rfl | hy
        · exact Int.le_refl _
        · exact absurd ⟨y, hy, hPy⟩ hL
      · exact absurd ⟨x, hx, hPx⟩ hL
