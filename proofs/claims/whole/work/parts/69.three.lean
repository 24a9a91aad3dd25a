/-! three sides about one axis: two of them are the same -/
theorem span3 (a1 a2 a3 b1 b2 b3 c1 c2 c3 : Int) (hdet : c1 * (a2 * b3 - a3 * b2) + c2 * (a3 * b1 - a1 * b3) + c3 * (a1 * b2 - a2 * b1) = 0) :
    ((a2 * b3 - a3 * b2) * (a2 * b3 - a3 * b2) + (a3 * b1 - a1 * b3) * (a3 * b1 - a1 * b3) + (a1 * b2 - a2 * b1) * (a1 * b2 - a2 * b1)) * c1 = ((c2 * b3 - c3 * b2) * (a2 * b3 - a3 * b2) + (c3 * b1 - c1 * b3) * (a3 * b1 - a1 * b3) + (c1 * b2 - c2 * b1) * (a1 * b2 - a2 * b1)) * a1 + ((a2 * c3 - a3 * c2) * (a2 * b3 - a3 * b2) + (a3 * c1 - a1 * c3) * (a3 * b1 - a1 * b3) + (a1 * c2 - a2 * c1) * (a1 * b2 - a2 * b1)) * b1 := by
  grind
theorem two_of_three (p a b n1d2 n1d3 n2d1 n2d3 n3d1 n3d2 n3d3 n1d1 n2d2 : Int) (hp : 0 < p) (e1 : p * n3d1 = a * n1d1 + b * n2d1) (e2 : p * n3d2 = a * n1d2 + b * n2d2) (e3 : p * n3d3 = a * n1d3 + b * n2d3) (z1 : n1d1 = 0) (z2 : n2d2 = 0) (z3 : n3d3 = 0) (l12 : n1d2 < 0) (l21 : n2d1 < 0) (l13 : n1d3 ≤ 0) (l23 : n2d3 ≤ 0) (l31 : n3d1 ≤ 0) (l32 : n3d2 ≤ 0) (hax : ¬ (n1d3 = 0 ∧ n2d3 = 0)) : (a = 0 ∧ 0 ≤ b) ∨ (b = 0 ∧ 0 ≤ a) := by
  subst z1; subst z2; subst z3
  have hb : 0 ≤ b := by
    have h1 : p * n3d1 ≤ 0 := Int.mul_nonpos_of_nonneg_of_nonpos (Int.le_of_lt hp) l31
    have h2 : b * n2d1 ≤ 0 := by simp at e1; omega
    refine Classical.byContradiction fun hn => ?_
    have := Int.mul_pos_of_neg_of_neg (show b < 0 by omega) l21
    omega
  have ha : 0 ≤ a := by
    have h1 : p * n3d2 ≤ 0 := Int.mul_nonpos_of_nonneg_of_nonpos (Int.le_of_lt hp) l32
    have h2 : a * n1d2 ≤ 0 := by simp at e2; omega
    refine Classical.byContradiction fun hn => ?_
    have := Int.mul_pos_of_neg_of_neg (show a < 0 by omega) l12
    omega
  have s1 : a * n1d3 ≤ 0 := Int.mul_nonpos_of_nonneg_of_nonpos ha l13
  have s2 : b * n2d3 ≤ 0 := Int.mul_nonpos_of_nonneg_of_nonpos hb l23
  have t1 : a * n1d3 = 0 := by simp at e3; omega
  have t2 : b * n2d3 = 0 := by simp at e3; omega
  rcases Int.mul_eq_zero.mp t1 with h | h
  · exact Or.inl ⟨h, hb⟩
  · rcases Int.mul_eq_zero.mp t2 with h2 | h2
    · exact Or.inr ⟨h2, ha⟩
    · exact absurd ⟨h, h2⟩ hax
