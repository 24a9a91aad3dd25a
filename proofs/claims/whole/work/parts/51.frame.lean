theorem t4_c1 (k : Nat → Int) (b : Nat → V4) : (t4 k b).1 = k 0 * (b 0).1 + k 1 * (b 1).1 + (k 2 * (b 2).1 + k 3 * (b 3).1) := rfl
theorem t4_c2 (k : Nat → Int) (b : Nat → V4) : (t4 k b).2.1 = k 0 * (b 0).2.1 + k 1 * (b 1).2.1 + (k 2 * (b 2).2.1 + k 3 * (b 3).2.1) := rfl
theorem t4_c3 (k : Nat → Int) (b : Nat → V4) : (t4 k b).2.2.1 = k 0 * (b 0).2.2.1 + k 1 * (b 1).2.2.1 + (k 2 * (b 2).2.2.1 + k 3 * (b 3).2.2.1) := rfl
theorem t4_c4 (k : Nat → Int) (b : Nat → V4) : (t4 k b).2.2.2 = k 0 * (b 0).2.2.2 + k 1 * (b 1).2.2.2 + (k 2 * (b 2).2.2.2 + k 3 * (b 3).2.2.2) := rfl
theorem four {i : Nat} (h : i < 4) : i = 0 ∨ i = 1 ∨ i = 2 ∨ i = 3 := by omega
/-- the shares are what they are, whatever the divisor -/
theorem Fr_same {b f f' : Nat → V4} {d d' : Int} (h : Fr b f d) (h' : Fr b f' d') (i : Nat) (hi : i < 4) (x : V4) : d * dt (f' i) x = d' * dt (f i) x := by
  have e1 : dt (f' i) (sm d x) = dt (f' i) (t4 (fun j => dt (f j) x) b) := by rw [h.2.2 x]
  rw [dt_sm, dt_t4] at e1
  have e2 : d * dt (f' i) x = dt (f 0) x * dt (f' i) (b 0) + dt (f 1) x * dt (f' i) (b 1) + dt (f 2) x * dt (f' i) (b 2) + dt (f 3) x * dt (f' i) (b 3) := e1
  rw [h'.2.1 i 0 hi (by omega), h'.2.1 i 1 hi (by omega), h'.2.1 i 2 hi (by omega), h'.2.1 i 3 hi (by omega)] at e2
  rcases four hi with rfl | rfl | rfl | rfl <;> simp at e2 <;> rw [e2] <;> exact Int.mul_comm _ _
theorem t4_dt (k : Nat → Int) (f : Nat → V4) (x : V4) : dt (t4 k f) x = s4 (fun i => k i * dt (f i) x) := by
  unfold t4 s4
  rw [ad_dt, ad_dt, ad_dt, sm_dt, sm_dt, sm_dt, sm_dt]
  grind
/-- a form on a vector by its shares -/
theorem Fr_dt {b f : Nat → V4} {d : Int} (h : Fr b f d) (g x : V4) : d * dt g x = s4 (fun i => dt (f i) x * dt g (b i)) := by
  rw [← dt_sm, h.2.2 x, dt_t4]
theorem piv0 (d X E b0 b1 b2 b3 x0 x1 x2 x3 e0 e1 e2 e3 : Int) (hx : d * X = x0 * b0 + x1 * b1 + (x2 * b2 + x3 * b3)) (he : d * E = e0 * b0 + e1 * b1 + (e2 * b2 + e3 * b3)) : d * (-e0) * X = (-d * x0) * E + (-e0 * x1 + e1 * x0) * b1 + ((-e0 * x2 + e2 * x0) * b2 + (-e0 * x3 + e3 * x0) * b3) := by
  have h1 : d * (-e0) * X = -e0 * (d * X) := by grind
  have h2 : (-d * x0) * E = -x0 * (d * E) := by grind
  rw [h1, h2, hx, he]
  grind
theorem piv1 (d X E b0 b1 b2 b3 x0 x1 x2 x3 e0 e1 e2 e3 : Int) (hx : d * X = x0 * b0 + x1 * b1 + (x2 * b2 + x3 * b3)) (he : d * E = e0 * b0 + e1 * b1 + (e2 * b2 + e3 * b3)) : d * (-e1) * X = (-e1 * x0 + e0 * x1) * b0 + (-d * x1) * E + ((-e1 * x2 + e2 * x1) * b2 + (-e1 * x3 + e3 * x1) * b3) := by
  have h1 : d * (-e1) * X = -e1 * (d * X) := by grind
  have h2 : (-d * x1) * E = -x1 * (d * E) := by grind
  rw [h1, h2, hx, he]
  grind
theorem piv2 (d X E b0 b1 b2 b3 x0 x1 x2 x3 e0 e1 e2 e3 : Int) (hx : d * X = x0 * b0 + x1 * b1 + (x2 * b2 + x3 * b3)) (he : d * E = e0 * b0 + e1 * b1 + (e2 * b2 + e3 * b3)) : d * (-e2) * X = (-e2 * x0 + e0 * x2) * b0 + (-e2 * x1 + e1 * x2) * b1 + ((-d * x2) * E + (-e2 * x3 + e3 * x2) * b3) := by
  have h1 : d * (-e2) * X = -e2 * (d * X) := by grind
  have h2 : (-d * x2) * E = -x2 * (d * E) := by grind
  rw [h1, h2, hx, he]
  grind
theorem piv3 (d X E b0 b1 b2 b3 x0 x1 x2 x3 e0 e1 e2 e3 : Int) (hx : d * X = x0 * b0 + x1 * b1 + (x2 * b2 + x3 * b3)) (he : d * E = e0 * b0 + e1 * b1 + (e2 * b2 + e3 * b3)) : d * (-e3) * X = (-e3 * x0 + e0 * x3) * b0 + (-e3 * x1 + e1 * x3) * b1 + ((-e3 * x2 + e2 * x3) * b2 + (-d * x3) * E) := by
  have h1 : d * (-e3) * X = -e3 * (d * X) := by grind
  have h2 : (-d * x3) * E = -x3 * (d * E) := by grind
  rw [h1, h2, hx, he]
  grind
theorem Fr_pivot {b f : Nat → V4} {d : Int} (h : Fr b f d) (i : Nat) (hi : i < 4) (e : V4) (hq : dt (f i) e < 0) :
    Fr (fun j => if j = i then e else b j) (fun j => if j = i then sm (-d) (f i) else ad (sm (- dt (f i) e) (f j)) (sm (dt (f j) e) (f i))) (d * (- dt (f i) e)) := by
  obtain ⟨hd, h1, h2⟩ := h
  refine ⟨Int.mul_pos hd (by omega), ?_, ?_⟩
  · intro j k hj hk
    have hjk := h1 j k hj hk
    have hik := h1 i k hi hk
    clear h1 h2
    by_cases ej : j = i
    · subst ej
      by_cases ek : k = j
      · subst ek
        simp only [if_pos]
        rw [sm_dt]
        generalize dt (f k) e = q
        grind
      · have ek' : ¬ j = k := fun h => ek h.symm
        rw [if_neg ek'] at hjk
        simp only [if_pos, if_neg ek, if_neg ek']
        rw [sm_dt, hjk]
        simp
    · by_cases ek : k = i
      · subst ek
        simp only [if_pos, if_neg ej]
        rw [ad_dt, sm_dt, sm_dt]
        generalize dt (f k) e = q
        generalize dt (f j) e = r
        grind
      · have ek' : ¬ i = k := fun h => ek h.symm
        rw [if_neg ek'] at hik
        simp only [if_neg ej, if_neg ek]
        rw [ad_dt, sm_dt, sm_dt, hjk, hik]
        generalize dt (f i) e = q
        generalize dt (f j) e = r
        by_cases ejk : j = k
        · rw [if_pos ejk, if_pos ejk]; clear hjk hik hq; grind
        · rw [if_neg ejk, if_neg ejk]; simp
  · intro x
    have hx := h2 x
    have he := h2 e
    have x1 : d * x.1 = _ := congrArg (fun v : V4 => v.1) hx
    have x2 : d * x.2.1 = _ := congrArg (fun v : V4 => v.2.1) hx
    have x3 : d * x.2.2.1 = _ := congrArg (fun v : V4 => v.2.2.1) hx
    have x4 : d * x.2.2.2 = _ := congrArg (fun v : V4 => v.2.2.2) hx
    have e1 : d * e.1 = _ := congrArg (fun v : V4 => v.1) he
    have e2 : d * e.2.1 = _ := congrArg (fun v : V4 => v.2.1) he
    have e3 : d * e.2.2.1 = _ := congrArg (fun v : V4 => v.2.2.1) he
    have e4 : d * e.2.2.2 = _ := congrArg (fun v : V4 => v.2.2.2) he
    simp only [t4_c1, t4_c2, t4_c3, t4_c4] at x1 x2 x3 x4 e1 e2 e3 e4
    have r1 : ∀ j, dt (sm (-d) (f j)) x = -d * dt (f j) x := fun j => sm_dt _ _ _
    have r2 : ∀ i j, dt (ad (sm (- dt (f i) e) (f j)) (sm (dt (f j) e) (f i))) x = - dt (f i) e * dt (f j) x + dt (f j) e * dt (f i) x := fun i j => by rw [ad_dt, sm_dt, sm_dt]
    rcases four hi with rfl | rfl | rfl | rfl
    · refine v4_ext ?_ ?_ ?_ ?_
      · rw [t4_c1]
        simp only [if_pos, if_neg (show ¬ (0 : Nat) = 1 by decide), if_neg (show ¬ (0 : Nat) = 2 by decide), if_neg (show ¬ (0 : Nat) = 3 by decide), if_neg (show ¬ (1 : Nat) = 0 by decide), if_neg (show ¬ (1 : Nat) = 2 by decide), if_neg (show ¬ (1 : Nat) = 3 by decide), if_neg (show ¬ (2 : Nat) = 0 by decide), if_neg (show ¬ (2 : Nat) = 1 by decide), if_neg (show ¬ (2 : Nat) = 3 by decide), if_neg (show ¬ (3 : Nat) = 0 by decide), if_neg (show ¬ (3 : Nat) = 1 by decide), if_neg (show ¬ (3 : Nat) = 2 by decide), r1, r2]
        exact piv0 d x.1 e.1 _ _ _ _ _ _ _ _ _ _ _ _ x1 e1
      · rw [t4_c2]
        simp only [if_pos, if_neg (show ¬ (0 : Nat) = 1 by decide), if_neg (show ¬ (0 : Nat) = 2 by decide), if_neg (show ¬ (0 : Nat) = 3 by decide), if_neg (show ¬ (1 : Nat) = 0 by decide), if_neg (show ¬ (1 : Nat) = 2 by decide), if_neg (show ¬ (1 : Nat) = 3 by decide), if_neg (show ¬ (2 : Nat) = 0 by decide), if_neg (show ¬ (2 : Nat) = 1 by decide), if_neg (show ¬ (2 : Nat) = 3 by decide), if_neg (show ¬ (3 : Nat) = 0 by decide), if_neg (show ¬ (3 : Nat) = 1 by decide), if_neg (show ¬ (3 : Nat) = 2 by decide), r1, r2]
        exact piv0 d x.2.1 e.2.1 _ _ _ _ _ _ _ _ _ _ _ _ x2 e2
      · rw [t4_c3]
        simp only [if_pos, if_neg (show ¬ (0 : Nat) = 1 by decide), if_neg (show ¬ (0 : Nat) = 2 by decide), if_neg (show ¬ (0 : Nat) = 3 by decide), if_neg (show ¬ (1 : Nat) = 0 by decide), if_neg (show ¬ (1 : Nat) = 2 by decide), if_neg (show ¬ (1 : Nat) = 3 by decide), if_neg (show ¬ (2 : Nat) = 0 by decide), if_neg (show ¬ (2 : Nat) = 1 by decide), if_neg (show ¬ (2 : Nat) = 3 by decide), if_neg (show ¬ (3 : Nat) = 0 by decide), if_neg (show ¬ (3 : Nat) = 1 by decide), if_neg (show ¬ (3 : Nat) = 2 by decide), r1, r2]
        exact piv0 d x.2.2.1 e.2.2.1 _ _ _ _ _ _ _ _ _ _ _ _ x3 e3
      · rw [t4_c4]
        simp only [if_pos, if_neg (show ¬ (0 : Nat) = 1 by decide), if_neg (show ¬ (0 : Nat) = 2 by decide), if_neg (show ¬ (0 : Nat) = 3 by decide), if_neg (show ¬ (1 : Nat) = 0 by decide), if_neg (show ¬ (1 : Nat) = 2 by decide), if_neg (show ¬ (1 : Nat) = 3 by decide), if_neg (show ¬ (2 : Nat) = 0 by decide), if_neg (show ¬ (2 : Nat) = 1 by decide), if_neg (show ¬ (2 : Nat) = 3 by decide), if_neg (show ¬ (3 : Nat) = 0 by decide), if_neg (show ¬ (3 : Nat) = 1 by decide), if_neg (show ¬ (3 : Nat) = 2 by decide), r1, r2]
        exact piv0 d x.2.2.2 e.2.2.2 _ _ _ _ _ _ _ _ _ _ _ _ x4 e4
    · refine v4_ext ?_ ?_ ?_ ?_
      · rw [t4_c1]
        simp only [if_pos, if_neg (show ¬ (0 : Nat) = 1 by decide), if_neg (show ¬ (0 : Nat) = 2 by decide), if_neg (show ¬ (0 : Nat) = 3 by decide), if_neg (show ¬ (1 : Nat) = 0 by decide), if_neg (show ¬ (1 : Nat) = 2 by decide), if_neg (show ¬ (1 : Nat) = 3 by decide), if_neg (show ¬ (2 : Nat) = 0 by decide), if_neg (show ¬ (2 : Nat) = 1 by decide), if_neg (show ¬ (2 : Nat) = 3 by decide), if_neg (show ¬ (3 : Nat) = 0 by decide), if_neg (show ¬ (3 : Nat) = 1 by decide), if_neg (show ¬ (3 : Nat) = 2 by decide), r1, r2]
        exact piv1 d x.1 e.1 _ _ _ _ _ _ _ _ _ _ _ _ x1 e1
      · rw [t4_c2]
        simp only [if_pos, if_neg (show ¬ (0 : Nat) = 1 by decide), if_neg (show ¬ (0 : Nat) = 2 by decide), if_neg (show ¬ (0 : Nat) = 3 by decide), if_neg (show ¬ (1 : Nat) = 0 by decide), if_neg (show ¬ (1 : Nat) = 2 by decide), if_neg (show ¬ (1 : Nat) = 3 by decide), if_neg (show ¬ (2 : Nat) = 0 by decide), if_neg (show ¬ (2 : Nat) = 1 by decide), if_neg (show ¬ (2 : Nat) = 3 by decide), if_neg (show ¬ (3 : Nat) = 0 by decide), if_neg (show ¬ (3 : Nat) = 1 by decide), if_neg (show ¬ (3 : Nat) = 2 by decide), r1, r2]
        exact piv1 d x.2.1 e.2.1 _ _ _ _ _ _ _ _ _ _ _ _ x2 e2
      · rw [t4_c3]
        simp only [if_pos, if_neg (show ¬ (0 : Nat) = 1 by decide), if_neg (show ¬ (0 : Nat) = 2 by decide), if_neg (show ¬ (0 : Nat) = 3 by decide), if_neg (show ¬ (1 : Nat) = 0 by decide), if_neg (show ¬ (1 : Nat) = 2 by decide), if_neg (show ¬ (1 : Nat) = 3 by decide), if_neg (show ¬ (2 : Nat) = 0 by decide), if_neg (show ¬ (2 : Nat) = 1 by decide), if_neg (show ¬ (2 : Nat) = 3 by decide), if_neg (show ¬ (3 : Nat) = 0 by decide), if_neg (show ¬ (3 : Nat) = 1 by decide), if_neg (show ¬ (3 : Nat) = 2 by decide), r1, r2]
        exact piv1 d x.2.2.1 e.2.2.1 _ _ _ _ _ _ _ _ _ _ _ _ x3 e3
      · rw [t4_c4]
        simp only [if_pos, if_neg (show ¬ (0 : Nat) = 1 by decide), if_neg (show ¬ (0 : Nat) = 2 by decide), if_neg (show ¬ (0 : Nat) = 3 by decide), if_neg (show ¬ (1 : Nat) = 0 by decide), if_neg (show ¬ (1 : Nat) = 2 by decide), if_neg (show ¬ (1 : Nat) = 3 by decide), if_neg (show ¬ (2 : Nat) = 0 by decide), if_neg (show ¬ (2 : Nat) = 1 by decide), if_neg (show ¬ (2 : Nat) = 3 by decide), if_neg (show ¬ (3 : Nat) = 0 by decide), if_neg (show ¬ (3 : Nat) = 1 by decide), if_neg (show ¬ (3 : Nat) = 2 by decide), r1, r2]
        exact piv1 d x.2.2.2 e.2.2.2 _ _ _ _ _ _ _ _ _ _ _ _ x4 e4
    · refine v4_ext ?_ ?_ ?_ ?_
      · rw [t4_c1]
        simp only [if_pos, if_neg (show ¬ (0 : Nat) = 1 by decide), if_neg (show ¬ (0 : Nat) = 2 by decide), if_neg (show ¬ (0 : Nat) = 3 by decide), if_neg (show ¬ (1 : Nat) = 0 by decide), if_neg (show ¬ (1 : Nat) = 2 by decide), if_neg (show ¬ (1 : Nat) = 3 by decide), if_neg (show ¬ (2 : Nat) = 0 by decide), if_neg (show ¬ (2 : Nat) = 1 by decide), if_neg (show ¬ (2 : Nat) = 3 by decide), if_neg (show ¬ (3 : Nat) = 0 by decide), if_neg (show ¬ (3 : Nat) = 1 by decide), if_neg (show ¬ (3 : Nat) = 2 by decide), r1, r2]
        exact piv2 d x.1 e.1 _ _ _ _ _ _ _ _ _ _ _ _ x1 e1
      · rw [t4_c2]
        simp only [if_pos, if_neg (show ¬ (0 : Nat) = 1 by decide), if_neg (show ¬ (0 : Nat) = 2 by decide), if_neg (show ¬ (0 : Nat) = 3 by decide), if_neg (show ¬ (1 : Nat) = 0 by decide), if_neg (show ¬ (1 : Nat) = 2 by decide), if_neg (show ¬ (1 : Nat) = 3 by decide), if_neg (show ¬ (2 : Nat) = 0 by decide), if_neg (show ¬ (2 : Nat) = 1 by decide), if_neg (show ¬ (2 : Nat) = 3 by decide), if_neg (show ¬ (3 : Nat) = 0 by decide), if_neg (show ¬ (3 : Nat) = 1 by decide), if_neg (show ¬ (3 : Nat) = 2 by decide), r1, r2]
        exact piv2 d x.2.1 e.2.1 _ _ _ _ _ _ _ _ _ _ _ _ x2 e2
      · rw [t4_c3]
        simp only [if_pos, if_neg (show ¬ (0 : Nat) = 1 by decide), if_neg (show ¬ (0 : Nat) = 2 by decide), if_neg (show ¬ (0 : Nat) = 3 by decide), if_neg (show ¬ (1 : Nat) = 0 by decide), if_neg (show ¬ (1 : Nat) = 2 by decide), if_neg (show ¬ (1 : Nat) = 3 by decide), if_neg (show ¬ (2 : Nat) = 0 by decide), if_neg (show ¬ (2 : Nat) = 1 by decide), if_neg (show ¬ (2 : Nat) = 3 by decide), if_neg (show ¬ (3 : Nat) = 0 by decide), if_neg (show ¬ (3 : Nat) = 1 by decide), if_neg (show ¬ (3 : Nat) = 2 by decide), r1, r2]
        exact piv2 d x.2.2.1 e.2.2.1 _ _ _ _ _ _ _ _ _ _ _ _ x3 e3
      · rw [t4_c4]
        simp only [if_pos, if_neg (show ¬ (0 : Nat) = 1 by decide), if_neg (show ¬ (0 : Nat) = 2 by decide), if_neg (show ¬ (0 : Nat) = 3 by decide), if_neg (show ¬ (1 : Nat) = 0 by decide), if_neg (show ¬ (1 : Nat) = 2 by decide), if_neg (show ¬ (1 : Nat) = 3 by decide), if_neg (show ¬ (2 : Nat) = 0 by decide), if_neg (show ¬ (2 : Nat) = 1 by decide), if_neg (show ¬ (2 : Nat) = 3 by decide), if_neg (show ¬ (3 : Nat) = 0 by decide), if_neg (show ¬ (3 : Nat) = 1 by decide), if_neg (show ¬ (3 : Nat) = 2 by decide), r1, r2]
        exact piv2 d x.2.2.2 e.2.2.2 _ _ _ _ _ _ _ _ _ _ _ _ x4 e4
    · refine v4_ext ?_ ?_ ?_ ?_
      · rw [t4_c1]
        simp only [if_pos, if_neg (show ¬ (0 : Nat) = 1 by decide), if_neg (show ¬ (0 : Nat) = 2 by decide), if_neg (show ¬ (0 : Nat) = 3 by decide), if_neg (show ¬ (1 : Nat) = 0 by decide), if_neg (show ¬ (1 : Nat) = 2 by decide), if_neg (show ¬ (1 : Nat) = 3 by decide), if_neg (show ¬ (2 : Nat) = 0 by decide), if_neg (show ¬ (2 : Nat) = 1 by decide), if_neg (show ¬ (2 : Nat) = 3 by decide), if_neg (show ¬ (3 : Nat) = 0 by decide), if_neg (show ¬ (3 : Nat) = 1 by decide), if_neg (show ¬ (3 : Nat) = 2 by decide), r1, r2]
        exact piv3 d x.1 e.1 _ _ _ _ _ _ _ _ _ _ _ _ x1 e1
      · rw [t4_c2]
        simp only [if_pos, if_neg (show ¬ (0 : Nat) = 1 by decide), if_neg (show ¬ (0 : Nat) = 2 by decide), if_neg (show ¬ (0 : Nat) = 3 by decide), if_neg (show ¬ (1 : Nat) = 0 by decide), if_neg (show ¬ (1 : Nat) = 2 by decide), if_neg (show ¬ (1 : Nat) = 3 by decide), if_neg (show ¬ (2 : Nat) = 0 by decide), if_neg (show ¬ (2 : Nat) = 1 by decide), if_neg (show ¬ (2 : Nat) = 3 by decide), if_neg (show ¬ (3 : Nat) = 0 by decide), if_neg (show ¬ (3 : Nat) = 1 by decide), if_neg (show ¬ (3 : Nat) = 2 by decide), r1, r2]
        exact piv3 d x.2.1 e.2.1 _ _ _ _ _ _ _ _ _ _ _ _ x2 e2
      · rw [t4_c3]
        simp only [if_pos, if_neg (show ¬ (0 : Nat) = 1 by decide), if_neg (show ¬ (0 : Nat) = 2 by decide), if_neg (show ¬ (0 : Nat) = 3 by decide), if_neg (show ¬ (1 : Nat) = 0 by decide), if_neg (show ¬ (1 : Nat) = 2 by decide), if_neg (show ¬ (1 : Nat) = 3 by decide), if_neg (show ¬ (2 : Nat) = 0 by decide), if_neg (show ¬ (2 : Nat) = 1 by decide), if_neg (show ¬ (2 : Nat) = 3 by decide), if_neg (show ¬ (3 : Nat) = 0 by decide), if_neg (show ¬ (3 : Nat) = 1 by decide), if_neg (show ¬ (3 : Nat) = 2 by decide), r1, r2]
        exact piv3 d x.2.2.1 e.2.2.1 _ _ _ _ _ _ _ _ _ _ _ _ x3 e3
      · rw [t4_c4]
        simp only [if_pos, if_neg (show ¬ (0 : Nat) = 1 by decide), if_neg (show ¬ (0 : Nat) = 2 by decide), if_neg (show ¬ (0 : Nat) = 3 by decide), if_neg (show ¬ (1 : Nat) = 0 by decide), if_neg (show ¬ (1 : Nat) = 2 by decide), if_neg (show ¬ (1 : Nat) = 3 by decide), if_neg (show ¬ (2 : Nat) = 0 by decide), if_neg (show ¬ (2 : Nat) = 1 by decide), if_neg (show ¬ (2 : Nat) = 3 by decide), if_neg (show ¬ (3 : Nat) = 0 by decide), if_neg (show ¬ (3 : Nat) = 1 by decide), if_neg (show ¬ (3 : Nat) = 2 by decide), r1, r2]
        exact piv3 d x.2.2.2 e.2.2.2 _ _ _ _ _ _ _ _ _ _ _ _ x4 e4
