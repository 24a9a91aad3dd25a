def mm (L : Int → Nat) : Nat → Nat
  | 0 => L 0
  | k + 1 => mm L k + L (k + 1)
theorem pyr_all {e0 W : V4} {S : List V4} (hW : dt e0 W = 1) (hWh : W.2.2.2 = 1) (L L' : Int → Nat) (hL : ∀ n, HC (fun X => X.2.2.2 = n ∧ dt e0 X = 0 ∧ ∀ g, g ∈ S → 0 ≤ dt g X) (L n)) (hL0 : ∀ n, n < 0 → L n = 0) (hL' : ∀ n, HC (fun X => X.2.2.2 = n ∧ dt e0 X = 0 ∧ ∀ g, g ∈ S → 0 < dt g X) (L' n)) (hL0' : ∀ n, n ≤ 0 → L' n = 0) :
    ∃ M M' : Int → Nat, (∀ n, HC (fun X => X.2.2.2 = n ∧ ∀ g, g ∈ pyS e0 W S → 0 ≤ dt g X) (M n)) ∧ (∀ n, HC (fun X => X.2.2.2 = n ∧ ∀ g, g ∈ pyS e0 W S → 0 < dt g X) (M' n)) ∧ (∀ n, M n = M (n - 1) + L n) ∧ (∀ n, M' n = M' (n - 1) + L' (n - 1)) ∧ (∀ n, n < 0 → M n = 0) ∧ ∀ n, n ≤ 0 → M' n = 0 := by
  have down : ∀ X : V4, (sb X (sm (dt e0 X) W)).2.2.2 = X.2.2.2 - dt e0 X ∧ dt e0 (sb X (sm (dt e0 X) W)) = 0 ∧ ∀ g, dt g (sb X (sm (dt e0 X) W)) = dt g X - dt g W * dt e0 X := by
    intro X
    refine ⟨?_, ?_, fun g => ?_⟩
    · show X.2.2.2 + -1 * (dt e0 X * W.2.2.2) = _
      rw [hWh]; omega
    · rw [dt_sb, dt_sm, hW]; omega
    · rw [dt_sb, dt_sm]; grind
  have neg : ∀ n, n < 0 → HC (fun X => X.2.2.2 = n ∧ ∀ g, g ∈ pyS e0 W S → 0 ≤ dt g X) 0 := by
    intro n hn
    refine HC.none fun X ⟨e1, e2⟩ => ?_
    obtain ⟨q1, q2⟩ := pyS_all.mp e2
    obtain ⟨d1, d2, d3⟩ := down X
    have h := hL (n - dt e0 X)
    rw [hL0 _ (by omega)] at h
    exact h.no (sb X (sm (dt e0 X) W)) ⟨by rw [d1, e1], d2, fun g hg => by rw [d3]; exact q2 g hg⟩
  have neg' : ∀ n, n ≤ 0 → HC (fun X => X.2.2.2 = n ∧ ∀ g, g ∈ pyS e0 W S → 0 < dt g X) 0 := by
    intro n hn
    refine HC.none fun X ⟨e1, e2⟩ => ?_
    obtain ⟨q1, q2⟩ := pyS_all'.mp e2
    obtain ⟨d1, d2, d3⟩ := down X
    have h := hL' (n - dt e0 X)
    rw [hL0' _ (by omega)] at h
    exact h.no (sb X (sm (dt e0 X) W)) ⟨by rw [d1, e1], d2, fun g hg => by rw [d3]; exact q2 g hg⟩
  have pos : ∀ k : Nat, HC (fun X => X.2.2.2 = (k : Int) ∧ ∀ g, g ∈ pyS e0 W S → 0 ≤ dt g X) (mm L k) := by
    intro k
    induction k with
    | zero =>
      have h := pyr_step (0 : Int) (neg (0 - 1) (by omega)) (hL 0) hW hWh
      rw [Nat.zero_add] at h
      exact h
    | succ k ih =>
      have h := pyr_step ((k + 1 : Nat) : Int) (c := mm L k) (by
        rw [show ((k + 1 : Nat) : Int) - 1 = (k : Int) by omega]; exact ih) (hL _) hW hWh
      exact h
  have pos' : ∀ k : Nat, HC (fun X => X.2.2.2 = (k : Int) ∧ ∀ g, g ∈ pyS e0 W S → 0 < dt g X) (match k with | 0 => 0 | j + 1 => mm L' j) := by
    intro k
    induction k with
    | zero => exact neg' 0 (by omega)
    | succ k ih =>
      cases k with
      | zero =>
        have h := pyr_step' (1 : Int) (c := 0) (neg' (1 - 1) (by omega)) (hL' (1 - 1)) hW hWh
        rw [Nat.zero_add] at h
        exact h
      | succ k =>
        have h := pyr_step' ((k + 1 + 1 : Nat) : Int) (c := mm L' k) (by
          rw [show ((k + 1 + 1 : Nat) : Int) - 1 = ((k + 1 : Nat) : Int) by omega]; exact ih) (hL' _) hW hWh
        rw [show ((k + 1 + 1 : Nat) : Int) - 1 = ((k + 1 : Nat) : Int) by omega] at h
        exact h
  have all : ∀ n : Int, ∃ c, HC (fun X => X.2.2.2 = n ∧ ∀ g, g ∈ pyS e0 W S → 0 ≤ dt g X) c := by
    intro n
    by_cases h : n < 0
    · exact ⟨0, neg n h⟩
    · have := pos n.toNat
      rw [Int.toNat_of_nonneg (by omega)] at this
      exact ⟨_, this⟩
  have all' : ∀ n : Int, ∃ c, HC (fun X => X.2.2.2 = n ∧ ∀ g, g ∈ pyS e0 W S → 0 < dt g X) c := by
    intro n
    by_cases h : n < 0
    · exact ⟨0, neg' n (by omega)⟩
    · have := pos' n.toNat
      rw [Int.toNat_of_nonneg (by omega)] at this
      exact ⟨_, this⟩
  obtain ⟨M, hM⟩ := Classical.axiomOfChoice all
  obtain ⟨M', hM'⟩ := Classical.axiomOfChoice all'
  exact ⟨M, M', hM, hM', fun n => (hM n).uniq (pyr_step n (hM (n - 1)) (hL n) hW hWh), fun n => (hM' n).uniq (pyr_step' n (hM' (n - 1)) (hL' (n - 1)) hW hWh), fun n hn => (hM n).uniq (neg n hn), fun n hn => (hM' n).uniq (neg' n hn)⟩
/-- the counts of a flat body, out of those of the pyramid over it -/
theorem flat_num {L L' M M' β : Int → Nat} (hM : ∀ n, M n = M (n - 1) + L n) (hM' : ∀ n, M' n = M' (n - 1) + L' (n - 1)) (h1 : ∀ n, (M n : Int) - 4 * M (n - 1) + 6 * M (n - 2) - 4 * M (n - 3) + M (n - 4) = β n) (h2 : ∀ n, (M' n : Int) - 4 * M' (n - 1) + 6 * M' (n - 2) - 4 * M' (n - 3) + M' (n - 4) = β (4 - n)) (h3 : ∀ n, 4 ≤ n ∨ n < 0 → β n = 0) (hl : ∀ n, n < 0 → L n = 0) (hl' : ∀ n, n ≤ 0 → L' n = 0) :
    (∀ n, 0 ≤ n → n ≤ 5 → 2 * (L n : Int) = ((L 2 : Int) - 2 * L 1 + L 0) * n ^ 2 + (4 * L 1 - L 2 - 3 * L 0) * n + 2 * L 0) ∧ ∀ n, 1 ≤ n → n ≤ 5 → 2 * (L' n : Int) = ((L 2 : Int) - 2 * L 1 + L 0) * n ^ 2 - (4 * L 1 - L 2 - 3 * L 0) * n + 2 * L 0 := by
  have d1 : ∀ n, (L n : Int) - 3 * L (n - 1) + 3 * L (n - 2) - L (n - 3) = β n := by
    intro n
    have a := h1 n
    have m0 := hM n
    have m1 := hM (n - 1)
    have m2 := hM (n - 2)
    have m3 := hM (n - 3)
    rw [show n - 1 - 1 = n - 2 by omega] at m1
    rw [show n - 2 - 1 = n - 3 by omega] at m2
    rw [show n - 3 - 1 = n - 4 by omega] at m3
    omega
  have d2 : ∀ n, (L' n : Int) - 3 * L' (n - 1) + 3 * L' (n - 2) - L' (n - 3) = β (3 - n) := by
    intro n
    have a := h2 (n + 1)
    have m0 := hM' (n + 1)
    have m1 := hM' (n + 1 - 1)
    have m2 := hM' (n + 1 - 2)
    have m3 := hM' (n + 1 - 3)
    rw [show n + 1 - 1 = n by omega] at m0 m1 a
    rw [show n + 1 - 2 = n - 1 by omega] at m2 a
    rw [show n + 1 - 3 = n - 2 by omega] at m3 a
    rw [show n + 1 - 4 = n - 3 by omega] at a
    rw [show n - 1 - 1 = n - 2 by omega] at m2
    rw [show n - 2 - 1 = n - 3 by omega] at m3
    rw [show 4 - (n + 1) = 3 - n by omega] at a
    omega
  have a0 := d1 0
  have a1 := d1 1
  have a2 := d1 2
  have a3 := d1 3
  have a4 := d1 4
  have a5 := d1 5
  have b0 := d2 0
  have b1 := d2 1
  have b2 := d2 2
  have b3 := d2 3
  have b4 := d2 4
  have b5 := d2 5
  have z4 := h3 4 (by omega)
  have z5 := h3 5 (by omega)
  have zm := h3 (-1) (by omega)
  have zn := h3 (-2) (by omega)
  have m1 := hl (-1) (by omega)
  have m2 := hl (-2) (by omega)
  have m3 := hl (-3) (by omega)
  have p0 := hl' 0 (by omega)
  have p1 := hl' (-1) (by omega)
  have p2 := hl' (-2) (by omega)
  have p3 := hl' (-3) (by omega)
  simp only [show (0 : Int) - 1 = -1 from rfl, show (0 : Int) - 2 = -2 from rfl, show (0 : Int) - 3 = -3 from rfl, show (1 : Int) - 1 = 0 from rfl, show (1 : Int) - 2 = -1 from rfl, show (1 : Int) - 3 = -2 from rfl, show (2 : Int) - 1 = 1 from rfl, show (2 : Int) - 2 = 0 from rfl, show (2 : Int) - 3 = -1 from rfl, show (3 : Int) - 0 = 3 from rfl, show (3 : Int) - 1 = 2 from rfl, show (3 : Int) - 2 = 1 from rfl, show (3 : Int) - 3 = 0 from rfl, show (3 : Int) - 4 = -1 from rfl, show (3 : Int) - 5 = -2 from rfl, show (4 : Int) - 1 = 3 from rfl, show (4 : Int) - 2 = 2 from rfl, show (4 : Int) - 3 = 1 from rfl, show (5 : Int) - 1 = 4 from rfl, show (5 : Int) - 2 = 3 from rfl, show (5 : Int) - 3 = 2 from rfl] at a0 a1 a2 a3 a4 a5 b0 b1 b2 b3 b4 b5
  constructor
  · intro n l u
    rcases (show n = 0 ∨ n = 1 ∨ n = 2 ∨ n = 3 ∨ n = 4 ∨ n = 5 by omega) with rfl | rfl | rfl | rfl | rfl | rfl
    all_goals simp only [Int.reducePow]
    all_goals omega
  · intro n l u
    rcases (show n = 1 ∨ n = 2 ∨ n = 3 ∨ n = 4 ∨ n = 5 by omega) with rfl | rfl | rfl | rfl | rfl
    all_goals simp only [Int.reducePow]
    all_goals omega
