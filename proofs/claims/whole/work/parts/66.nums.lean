/-- the rule by which the counts grow, from the first four of them -/
def ru3 (N : Int → Nat) : Int := (N 3 : Int) - 3 * N 2 + 3 * N 1 - N 0
def ru2 (N : Int → Nat) : Int := 3 * ((N 2 : Int) - 2 * N 1 + N 0 - ru3 N)
def ru1 (N : Int → Nat) : Int := 6 * ((N 1 : Int) - N 0) - ru2 N - ru3 N
theorem ehr_num {N N' : Int → Nat} {β : Int → Nat} (h1 : ∀ n, (N n : Int) - 4 * N (n - 1) + 6 * N (n - 2) - 4 * N (n - 3) + N (n - 4) = β n) (h2 : ∀ n, (N' n : Int) - 4 * N' (n - 1) + 6 * N' (n - 2) - 4 * N' (n - 3) + N' (n - 4) = β (4 - n)) (h3 : ∀ n, 4 ≤ n ∨ n < 0 → β n = 0) (hn : ∀ n, n < 0 → N n = 0) (hn' : ∀ n, n ≤ 0 → N' n = 0) :
    (∀ n, 0 ≤ n → n ≤ 5 → 6 * (N n : Int) = ru3 N * n ^ 3 + ru2 N * n ^ 2 + ru1 N * n + 6 * N 0) ∧ ∀ n, 1 ≤ n → n ≤ 5 → 6 * (N' n : Int) = ru3 N * n ^ 3 - ru2 N * n ^ 2 + ru1 N * n - 6 * N 0 := by
  have a0 := h1 0
  have a1 := h1 1
  have a2 := h1 2
  have a3 := h1 3
  have a4 := h1 4
  have a5 := h1 5
  have b1 := h2 1
  have b2 := h2 2
  have b3 := h2 3
  have b4 := h2 4
  have b5 := h2 5
  have z4 := h3 4 (by omega)
  have z5 := h3 5 (by omega)
  have zm := h3 (-1) (by omega)
  have m1 := hn (-1) (by omega)
  have m2 := hn (-2) (by omega)
  have m3 := hn (-3) (by omega)
  have m4 := hn (-4) (by omega)
  have p0 := hn' 0 (by omega)
  have p1 := hn' (-1) (by omega)
  have p2 := hn' (-2) (by omega)
  have p3 := hn' (-3) (by omega)
  simp only [show (0 : Int) - 1 = -1 from rfl, show (0 : Int) - 2 = -2 from rfl, show (0 : Int) - 3 = -3 from rfl, show (0 : Int) - 4 = -4 from rfl, show (1 : Int) - 1 = 0 from rfl, show (1 : Int) - 2 = -1 from rfl, show (1 : Int) - 3 = -2 from rfl, show (1 : Int) - 4 = -3 from rfl, show (2 : Int) - 1 = 1 from rfl, show (2 : Int) - 2 = 0 from rfl, show (2 : Int) - 3 = -1 from rfl, show (2 : Int) - 4 = -2 from rfl, show (3 : Int) - 1 = 2 from rfl, show (3 : Int) - 2 = 1 from rfl, show (3 : Int) - 3 = 0 from rfl, show (3 : Int) - 4 = -1 from rfl, show (4 : Int) - 1 = 3 from rfl, show (4 : Int) - 2 = 2 from rfl, show (4 : Int) - 3 = 1 from rfl, show (4 : Int) - 4 = 0 from rfl, show (5 : Int) - 1 = 4 from rfl, show (5 : Int) - 2 = 3 from rfl, show (5 : Int) - 3 = 2 from rfl, show (5 : Int) - 4 = 1 from rfl, show (4 : Int) - 5 = -1 from rfl] at a0 a1 a2 a3 a4 a5 b1 b2 b3 b4 b5
  unfold ru1 ru2 ru3
  constructor
  · intro n l u
    rcases (show n = 0 ∨ n = 1 ∨ n = 2 ∨ n = 3 ∨ n = 4 ∨ n = 5 by omega) with rfl | rfl | rfl | rfl | rfl | rfl
    all_goals simp only [Int.reducePow]
    all_goals omega
  · intro n l u
    rcases (show n = 1 ∨ n = 2 ∨ n = 3 ∨ n = 4 ∨ n = 5 by omega) with rfl | rfl | rfl | rfl | rfl
    all_goals simp only [Int.reducePow]
    all_goals omega
