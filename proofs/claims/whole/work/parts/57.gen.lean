/-! sums of powers: none vanishes where the base is large -/
def pw (T : Int) (c : Nat → Int) : Nat → Int
  | 0 => 0
  | m + 1 => pw T c m + c m * T ^ m
theorem pw_bound (T : Int) (hT : 1 ≤ T) (c : Nat → Int) : ∀ m, (∀ j, j < m → - (T - 1) ≤ c j ∧ c j ≤ T - 1) → - (T ^ m - 1) ≤ pw T c m ∧ pw T c m ≤ T ^ m - 1 := by
  intro m
  induction m with
  | zero => intro _; constructor <;> simp [pw]
  | succ m ih =>
    intro h
    obtain ⟨h1, h2⟩ := ih (fun j hj => h j (by omega))
    obtain ⟨c1, c2⟩ := h m (by omega)
    have hp : 0 ≤ T ^ m := Int.pow_nonneg (by omega)
    have u1 : c m * T ^ m ≤ (T - 1) * T ^ m := Int.mul_le_mul_of_nonneg_right c2 hp
    have u2 : - (T - 1) * T ^ m ≤ c m * T ^ m := Int.mul_le_mul_of_nonneg_right c1 hp
    have e : T ^ (m + 1) = (T - 1) * T ^ m + T ^ m := by rw [Int.pow_succ]; grind
    have e2 : - (T - 1) * T ^ m = - ((T - 1) * T ^ m) := by grind
    rw [pw]
    omega
theorem pw_zero (T : Int) (c : Nat → Int) : ∀ m, (∀ j, j < m → c j = 0) → pw T c m = 0 := by
  intro m
  induction m with
  | zero => intro _; rfl
  | succ m ih =>
    intro h
    rw [pw, ih (fun j hj => h j (by omega)), h m (by omega)]
    simp
theorem pw_ne (T : Int) (hT : 1 ≤ T) (c : Nat → Int) : ∀ m, (∀ j, j < m → - (T - 1) ≤ c j ∧ c j ≤ T - 1) → (∃ j, j < m ∧ c j ≠ 0) → pw T c m ≠ 0 := by
  intro m
  induction m with
  | zero => rintro _ ⟨j, hj, _⟩; omega
  | succ m ih =>
    intro h hex
    by_cases hm : c m = 0
    · rw [pw, hm]
      have : ∃ j, j < m ∧ c j ≠ 0 := by
        obtain ⟨j, hj, hc⟩ := hex
        exact ⟨j, by
          rcases Nat.lt_or_ge j m with h | h
          · exact h
          · have e : j = m := by omega
            rw [e] at hc
            exact absurd hm hc, hc⟩
      have := ih (fun j hj => h j (by omega)) this
      simpa using this
    · obtain ⟨h1, h2⟩ := pw_bound T hT c m (fun j hj => h j (by omega))
      have hp : 0 ≤ T ^ m := Int.pow_nonneg (by omega)
      rw [pw]
      intro h0
      by_cases hpos : 0 < c m
      · have : 1 * T ^ m ≤ c m * T ^ m := Int.mul_le_mul_of_nonneg_right (by omega) hp
        omega
      · have : c m * T ^ m ≤ -1 * T ^ m := Int.mul_le_mul_of_nonneg_right (by omega) hp
        omega
/-- a bound for finitely many numbers -/
theorem fin_bd {α : Type} (g : α → Int) : ∀ L : List α, ∃ T : Int, 1 ≤ T ∧ ∀ x ∈ L, - (T - 1) ≤ g x ∧ g x ≤ T - 1 := by
  intro L
  induction L with
  | nil => exact ⟨1, Int.le_refl _, fun x h => absurd h List.not_mem_nil⟩
  | cons a L ih =>
    obtain ⟨T, h1, h2⟩ := ih
    refine ⟨T + (if 0 ≤ g a then g a else - g a), ?_, fun x hx => ?_⟩
    · split <;> omega
    · rcases List.mem_cons.mp hx with rfl | hx
      · split <;> omega
      · have := h2 x hx
        split <;> omega
/-- a vector inside a frame on which none of finitely many forms vanishes -/
theorem gen_pt (b : Nat → V4) (L : List V4) (h : ∀ g ∈ L, ∃ i, i < 4 ∧ dt g (b i) ≠ 0) : ∃ k : Nat → Int, (∀ i, 0 < k i) ∧ ∀ g ∈ L, dt g (t4 k b) ≠ 0 := by
  obtain ⟨T, hT, hb⟩ := fin_bd (fun q : V4 × Nat => dt q.1 (b q.2)) (L.flatMap fun g => [(g, 0), (g, 1), (g, 2), (g, 3)])
  refine ⟨fun i => T ^ i, fun i => Int.pow_pos (by omega), fun g hg => ?_⟩
  have hc : ∀ j, j < 4 → - (T - 1) ≤ dt g (b j) ∧ dt g (b j) ≤ T - 1 := by
    intro j hj
    exact hb (g, j) (List.mem_flatMap.mpr ⟨g, hg, by rcases four hj with rfl | rfl | rfl | rfl <;> simp⟩)
  have := pw_ne T hT (fun j => dt g (b j)) 4 hc (h g hg)
  rw [dt_t4, s4_eq]
  intro h0
  apply this
  show ((((0 : Int) + dt g (b 0) * T ^ 0) + dt g (b 1) * T ^ 1) + dt g (b 2) * T ^ 2) + dt g (b 3) * T ^ 3 = 0
  have h0' : T ^ 0 * dt g (b 0) + T ^ 1 * dt g (b 1) + T ^ 2 * dt g (b 2) + T ^ 3 * dt g (b 3) = 0 := h0
  rw [Int.mul_comm (dt g (b 0)), Int.mul_comm (dt g (b 1)), Int.mul_comm (dt g (b 2)), Int.mul_comm (dt g (b 3))]
  omega
