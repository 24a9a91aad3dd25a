theorem le_i {x y : Int32} : x ≤ y ↔ x.toInt ≤ y.toInt := Int32.le_iff_toInt_le
theorem lt_i {x y : Int32} : x < y ↔ x.toInt < y.toInt := Int32.lt_iff_toInt_lt
theorem one_i : (1 : Int32).toInt = 1 := rfl
theorem succ_i {x : Int32} (h : x.toInt < 2147483647) : (x + 1).toInt = x.toInt + 1 := by
  have := rng_i x
  rw [add_i (by rw [one_i]; omega) (by rw [one_i]; omega), one_i]
theorem renew_loop (la si : Int32) : ∀ (n : Nat) (k : Nat) (j : Int32) (CE : Nat → Int64), j.toInt + n = 36 → 0 ≤ j.toInt → n < k → ∃ CE' : Nat → Int64, LX5_renew_12 36 k j la si CE = some (la, si, CE') ∧ ∀ i : Nat, CE' i = if j.toInt ≤ i ∧ i < 36 then 0 else CE i := by
  intro n
  induction n with
  | zero =>
    intro k j CE hj h0 hk
    obtain ⟨k, rfl⟩ : ∃ q, k = q + 1 := ⟨k - 1, by omega⟩
    refine ⟨CE, ?_, fun i => ?_⟩
    · rw [LX5_renew_12, if_pos (le_i.mpr (by rw [show (36 : Int32).toInt = 36 from rfl]; omega))]
    · rw [if_neg (by omega)]
  | succ n ih =>
    intro k j CE hj h0 hk
    obtain ⟨k, rfl⟩ : ∃ q, k = q + 1 := ⟨k - 1, by omega⟩
    have hs : (j + 1).toInt = j.toInt + 1 := succ_i (by omega)
    obtain ⟨CE', e1, e2⟩ := ih k (j + 1) (vp_updL CE j.toNatClampNeg 0) (by omega) (by omega) (by omega)
    refine ⟨CE', ?_, fun i => ?_⟩
    · rw [LX5_renew_12, if_neg (fun h => by have := le_i.mp h; rw [show (36 : Int32).toInt = 36 from rfl] at this; omega), gd_ok h0 (by omega)]
      exact e1
    · rw [e2 i, hs]
      unfold vp_updL
      rw [cl_i]
      by_cases c : i = j.toInt.toNat
      · rw [if_neg (by omega), if_pos c, if_pos (by omega)]
      · by_cases c2 : j.toInt + 1 ≤ i ∧ i < 36
        · rw [if_pos c2, if_pos (by omega)]
        · rw [if_neg c2, if_neg c, if_neg (by omega)]
theorem sheaf_loop (p : Int32) (hp : 0 ≤ p.toInt ∧ p.toInt ≤ 3) (LA LE : Nat → Int32) : ∀ (n : Nat) (k : Nat) (j : Int32) (CE : Nat → Int64), j.toInt + n = 36 → 0 ≤ j.toInt → n < k → ∃ CE' : Nat → Int64, LX9_sheaf_54 k p j LA LE CE = some (1, LA, LE, CE') ∧ ∀ i : Nat, CE' i = if 36 * p.toInt + j.toInt ≤ i ∧ i < 36 * p.toInt + 36 then 0 else CE i := by
  intro n
  induction n with
  | zero =>
    intro k j CE hj h0 hk
    obtain ⟨k, rfl⟩ : ∃ q, k = q + 1 := ⟨k - 1, by omega⟩
    refine ⟨CE, ?_, fun i => ?_⟩
    · rw [LX9_sheaf_54, if_pos (le_i.mpr (by rw [show (36 : Int32).toInt = 36 from rfl]; omega))]
    · rw [if_neg (by omega)]
  | succ n ih =>
    intro k j CE hj h0 hk
    obtain ⟨k, rfl⟩ : ∃ q, k = q + 1 := ⟨k - 1, by omega⟩
    have hs : (j + 1).toInt = j.toInt + 1 := succ_i (by omega)
    have m1 : (36 * p).toInt = 36 * p.toInt := by
      have := mul_i (x := 36) (y := p) (by rw [show (36 : Int32).toInt = 36 from rfl]; omega) (by rw [show (36 : Int32).toInt = 36 from rfl]; omega)
      rw [show (36 : Int32).toInt = 36 from rfl] at this
      exact this
    have m2 : (36 * p + j).toInt = 36 * p.toInt + j.toInt := by
      rw [add_i (by rw [m1]; omega) (by rw [m1]; omega), m1]
    obtain ⟨CE', e1, e2⟩ := ih k (j + 1) (vp_updL CE (36 * p + j).toNatClampNeg 0) (by omega) (by omega) (by omega)
    refine ⟨CE', ?_, fun i => ?_⟩
    · rw [LX9_sheaf_54, if_neg (fun h => by have := le_i.mp h; rw [show (36 : Int32).toInt = 36 from rfl] at this; omega), gd_ok (by omega) (by rw [m2]; omega)]
      exact e1
    · rw [e2 i, hs]
      unfold vp_updL
      rw [cl_i, m2]
      by_cases c : i = (36 * p.toInt + j.toInt).toNat
      · rw [if_neg (by omega), if_pos c, if_pos (by omega)]
      · by_cases c2 : 36 * p.toInt + (j.toInt + 1) ≤ i ∧ i < 36 * p.toInt + 36
        · rw [if_pos c2, if_pos (by omega)]
        · rw [if_neg c2, if_neg c, if_neg (by omega)]
/-- the sheaves of class and reference -/
def SRel (la si : Nat → Int32) (CE : Nat → Nat → Int64) (LA LE : Nat → Int32) (CM : Nat → Int64) : Prop := ∀ k, k < 4 → ((la k = -1 ∧ LA k = -4) ∨ (LA k = la k ∧ (la k = 0 ∨ la k = 1))) ∧ LE k = si k ∧ 0 ≤ (si k).toInt ∧ (si k).toInt ≤ 36 ∧ ∀ i, i < 36 → CM (36 * k + i) = CE k i
theorem isSheaf_i (p : Int32) : fX8_isSheaf p = some (if 0 ≤ p.toInt ∧ p.toInt ≤ 3 then 1 else 0) := by
  unfold fX8_isSheaf
  by_cases h : p < 0
  · rw [if_pos h]
    have := lt_i.mp h
    rw [show (0 : Int32).toInt = 0 from rfl] at this
    rw [if_neg (by omega)]
  · rw [if_neg h]
    have h' : ¬ p.toInt < 0 := fun q => h (lt_i.mpr q)
    by_cases h2 : 4 ≤ p
    · rw [if_pos h2]
      have := le_i.mp h2
      rw [show (4 : Int32).toInt = 4 from rfl] at this
      rw [if_neg (by omega)]
    · rw [if_neg h2]
      have h3 : ¬ (4 : Int) ≤ p.toInt := fun q => h2 (le_i.mpr q)
      rw [if_pos (by omega)]
