/-! small numbers of 32 bits -/
theorem add_i {x y : Int32} (h1 : -2147483648 ≤ x.toInt + y.toInt) (h2 : x.toInt + y.toInt < 2147483648) : (x + y).toInt = x.toInt + y.toInt := by
  rw [Int32.toInt_add]
  simp only [Int.bmod]
  split <;> omega
theorem sub_i {x y : Int32} (h1 : -2147483648 ≤ x.toInt - y.toInt) (h2 : x.toInt - y.toInt < 2147483648) : (x - y).toInt = x.toInt - y.toInt := by
  rw [Int32.toInt_sub]
  simp only [Int.bmod]
  split <;> omega
theorem mul_i {x y : Int32} (h1 : -2147483648 ≤ x.toInt * y.toInt) (h2 : x.toInt * y.toInt < 2147483648) : (x * y).toInt = x.toInt * y.toInt := by
  rw [Int32.toInt_mul]
  simp only [Int.bmod]
  generalize x.toInt * y.toInt = z at *
  split <;> omega
theorem neg_i {x : Int32} (h : -2147483648 < x.toInt) (h2 : x.toInt < 2147483648) : (-x).toInt = -x.toInt := by
  rw [Int32.toInt_neg]
  simp only [Int.bmod]
  split <;> omega
theorem rng_i (x : Int32) : -2147483648 ≤ x.toInt ∧ x.toInt < 2147483648 := ⟨Int32.le_toInt x, Int32.toInt_lt x⟩
theorem cl_i (x : Int32) : x.toNatClampNeg = x.toInt.toNat := rfl
theorem gd_ok {α : Type} {i : Int32} {n : Nat} {a : Option α} (h0 : 0 ≤ i.toInt) (h1 : i.toInt < n) : gd_in i n a = a := by
  unfold gd_in
  rw [if_neg]
  rintro (h | h)
  · rw [Int32.lt_iff_toInt_lt, show (0 : Int32).toInt = 0 from rfl] at h
    omega
  · rw [cl_i] at h
    omega
abbrev rch (x : Int) : Prop := -5 ≤ x ∧ x ≤ 5
theorem am_i (x : Int64) (a b : Int64) : (if lg_cmp x a < 0 then (some 0 : Option Int32) else (if 0 < lg_cmp x b then (some 0) else (some 1))) = some (if a.toInt ≤ x.toInt ∧ x.toInt ≤ b.toInt then 1 else 0) := by
  by_cases h1 : lg_cmp x a < 0
  · rw [if_pos h1]
    have h := Int64.lt_iff_toInt_lt.mp ((lg_cmp_lt x a).mp h1)
    rw [if_neg (by omega)]
  · rw [if_neg h1]
    have g1 : ¬ x.toInt < a.toInt := fun h => h1 ((lg_cmp_lt x a).mpr (Int64.lt_iff_toInt_lt.mpr h))
    by_cases h2 : 0 < lg_cmp x b
    · rw [if_pos h2]
      have h := Int64.lt_iff_toInt_lt.mp ((lg_cmp_gt x b).mp h2)
      rw [if_neg (by omega)]
    · rw [if_neg h2]
      have g2 : ¬ b.toInt < x.toInt := fun h => h2 ((lg_cmp_gt x b).mpr (Int64.lt_iff_toInt_lt.mpr h))
      rw [if_pos (by omega)]
theorem in_i (x a b : Int64) : fX9_in x a b = some (if a.toInt ≤ x.toInt ∧ x.toInt ≤ b.toInt then 1 else 0) := am_i x a b
theorem am5 (x : Int64) : fX8_isAmong x 5 = some (if -5 ≤ x.toInt ∧ x.toInt ≤ 5 then 1 else 0) := am_i x ((-(5 : Int32)).toInt64) ((5 : Int32).toInt64)
theorem reach_i (x y z : Int64) : fX8_inReach x y z = some (if (-5 ≤ x.toInt ∧ x.toInt ≤ 5) ∧ (-5 ≤ y.toInt ∧ y.toInt ≤ 5) ∧ (-5 ≤ z.toInt ∧ z.toInt ≤ 5) then 1 else 0) := by
  unfold fX8_inReach
  rw [am5, am5, am5]
  simp only [bd, Option.bind_some]
  by_cases h1 : -5 ≤ x.toInt ∧ x.toInt ≤ 5
  · rw [if_pos h1, if_neg (by decide)]
    by_cases h2 : -5 ≤ y.toInt ∧ y.toInt ≤ 5
    · rw [if_pos h2, if_neg (by decide)]
      by_cases h3 : -5 ≤ z.toInt ∧ z.toInt ≤ 5
      · rw [if_pos h3, if_neg (by decide), if_pos ⟨h1, h2, h3⟩]
      · rw [if_neg h3, if_pos rfl, if_neg (fun h => h3 h.2.2)]
    · rw [if_neg h2, if_pos rfl, if_neg (fun h => h2 h.2.1)]
  · rw [if_neg h1, if_pos rfl, if_neg (fun h => h1 h.1)]
theorem i64_i (x : Int32) : x.toInt64.toInt = x.toInt := Int32.toInt_toInt64 x
/-- the drafts of class and reference -/
def DRel (ds : Int32) (DX DY DZ DR : Nat → Int32) : Prop := 0 ≤ ds.toInt ∧ ds.toInt ≤ 12 ∧ ∀ k : Nat, (k : Int) < ds.toInt → (DR (3 * k) = DX k ∧ DR (3 * k + 1) = DY k ∧ DR (3 * k + 2) = DZ k) ∧ rch (DX k).toInt ∧ rch (DY k).toInt ∧ rch (DZ k).toInt
theorem c_corner {ds : Int32} {DX DY DZ DR : Nat → Int32} (h : DRel ds DX DY DZ DR) (x y z : Int32) : ∃ (r ds' : Int32) (DX' DY' DZ' DR' : Nat → Int32), fX8_corner ds DX DY DZ x y z = some (r, ds', DX', DY', DZ') ∧ fX9_corner ds DR x y z = some (r, ds', DR') ∧ DRel ds' DX' DY' DZ' DR' := by
  obtain ⟨h0, h1, h2⟩ := h
  have ex : fX9_corner ds DR x y z = if rch x.toInt ∧ rch y.toInt ∧ rch z.toInt then (if ds = 12 then some (-3, ds, DR) else bd (fX9_put ds DR x y z) (fun v => some (v.1, v.1, v.2))) else some (-1, ds, DR) := by
    unfold fX9_corner
    rw [in_i, in_i, in_i, i64_i, i64_i, i64_i]
    simp only [bd, Option.bind_some, show (-5 : Int64).toInt = -5 from rfl, show (5 : Int64).toInt = 5 from rfl]
    by_cases c1 : -5 ≤ x.toInt ∧ x.toInt ≤ 5
    · rw [if_pos c1, if_neg (by decide)]
      by_cases c2 : -5 ≤ y.toInt ∧ y.toInt ≤ 5
      · rw [if_pos c2, if_neg (by decide)]
        by_cases c3 : -5 ≤ z.toInt ∧ z.toInt ≤ 5
        · rw [if_pos c3, if_neg (by decide), if_pos (show rch x.toInt ∧ rch y.toInt ∧ rch z.toInt from ⟨c1, c2, c3⟩)]
        · rw [if_neg c3, if_pos rfl, if_neg (show ¬ (rch x.toInt ∧ rch y.toInt ∧ rch z.toInt) from fun h => c3 h.2.2)]
      · rw [if_neg c2, if_pos rfl, if_neg (show ¬ (rch x.toInt ∧ rch y.toInt ∧ rch z.toInt) from fun h => c2 h.2.1)]
    · rw [if_neg c1, if_pos rfl, if_neg (show ¬ (rch x.toInt ∧ rch y.toInt ∧ rch z.toInt) from fun h => c1 h.1)]
  have cx : fX8_corner ds DX DY DZ x y z = if rch x.toInt ∧ rch y.toInt ∧ rch z.toInt then (if ds < 12 then bd (fX4_put 12 ds DX DY DZ x y z) (fun v => some (v.1, v.1, v.2.1, v.2.2.1, v.2.2.2)) else some (-3, ds, DX, DY, DZ)) else some (-1, ds, DX, DY, DZ) := by
    unfold fX8_corner
    rw [reach_i, i64_i, i64_i, i64_i]
    simp only [bd, Option.bind_some]
    by_cases c : (-5 ≤ x.toInt ∧ x.toInt ≤ 5) ∧ (-5 ≤ y.toInt ∧ y.toInt ≤ 5) ∧ (-5 ≤ z.toInt ∧ z.toInt ≤ 5)
    · rw [if_pos c, if_neg (by decide), if_pos (show rch x.toInt ∧ rch y.toInt ∧ rch z.toInt from c)]
    · rw [if_neg c, if_pos rfl, if_neg (show ¬ (rch x.toInt ∧ rch y.toInt ∧ rch z.toInt) from c)]
  rw [ex, cx]
  by_cases c : rch x.toInt ∧ rch y.toInt ∧ rch z.toInt
  · rw [if_pos c, if_pos c]
    by_cases e : ds = 12
    · have : ¬ ds < 12 := by rw [e]; decide
      rw [if_pos e, if_neg this]
      exact ⟨_, _, _, _, _, _, rfl, rfl, h0, h1, h2⟩
    · have hlt : ds.toInt < 12 := by
        have : ds.toInt ≠ (12 : Int32).toInt := fun h => e (Int32.toInt_inj.mp h)
        rw [show (12 : Int32).toInt = 12 from rfl] at this
        omega
      have hl : ds < 12 := Int32.lt_iff_toInt_lt.mpr (by rw [show (12 : Int32).toInt = 12 from rfl]; exact hlt)
      have m3 : (3 * ds).toInt = 3 * ds.toInt := by
        have := mul_i (x := 3) (y := ds) (by rw [show (3 : Int32).toInt = 3 from rfl]; omega) (by rw [show (3 : Int32).toInt = 3 from rfl]; omega)
        rw [show (3 : Int32).toInt = 3 from rfl] at this
        exact this
      have m31 : (3 * ds + 1).toInt = 3 * ds.toInt + 1 := by
        rw [add_i (by rw [m3, show (1 : Int32).toInt = 1 from rfl]; omega) (by rw [m3, show (1 : Int32).toInt = 1 from rfl]; omega), m3, show (1 : Int32).toInt = 1 from rfl]
      have m32 : (3 * ds + 2).toInt = 3 * ds.toInt + 2 := by
        rw [add_i (by rw [m3, show (2 : Int32).toInt = 2 from rfl]; omega) (by rw [m3, show (2 : Int32).toInt = 2 from rfl]; omega), m3, show (2 : Int32).toInt = 2 from rfl]
      have d1 : (ds + 1).toInt = ds.toInt + 1 := by
        rw [add_i (by rw [show (1 : Int32).toInt = 1 from rfl]; omega) (by rw [show (1 : Int32).toInt = 1 from rfl]; omega), show (1 : Int32).toInt = 1 from rfl]
      have pc : fX4_put 12 ds DX DY DZ x y z = some (ds + 1, upd DX ds.toNatClampNeg x, upd DY ds.toNatClampNeg y, upd DZ ds.toNatClampNeg z) := by
        unfold fX4_put
        have : ¬ nI 12 ≤ ds := fun h => by
          have h := Int32.le_iff_toInt_le.mp h
          rw [show (nI 12).toInt = 12 from rfl] at h
          omega
        rw [if_neg this, gd_ok h0 (by omega)]
      have pm : fX9_put ds DR x y z = some (ds + 1, upd (upd (upd DR (3 * ds).toNatClampNeg x) (3 * ds + 1).toNatClampNeg y) (3 * ds + 2).toNatClampNeg z) := by
        unfold fX9_put
        rw [gd_ok (by omega) (by rw [m3]; omega), gd_ok (by omega) (by rw [m31]; omega), gd_ok (by omega) (by rw [m32]; omega)]
      rw [if_neg e, if_pos hl, pc, pm]
      refine ⟨ds + 1, ds + 1, upd DX ds.toNatClampNeg x, upd DY ds.toNatClampNeg y, upd DZ ds.toNatClampNeg z, upd (upd (upd DR (3 * ds).toNatClampNeg x) (3 * ds + 1).toNatClampNeg y) (3 * ds + 2).toNatClampNeg z, rfl, rfl, by omega, by omega, fun k hk => ?_⟩
      rw [d1] at hk
      have n0 : ds.toNatClampNeg = ds.toInt.toNat := rfl
      have n1 : (3 * ds).toNatClampNeg = 3 * ds.toInt.toNat := by rw [cl_i, m3]; omega
      have n2 : (3 * ds + 1).toNatClampNeg = 3 * ds.toInt.toNat + 1 := by rw [cl_i, m31]; omega
      have n3 : (3 * ds + 2).toNatClampNeg = 3 * ds.toInt.toNat + 2 := by rw [cl_i, m32]; omega
      rw [n0, n1, n2, n3]
      dsimp only [upd]
      by_cases ek : k = ds.toInt.toNat
      · subst ek
        refine ⟨⟨?_, ?_, ?_⟩, ?_⟩
        · rw [if_neg (by omega), if_neg (by omega), if_pos rfl, if_pos rfl]
        · rw [if_neg (by omega), if_pos rfl, if_pos rfl]
        · rw [if_pos rfl, if_pos rfl]
        · rw [if_pos rfl, if_pos rfl, if_pos rfl]
          exact c
      · obtain ⟨⟨q1, q2, q3⟩, q4⟩ := h2 k (by omega)
        refine ⟨⟨?_, ?_, ?_⟩, ?_⟩
        · rw [if_neg (by omega), if_neg (by omega), if_neg (by omega), if_neg ek]; exact q1
        · rw [if_neg (by omega), if_neg (by omega), if_neg (by omega), if_neg ek]; exact q2
        · rw [if_neg (by omega), if_neg (by omega), if_neg (by omega), if_neg ek]; exact q3
        · rw [if_neg ek, if_neg ek, if_neg ek]; exact q4
  · rw [if_neg c, if_neg c]
    exact ⟨_, _, _, _, _, _, rfl, rfl, h0, h1, h2⟩
