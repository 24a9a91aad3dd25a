/-! the greatest common divisor; steps without a common divisor -/
theorem iz_div {a b : Int} (h : -2147483648 ≤ a) (h2 : a < 2147483648) (h3 : -2147483648 ≤ b) (h4 : b < 2147483648) : iz a / iz b = iz (a.tdiv b) := (Int32.ofInt_tdiv (by rw [show Int32.minValue.toInt = -2147483648 from rfl]; exact h) (by rw [show Int32.maxValue.toInt = 2147483647 from rfl]; omega) (by rw [show Int32.minValue.toInt = -2147483648 from rfl]; exact h3) (by rw [show Int32.maxValue.toInt = 2147483647 from rfl]; omega)).symm
theorem nz_iz {α : Type} {a : Int} (h : -2147483648 ≤ a) (h2 : a < 2147483648) (h0 : a ≠ 0) (o : Option α) : gd_nz (iz a) o = o := by
  unfold gd_nz
  rw [if_neg (by rw [z0, iz_eq h h2 (by omega) (by omega)]; exact h0)]
theorem iz_mod {a b : Nat} (ha : a < 2147483648) (hb : b < 2147483648) : iz (a : Int) - iz (a : Int) / iz (b : Int) * iz (b : Int) = iz ((a % b : Nat) : Int) := by
  rw [iz_div (by omega) (by omega) (by omega) (by omega), iz_mul, iz_sub]
  congr 1
  rw [Int.tdiv_eq_ediv_of_nonneg (by omega), Int.natCast_emod]
  have := Int.mul_ediv_add_emod (a : Int) (b : Int)
  rw [Int.mul_comm] at this
  omega
theorem mod_half {b c : Nat} (h0 : 0 < c) (h : c < b) : 2 * (b % c) < b := by
  have h1 := Nat.mod_lt b h0
  have h2 := Nat.div_add_mod b c
  have h3 : 1 ≤ b / c := Nat.div_pos (by omega) h0
  have h4 : c * 1 ≤ c * (b / c) := Nat.mul_le_mul_left c h3
  omega
theorem gcd_stp (a b : Nat) : Nat.gcd b (a % b) = Nat.gcd a b := by
  rw [Nat.gcd_comm a b, Nat.gcd_rec b a, Nat.gcd_comm]
theorem gcdC_i : ∀ (k a b r fuel : Nat), b < 2 ^ k → r + 2 * k < 100 → 2 * k < fuel → a < 2147483648 → b < 2147483648 → LX6_commonDivisor_7 fuel (iz (a : Int)) (iz (b : Int)) (iz (r : Int)) = some (iz ((Nat.gcd a b : Nat) : Int)) := by
  intro k
  induction k with
  | zero =>
    intro a b r fuel h1 h2 h3 h4 h5
    have hb : b = 0 := by rw [Nat.pow_zero] at h1; omega
    subst hb
    obtain ⟨fuel, rfl⟩ : ∃ q, fuel = q + 1 := ⟨fuel - 1, by omega⟩
    rw [LX6_commonDivisor_7, if_neg (by rw [z100, iz_le (by omega) (by omega) (by omega) (by omega)]; omega), if_pos (by rfl), Nat.gcd_zero_right]
  | succ k ih =>
    intro a b r fuel h1 h2 h3 h4 h5
    obtain ⟨fuel, rfl⟩ : ∃ q, fuel = q + 1 + 1 := ⟨fuel - 2, by omega⟩
    rw [LX6_commonDivisor_7, if_neg (by rw [z100, iz_le (by omega) (by omega) (by omega) (by omega)]; omega)]
    by_cases hb : b = 0
    · subst hb
      rw [if_pos (by rfl), Nat.gcd_zero_right]
    · rw [if_neg (by rw [z0, iz_eq (by omega) (by omega) (by omega) (by omega)]; omega), nz_iz (by omega) (by omega) (by omega), iz_mod h4 h5, ix_s]
      have hc := Nat.mod_lt a (show b > 0 by omega)
      rw [LX6_commonDivisor_7, if_neg (by rw [z100, iz_le (by omega) (by omega) (by omega) (by omega)]; omega), ← gcd_stp a b]
      by_cases hc0 : a % b = 0
      · rw [hc0, if_pos (by rfl), Nat.gcd_zero_right]
      · rw [if_neg (by rw [z0, iz_eq (by omega) (by omega) (by omega) (by omega)]; omega), nz_iz (by omega) (by omega) (by omega), iz_mod h5 (by omega), ix_s, ← gcd_stp b (a % b)]
        have := mod_half (show 0 < a % b by omega) hc
        rw [Nat.pow_succ] at h1
        exact ih _ _ _ _ (by omega) (by omega) (by omega) (by omega) (by omega)
theorem gcdM_i : ∀ (k a b fuel : Nat), b < 2 ^ k → 2 * k < fuel → a < 2147483648 → b < 2147483648 → LX9_divisor_22 fuel (iz (a : Int)) (iz (b : Int)) = some (iz ((Nat.gcd a b : Nat) : Int)) := by
  intro k
  induction k with
  | zero =>
    intro a b fuel h1 h3 h4 h5
    have hb : b = 0 := by rw [Nat.pow_zero] at h1; omega
    subst hb
    obtain ⟨fuel, rfl⟩ : ∃ q, fuel = q + 1 := ⟨fuel - 1, by omega⟩
    rw [LX9_divisor_22, if_pos (by rfl), Nat.gcd_zero_right]
  | succ k ih =>
    intro a b fuel h1 h3 h4 h5
    obtain ⟨fuel, rfl⟩ : ∃ q, fuel = q + 1 + 1 := ⟨fuel - 2, by omega⟩
    rw [LX9_divisor_22]
    by_cases hb : b = 0
    · subst hb
      rw [if_pos (by rfl), Nat.gcd_zero_right]
    · rw [if_neg (by rw [z0, iz_eq (by omega) (by omega) (by omega) (by omega)]; omega), nz_iz (by omega) (by omega) (by omega), iz_mod h4 h5]
      have hc := Nat.mod_lt a (show b > 0 by omega)
      rw [LX9_divisor_22, ← gcd_stp a b]
      by_cases hc0 : a % b = 0
      · rw [hc0, if_pos (by rfl), Nat.gcd_zero_right]
      · rw [if_neg (by rw [z0, iz_eq (by omega) (by omega) (by omega) (by omega)]; omega), nz_iz (by omega) (by omega) (by omega), iz_mod h5 (by omega), ← gcd_stp b (a % b)]
        have := mod_half (show 0 < a % b by omega) hc
        rw [Nat.pow_succ] at h1
        exact ih _ _ _ (by omega) (by omega) (by omega) (by omega)
def gv (v : V3) : Nat := Nat.gcd (Nat.gcd v.1.natAbs v.2.1.natAbs) v.2.2.natAbs
def prim (v : V3) : Prop := gv v = 1
def sh (v : V3) : V3 := (v.1 / (gv v : Int), v.2.1 / (gv v : Int), v.2.2 / (gv v : Int))
def sm3 (k : Int) (v : V3) : V3 := (k * v.1, k * v.2.1, k * v.2.2)
def ng3 (v : V3) : V3 := (- v.1, - v.2.1, - v.2.2)
theorem gv_dvd (v : V3) : ((gv v : Int) ∣ v.1) ∧ ((gv v : Int) ∣ v.2.1) ∧ ((gv v : Int) ∣ v.2.2) := by
  unfold gv
  refine ⟨?_, ?_, ?_⟩
  · exact Int.ofNat_dvd_left.mpr (Nat.dvd_trans (Nat.gcd_dvd_left _ _) (Nat.gcd_dvd_left _ _))
  · exact Int.ofNat_dvd_left.mpr (Nat.dvd_trans (Nat.gcd_dvd_left _ _) (Nat.gcd_dvd_right _ _))
  · exact Int.ofNat_dvd_left.mpr (Nat.gcd_dvd_right _ _)
theorem sh_mul (v : V3) : v = sm3 (gv v) (sh v) := by
  obtain ⟨h1, h2, h3⟩ := gv_dvd v
  unfold sm3 sh
  exact v3_ext (by dsimp only; rw [Int.mul_ediv_cancel' h1]) (by dsimp only; rw [Int.mul_ediv_cancel' h2]) (by dsimp only; rw [Int.mul_ediv_cancel' h3])
theorem gv_sm (k : Int) (v : V3) : gv (sm3 k v) = k.natAbs * gv v := by
  unfold gv sm3
  dsimp only
  rw [Int.natAbs_mul, Int.natAbs_mul, Int.natAbs_mul, Nat.gcd_mul_left, Nat.gcd_mul_left]
theorem gv_0 {v : V3} (h : gv v = 0) : v = o3 := by
  have := sh_mul v
  rw [h] at this
  rw [this]
  unfold sm3 o3
  simp
theorem sh_prim {v : V3} (h : v ≠ o3) : prim (sh v) ∧ 0 < gv v := by
  have h0 : 0 < gv v := by
    rcases Nat.eq_zero_or_pos (gv v) with c | c
    · exact (h (gv_0 c)).elim
    · exact c
  refine ⟨?_, h0⟩
  have e : gv v = gv (sm3 (gv v) (sh v)) := by rw [← sh_mul]
  rw [gv_sm, Int.natAbs_natCast] at e
  unfold prim
  have : gv v * 1 = gv v * gv (sh v) := by omega
  exact (Nat.eq_of_mul_eq_mul_left h0 this).symm
theorem prim_0 {v : V3} (h : prim v) : v ≠ o3 := fun e => by
  unfold prim at h
  rw [e] at h
  exact absurd h (by decide)
theorem prim_uni {u w : V3} {a b : Int} (hu : prim u) (hw : prim w) (ha : 0 < a) (hb : 0 < b) (e : sm3 a u = sm3 b w) : u = w ∧ a = b := by
  have h1 : gv (sm3 a u) = gv (sm3 b w) := by rw [e]
  rw [gv_sm, gv_sm] at h1
  unfold prim at hu hw
  rw [hu, hw] at h1
  have hab : a = b := by omega
  subst hab
  have e := v3_iff.mp e
  unfold sm3 at e
  dsimp only at e
  obtain ⟨e1, e2, e3⟩ := e
  exact ⟨v3_ext (Int.eq_of_mul_eq_mul_left (by omega) e1) (Int.eq_of_mul_eq_mul_left (by omega) e2) (Int.eq_of_mul_eq_mul_left (by omega) e3), rfl⟩
theorem gv_ng (v : V3) : gv (ng3 v) = gv v := by
  unfold gv ng3
  dsimp only
  rw [Int.natAbs_neg, Int.natAbs_neg, Int.natAbs_neg]
theorem prim_ng {v : V3} (h : prim v) : prim (ng3 v) := by unfold prim at *; rw [gv_ng]; exact h
theorem sh_ng (v : V3) : sh (ng3 v) = ng3 (sh v) := by
  obtain ⟨h1, h2, h3⟩ := gv_dvd v
  unfold sh
  rw [gv_ng]
  unfold ng3
  exact v3_ext (Int.neg_ediv_of_dvd h1) (Int.neg_ediv_of_dvd h2) (Int.neg_ediv_of_dvd h3)
theorem sh_of {v u : V3} {k : Int} (hk : 0 < k) (hu : prim u) (e : v = sm3 k u) : sh v = u := by
  have hv : v ≠ o3 := fun h => by
    have : gv v = 0 := by rw [h]; rfl
    rw [e, gv_sm] at this
    unfold prim at hu
    rw [hu] at this
    omega
  obtain ⟨p1, p2⟩ := sh_prim hv
  refine (prim_uni p1 hu (show 0 < (gv v : Int) by omega) hk ?_).1
  rw [← sh_mul, e]
theorem natAbs_iz {a : Int} (h : -100000 ≤ a) (h2 : a ≤ 100000) : (if 0 ≤ iz a then iz a else 0 - iz a) = iz ((a.natAbs : Nat) : Int) := by
  rw [z0, iz_sub]
  by_cases c : 0 ≤ a
  · rw [if_pos (by rw [iz_le (by omega) (by omega) (by omega) (by omega)]; exact c)]
    congr 1; omega
  · rw [if_neg (by rw [iz_le (by omega) (by omega) (by omega) (by omega)]; exact c)]
    congr 1; omega
def sm100 (v : V3) : Prop := (-100000 ≤ v.1 ∧ v.1 ≤ 100000) ∧ (-100000 ≤ v.2.1 ∧ v.2.1 ≤ 100000) ∧ (-100000 ≤ v.2.2 ∧ v.2.2 ≤ 100000)
theorem gv_le {v : V3} (h : sm100 v) : Nat.gcd v.1.natAbs v.2.1.natAbs ≤ 100000 ∧ gv v ≤ 100000 := by
  obtain ⟨⟨a1, a2⟩, ⟨b1, b2⟩, c1, c2⟩ := h
  have h1 : Nat.gcd v.1.natAbs v.2.1.natAbs ≤ 100000 := by
    by_cases c : v.1.natAbs = 0
    · rw [c, Nat.gcd_zero_left]; omega
    · have := Nat.le_of_dvd (by omega) (Nat.gcd_dvd_left v.1.natAbs v.2.1.natAbs)
      omega
  refine ⟨h1, ?_⟩
  unfold gv
  by_cases c : Nat.gcd v.1.natAbs v.2.1.natAbs = 0
  · rw [c, Nat.gcd_zero_left]; omega
  · have := Nat.le_of_dvd (by omega) (Nat.gcd_dvd_left (Nat.gcd v.1.natAbs v.2.1.natAbs) v.2.2.natAbs)
    omega
theorem sh_id {v : V3} (h : gv v ≤ 1) : sh v = v := by
  rcases (show gv v = 0 ∨ gv v = 1 by omega) with c | c
  · rw [gv_0 c]; rfl
  · unfold sh
    rw [c]
    exact v3_ext (Int.ediv_one _) (Int.ediv_one _) (Int.ediv_one _)
theorem div_iz {a g : Int} (h : -100000 ≤ a) (h2 : a ≤ 100000) (h3 : 0 < g) (h4 : g ≤ 100000) (hd : g ∣ a) : iz a / iz g = iz (a / g) := by
  rw [iz_div (by omega) (by omega) (by omega) (by omega), Int.tdiv_eq_ediv_of_dvd hd]
theorem shorten_i {v : V3} (h : sm100 v) : fX6_shorten (iz v.1) (iz v.2.1) (iz v.2.2) = some (iz (sh v).1, iz (sh v).2.1, iz (sh v).2.2) := by
  obtain ⟨l1, l2⟩ := gv_le h
  obtain ⟨d1, d2, d3'⟩ := gv_dvd v
  obtain ⟨⟨a1, a2⟩, ⟨b1, b2⟩, c1, c2⟩ := h
  unfold fX6_shorten fX6_commonDivisor
  rw [natAbs_iz a1 a2, natAbs_iz b1 b2, natAbs_iz c1 c2, show (0 : Int32) = iz ((0 : Nat) : Int) from rfl, gcdC_i 20 _ _ 0 FU (by omega) (by omega) (by decide) (by omega) (by omega), bd_some, gcdC_i 20 _ _ 0 FU (by omega) (by omega) (by decide) (by omega) (by omega), bd_some]
  show (if iz ((gv v : Nat) : Int) ≤ 1 then _ else _) = _
  by_cases c : gv v ≤ 1
  · rw [if_pos (by rw [z1, iz_le (by omega) (by omega) (by omega) (by omega)]; omega), sh_id c]
  · rw [if_neg (by rw [z1, iz_le (by omega) (by omega) (by omega) (by omega)]; omega)]
    show gd_nz (iz ((gv v : Nat) : Int)) (gd_nz (iz ((gv v : Nat) : Int)) (gd_nz (iz ((gv v : Nat) : Int)) (some (iz v.1 / iz ((gv v : Nat) : Int), iz v.2.1 / iz ((gv v : Nat) : Int), iz v.2.2 / iz ((gv v : Nat) : Int))))) = _
    rw [nz_iz (by omega) (by omega) (by omega), nz_iz (by omega) (by omega) (by omega), nz_iz (by omega) (by omega) (by omega), div_iz a1 a2 (by omega) (by omega) d1, div_iz b1 b2 (by omega) (by omega) d2, div_iz c1 c2 (by omega) (by omega) d3']
    rfl
theorem natAbs_n {a : Int} (h : -100000 ≤ a) (h2 : a ≤ 100000) : (0 ≤ iz a ↔ 0 ≤ a) := by rw [z0, iz_le (by omega) (by omega) (by omega) (by omega)]
theorem divisor_i {a b : Int} (h : -100000 ≤ a) (h2 : a ≤ 100000) (h3 : -100000 ≤ b) (h4 : b ≤ 100000) : fX9_divisor (iz a) (iz b) = some (iz ((Nat.gcd a.natAbs b.natAbs : Nat) : Int)) := by
  have key : ∀ a b : Int, 0 ≤ a → a ≤ 100000 → 0 ≤ b → b ≤ 100000 → JX9_divisor_21 (iz a) (iz b) = some (iz ((Nat.gcd a.natAbs b.natAbs : Nat) : Int)) := by
    intro a b h1 h2 h3 h4
    unfold JX9_divisor_21
    have e1 : iz a = iz ((a.natAbs : Nat) : Int) := by congr 1; omega
    have e2 : iz b = iz ((b.natAbs : Nat) : Int) := by congr 1; omega
    rw [e1, e2]
    exact gcdM_i 20 _ _ FU (by omega) (by decide) (by omega) (by omega)
  unfold fX9_divisor JX9_divisor_10
  rw [iz_neg, iz_neg]
  by_cases c1 : 0 ≤ a
  · rw [if_pos ((natAbs_n h h2).mpr c1)]
    by_cases c2 : 0 ≤ b
    · rw [if_pos ((natAbs_n h3 h4).mpr c2)]
      exact key a b c1 h2 c2 h4
    · rw [if_neg (fun h => c2 ((natAbs_n h3 h4).mp h)), key a (-b) c1 h2 (by omega) (by omega), Int.natAbs_neg]
  · rw [if_neg (fun q => c1 ((natAbs_n h h2).mp q))]
    by_cases c2 : 0 ≤ b
    · rw [if_pos ((natAbs_n h3 h4).mpr c2), key (-a) b (by omega) (by omega) c2 h4, Int.natAbs_neg]
    · rw [if_neg (fun h => c2 ((natAbs_n h3 h4).mp h)), key (-a) (-b) (by omega) (by omega) (by omega) (by omega), Int.natAbs_neg, Int.natAbs_neg]
theorem step_i {v : V3} (h : sm100 v) (sx sy sw : Int32) : fX9_step sx sy sw (iz v.1) (iz v.2.1) (iz v.2.2) = some (iz (sh v).1, iz (sh v).2.1, iz (sh v).2.2) := by
  obtain ⟨l1, l2⟩ := gv_le h
  obtain ⟨d1, d2, d3'⟩ := gv_dvd v
  obtain ⟨⟨a1, a2⟩, ⟨b1, b2⟩, c1, c2⟩ := h
  unfold fX9_step
  rw [divisor_i a1 a2 b1 b2, bd_some, divisor_i (by omega) (by omega) c1 c2, bd_some, Int.natAbs_natCast]
  show (if iz ((gv v : Nat) : Int) = 0 then JX9_step_25 (iz v.2.1) (iz v.2.2) (iz ((gv v : Nat) : Int)) 0 sx sy sw else gd_nz (iz ((gv v : Nat) : Int)) (JX9_step_25 (iz v.2.1) (iz v.2.2) (iz ((gv v : Nat) : Int)) (iz v.1 / (iz ((gv v : Nat) : Int))) sx sy sw)) = _
  unfold JX9_step_25 JX9_step_42 JX9_step_59
  by_cases c : gv v = 0
  · have e : iz ((gv v : Nat) : Int) = 0 := by rw [c]; rfl
    rw [if_pos e, if_pos e, if_pos e, sh_id (by omega), gv_0 c]
    rfl
  · have e : ¬ iz ((gv v : Nat) : Int) = 0 := by rw [z0, iz_eq (by omega) (by omega) (by omega) (by omega)]; omega
    rw [if_neg e, if_neg e, if_neg e, nz_iz (by omega) (by omega) (by omega), nz_iz (by omega) (by omega) (by omega), nz_iz (by omega) (by omega) (by omega), div_iz a1 a2 (by omega) (by omega) d1, div_iz b1 b2 (by omega) (by omega) d2, div_iz c1 c2 (by omega) (by omega) d3']
    rfl
