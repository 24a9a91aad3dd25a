/-! the reference puts a side into its row -/
def Rw (SR : Nat → Int32) (b ss : Nat) (s : Nat → V3) (e : Nat → Int) : Prop := ∀ i, i < ss → SR (360 * b + 4 * i) = iz (s i).1 ∧ SR (360 * b + 4 * i + 1) = iz (s i).2.1 ∧ SR (360 * b + 4 * i + 2) = iz (s i).2.2 ∧ SR (360 * b + 4 * i + 3) = iz (e i)
theorem ix_a (a b : Nat) : iz (a : Int) + iz (b : Int) = iz ((a + b : Nat) : Int) := by rw [iz_add]; rfl
theorem ix_m (a b : Nat) : iz (a : Int) * iz (b : Int) = iz ((a * b : Nat) : Int) := by rw [iz_mul, Int.natCast_mul]
theorem y0 : (0 : Int32) = iz ((0 : Nat) : Int) := rfl
theorem y1 : (1 : Int32) = iz ((1 : Nat) : Int) := rfl
theorem y2 : (2 : Int32) = iz ((2 : Nat) : Int) := rfl
theorem y3 : (3 : Int32) = iz ((3 : Nat) : Int) := rfl
theorem y4 : (4 : Int32) = iz ((4 : Nat) : Int) := rfl
theorem y120 : (120 : Int32) = iz ((120 : Nat) : Int) := rfl
theorem y360 : (360 : Int32) = iz ((360 : Nat) : Int) := rfl
theorem along_i {n : Nat} {P : Nat → V3} {u : V3} {i : Nat} (hi : i < n) (hn : n ≤ 140) : fX9_along (iz u.1) (iz u.2.1) (iz u.2.2) (px P) (py P) (pz P) (iz (i : Int)) = some (iz (d3 u (P i))) := by
  unfold fX9_along
  rw [ix_gd (by omega) (by omega), iz_cn (by omega), px_i, py_i, pz_i]
  simp only [iz_mul, iz_add]
  rfl
theorem rside_mv {po : Int32} {PX PY PZ : Nat → Int32} {u : V3} {ne : Int} {b k ss : Nat} (hb : b < 8) (hk : k ≤ ss) (hss : ss < 80) (SI SR : Nat → Int32) (hSI : SI b = iz (ss : Int)) : ∀ (m fuel : Nat) (M : Nat → Int32), m ≤ 4 * (ss - k) → m < fuel → (∀ x, M x = if 360 * b + 4 * k + m + 4 ≤ x ∧ x < 360 * b + 4 * ss + 4 then SR (x - 4) else SR x) → ∃ SR' : Nat → Int32, LX9_side_155 po (iz u.1) (iz u.2.1) (iz u.2.2) PX PY PZ fuel (iz (b : Int)) (iz ne) (iz ((360 * b : Nat) : Int)) (iz (k : Int)) (iz ((360 * b + 4 * k : Nat) : Int)) (iz ((4 * k + m : Nat) : Int) - 1) SI M = some (upd SI b (iz ((ss + 1 : Nat) : Int)), SR') ∧ ∀ x, SR' x = if x = 360 * b + 4 * k then iz u.1 else if x = 360 * b + 4 * k + 1 then iz u.2.1 else if x = 360 * b + 4 * k + 2 then iz u.2.2 else if x = 360 * b + 4 * k + 3 then iz ne else if 360 * b + 4 * k + 4 ≤ x ∧ x < 360 * b + 4 * ss + 4 then SR (x - 4) else SR x := by
  intro m
  induction m with
  | zero =>
    intro fuel M h1 h2 h3
    obtain ⟨fuel, rfl⟩ : ∃ q, fuel = q + 1 := ⟨fuel - 1, by omega⟩
    refine ⟨upd (upd (upd (upd M (360 * b + 4 * k) (iz u.1)) (360 * b + 4 * k + 1) (iz u.2.1)) (360 * b + 4 * k + 2) (iz u.2.2)) (360 * b + 4 * k + 3) (iz ne), ?_, fun x => ?_⟩
    · rw [LX9_side_155, if_pos (by rw [y4, ix_m, z1, iz_sub, iz_lt (by omega) (by omega) (by omega) (by omega)]; omega), y1, ix_a, y2, ix_a, y3, ix_a, ix_gd (by omega) (by omega), ix_gd (by omega) (by omega), ix_gd (by omega) (by omega), ix_gd (by omega) (by omega), ix_gd hb (by omega), iz_cn (by omega), iz_cn (by omega), iz_cn (by omega), iz_cn (by omega), iz_cn (by omega), hSI, ix_a]
    · unfold upd
      rw [h3 x]
      by_cases c0 : x = 360 * b + 4 * k
      · rw [if_neg (by omega), if_neg (by omega), if_neg (by omega), if_pos c0, if_pos c0]
      · by_cases c1 : x = 360 * b + 4 * k + 1
        · rw [if_neg (by omega), if_neg (by omega), if_pos c1, if_neg c0, if_pos c1]
        · by_cases c2 : x = 360 * b + 4 * k + 2
          · rw [if_neg (by omega), if_pos c2, if_neg c0, if_neg c1, if_pos c2]
          · by_cases c3 : x = 360 * b + 4 * k + 3
            · rw [if_pos c3, if_neg c0, if_neg c1, if_neg c2, if_pos c3]
            · rw [if_neg c3, if_neg c2, if_neg c1, if_neg c0, if_neg c0, if_neg c1, if_neg c2, if_neg c3]
  | succ m ih =>
    intro fuel M h1 h2 h3
    obtain ⟨fuel, rfl⟩ : ∃ q, fuel = q + 1 := ⟨fuel - 1, by omega⟩
    obtain ⟨SR', e1, e2⟩ := ih fuel (upd M (360 * b + (4 * k + m) + 4) (M (360 * b + (4 * k + m)))) (by omega) (by omega) (fun x => by
      unfold upd
      by_cases c : x = 360 * b + (4 * k + m) + 4
      · rw [if_pos c, if_pos (by omega), h3, if_neg (by omega)]
        congr 1; omega
      · rw [if_neg c, h3 x]
        by_cases c2 : 360 * b + 4 * k + (m + 1) + 4 ≤ x ∧ x < 360 * b + 4 * ss + 4
        · rw [if_pos c2, if_pos (by omega)]
        · rw [if_neg c2, if_neg (by omega)])
    refine ⟨SR', ?_, e2⟩
    have e3 : iz ((4 * k + (m + 1) : Nat) : Int) - 1 = iz ((4 * k + m : Nat) : Int) := by rw [z1, iz_sub]; congr 1; omega
    have e4 : iz ((4 * k + m : Nat) : Int) + (-1) = iz ((4 * k + m : Nat) : Int) - 1 := by rw [z1, iz_neg, iz_add, iz_sub]; rfl
    rw [e3, LX9_side_155, if_neg (by rw [y4, ix_m, ix_lt (by omega) (by omega)]; omega), ix_a, y4, ix_a, ix_gd (by omega) (by omega), ix_gd (by omega) (by omega), iz_cn (by omega), iz_cn (by omega), e4]
    exact e1
theorem rside_put {po : Int32} {PX PY PZ : Nat → Int32} {u : V3} {ne : Int} {b k ss : Nat} (hb : b < 8) (hk : k ≤ ss) (hss : ss < 80) {SI SR : Nat → Int32} (hSI : SI b = iz (ss : Int)) {s : Nat → V3} {e : Nat → Int} (hR : Rw SR b ss s e) : ∃ SR' : Nat → Int32, JX9_side_143 po (iz u.1) (iz u.2.1) (iz u.2.2) PX PY PZ (iz (b : Int)) (iz ne) (iz ((360 * b : Nat) : Int)) (iz (k : Int)) (iz ((360 * b + 4 * k : Nat) : Int)) SI SR = some (upd SI b (iz ((ss + 1 : Nat) : Int)), SR') ∧ Rw SR' b (ss + 1) (insA s k u) (insA e k ne) ∧ ∀ x, (x < 360 * b ∨ 360 * b + 360 ≤ x) → SR' x = SR x := by
  obtain ⟨SR', e1, e2⟩ := rside_mv (po := po) (PX := PX) (PY := PY) (PZ := PZ) (u := u) (ne := ne) hb hk hss SI SR hSI (4 * (ss - k)) FU SR (Nat.le_refl _) (by unfold FU; omega) (fun x => by rw [if_neg (by omega)])
  refine ⟨SR', ?_, fun i hi => ?_, fun x hx => ?_⟩
  · unfold JX9_side_143
    rw [ix_gd hb (by omega), iz_cn (by omega), hSI, y4, ix_m]
    rw [show 4 * k + 4 * (ss - k) = 4 * ss by omega] at e1
    exact e1
  · unfold insA
    by_cases c1 : i < k
    · obtain ⟨g1, g2, g3, g4⟩ := hR i (by omega)
      rw [if_pos c1, if_pos c1]
      refine ⟨?_, ?_, ?_, ?_⟩
      · rw [e2, if_neg (by omega), if_neg (by omega), if_neg (by omega), if_neg (by omega), if_neg (by omega)]; exact g1
      · rw [e2, if_neg (by omega), if_neg (by omega), if_neg (by omega), if_neg (by omega), if_neg (by omega)]; exact g2
      · rw [e2, if_neg (by omega), if_neg (by omega), if_neg (by omega), if_neg (by omega), if_neg (by omega)]; exact g3
      · rw [e2, if_neg (by omega), if_neg (by omega), if_neg (by omega), if_neg (by omega), if_neg (by omega)]; exact g4
    · by_cases c2 : i = k
      · rw [if_neg c1, if_pos c2, if_neg c1, if_pos c2]
        refine ⟨?_, ?_, ?_, ?_⟩
        · rw [e2, if_pos (by omega)]
        · rw [e2, if_neg (by omega), if_pos (by omega)]
        · rw [e2, if_neg (by omega), if_neg (by omega), if_pos (by omega)]
        · rw [e2, if_neg (by omega), if_neg (by omega), if_neg (by omega), if_pos (by omega)]
      · rw [if_neg c1, if_neg c2, if_neg c1, if_neg c2]
        obtain ⟨g1, g2, g3, g4⟩ := hR (i - 1) (by omega)
        refine ⟨?_, ?_, ?_, ?_⟩
        · rw [e2, if_neg (by omega), if_neg (by omega), if_neg (by omega), if_neg (by omega), if_pos (by omega), ← g1]; congr 1; omega
        · rw [e2, if_neg (by omega), if_neg (by omega), if_neg (by omega), if_neg (by omega), if_pos (by omega), ← g2]; congr 1; omega
        · rw [e2, if_neg (by omega), if_neg (by omega), if_neg (by omega), if_neg (by omega), if_pos (by omega), ← g3]; congr 1; omega
        · rw [e2, if_neg (by omega), if_neg (by omega), if_neg (by omega), if_neg (by omega), if_pos (by omega), ← g4]; congr 1; omega
  · rw [e2, if_neg (by omega), if_neg (by omega), if_neg (by omega), if_neg (by omega), if_neg (by omega)]
theorem rless_i {SR : Nat → Int32} {b i ss : Nat} {s : Nat → V3} {e : Nat → Int} {u : V3} (hb : b < 8) (hi : i < ss) (hss : ss ≤ 80) (hR : Rw SR b ss s e) (hs : sm100 (s i)) (hu : sm100 u) : ∃ r : Int, fX9_isLess (iz u.1) (iz u.2.1) (iz u.2.2) SR (iz ((360 * b + 4 * i : Nat) : Int)) = some (iz r) ∧ (r = 0 ∨ r = 1) ∧ (r = 1 ↔ lx (s i) u) := by
  obtain ⟨g1, g2, g3, g4⟩ := hR i hi
  obtain ⟨a1, a2, a3⟩ := hs
  obtain ⟨b1, b2, b3⟩ := hu
  unfold fX9_isLess lx
  rw [y1, ix_a, y2, ix_a, ix_gd (by omega) (by omega), ix_gd (by omega) (by omega), ix_gd (by omega) (by omega), iz_cn (by omega), iz_cn (by omega), iz_cn (by omega), g1, g2, g3]
  simp (disch := omega) only [iz_eq, iz_le]
  by_cases c1 : (s i).1 = u.1
  · rw [if_pos c1]
    by_cases c2 : (s i).2.1 = u.2.1
    · rw [if_pos c2]
      by_cases c3 : u.2.2 ≤ (s i).2.2
      · rw [if_pos c3]; exact ⟨0, rfl, Or.inl rfl, by omega⟩
      · rw [if_neg c3]; exact ⟨1, rfl, Or.inr rfl, by omega⟩
    · rw [if_neg c2]
      by_cases c3 : u.2.1 ≤ (s i).2.1
      · rw [if_pos c3]; exact ⟨0, rfl, Or.inl rfl, by omega⟩
      · rw [if_neg c3]; exact ⟨1, rfl, Or.inr rfl, by omega⟩
  · rw [if_neg c1]
    by_cases c3 : u.1 ≤ (s i).1
    · rw [if_pos c3]; exact ⟨0, rfl, Or.inl rfl, by omega⟩
    · rw [if_neg c3]; exact ⟨1, rfl, Or.inr rfl, by omega⟩
