/-! number, rule and stairs alike -/
section
variable {f : Nat} {N : V3} {cs : Nat} {c : Nat → V3} {ss : Nat} {s : Nat → V3} {e : Nat → Int} {bd' : Nat → V3} {be L G : Nat → Int} {b bc : Nat} {FI CO CR SI' SR BO : Nat → Int32}
theorem NU_same {K : Int → Nat} {NU SX : Nat → Int32} (h : NUok f K NU) (h' : NUok f K SX) {i : Nat} (hi : i < 4) : SX i = NU i := by
  obtain ⟨a0, a1, a2, a3⟩ := h
  obtain ⟨b0, b1, b2, b3⟩ := h'
  rcases (show i = 0 ∨ i = 1 ∨ i = 2 ∨ i = 3 by omega) with rfl | rfl | rfl | rfl
  · rw [a0, b0]
  · rw [a1, b1]
  · rw [a2, b2]
  · rw [a3, b3]
theorem q_number (h : GB f N cs c ss s e bd' be L G) (hR : RefB b f N cs c ss s e be FI CO CR SI' SR BO) (hb : b < bc) (hbc : bc ≤ 8) {NU : Nat → Int32} (hN : NUok f (Kc f N ss s e be L G) NU) (SX : Nat → Int32) (p2 : Int32) : ∃ r SX', fX8_number_c (iz (bc : Int)) NU (iz (b : Int)) p2 = some r ∧ fX9_number (iz (bc : Int)) FI CO CR SI' SR BO SX (iz (b : Int)) p2 = some (r, SX') := by
  have hF := GB_facts h
  obtain ⟨k, rfl, k1, k2⟩ := some_iz p2
  unfold fX8_number_c fX9_number
  rw [find_i hb hbc, bd_some, is_i hb hbc, bd_some, if_neg n10, iz_lz k1 k2, show (0 : Int64) = lz 0 from rfl, show (3 : Int64) = lz 3 from rfl, in_z (by omega) (by omega) (by omega) (by omega) (by omega) (by omega), bd_some]
  by_cases c1 : k < 0
  · rw [if_pos ((lt0 k1 k2).mpr c1), if_neg (show ¬ (0 ≤ k ∧ k ≤ 3) by omega), if_pos rfl]
    exact ⟨_, _, rfl, rfl⟩
  · rw [if_neg (fun q => c1 ((lt0 k1 k2).mp q))]
    by_cases c2 : k ≤ 3
    · obtain ⟨SX', q1, q2⟩ := layRule_i hF hR (by omega) SX
      obtain ⟨k, rfl⟩ := nat_of (show 0 ≤ k by omega)
      rw [if_pos ((le3 k1 k2).mpr c2), if_pos (show 0 ≤ (k : Int) ∧ (k : Int) ≤ 3 by omega), if_neg n10, q1, bd_some, ix_gd (by omega) (by omega), ix_gd (by omega) (by omega), iz_cn (by omega)]
      unfold fX0_growth_c
      rw [bd_some, NU_same hN q2 (by omega)]
      exact ⟨_, _, rfl, rfl⟩
    · rw [if_neg (fun q => c2 ((le3 k1 k2).mp q)), if_neg (show ¬ (0 ≤ k ∧ k ≤ 3) by omega), if_pos rfl]
      exact ⟨_, _, rfl, rfl⟩
theorem q_rule (h : GB f N cs c ss s e bd' be L G) (hR : RefB b f N cs c ss s e be FI CO CR SI' SR BO) (hb : b < bc) (hbc : bc ≤ 8) {NU : Nat → Int32} (hN : NUok f (Kc f N ss s e be L G) NU) (SX : Nat → Int32) (p2 : Int32) : ∃ r SX', fX8_rule_c (iz (bc : Int)) NU (iz (b : Int)) p2 = some r ∧ fX9_rule (iz (bc : Int)) FI CO CR SI' SR BO SX (iz (b : Int)) p2 = some (r, SX') := by
  have hF := GB_facts h
  obtain ⟨k, rfl, k1, k2⟩ := some_iz p2
  unfold fX8_rule_c fX9_rule
  rw [find_i hb hbc, bd_some, is_i hb hbc, bd_some, if_neg n10, show (1000 : Int32) = iz 1000 from rfl, among_z k1 k2 (by omega) (by omega), bd_some, iz_lz k1 k2, show (-1000 : Int64) = lz (-1000) from by decide, show (1000 : Int64) = lz 1000 from rfl, in_z (by omega) (by omega) (by omega) (by omega) (by omega) (by omega), bd_some]
  by_cases c1 : -1000 ≤ k ∧ k ≤ 1000
  · obtain ⟨SX', q1, q2⟩ := layRule_i hF hR (by omega) SX
    obtain ⟨u, hu⟩ : ∃ u, FU = u + 8 := ⟨FU - 8, by unfold FU; omega⟩
    have st : ∀ (fu i : Nat) (a3 : Int64), i < 4 → LX9_rule_42 (iz (bc : Int)) FI CO CR SI' SR BO (fu + 1) (iz k) a3 (iz (i : Int)) SX' = LX9_rule_42 (iz (bc : Int)) FI CO CR SI' SR BO fu (iz k) (a3 * lz k + (NU i).toInt64) (iz ((i : Int) - 1)) SX' := fun fu i a3 hi => by
      rw [LX9_rule_42, if_neg (fun q => by have := (lt0 (by omega) (by omega)).mp q; omega), ix_gd (by omega) (by omega), iz_cn (by omega), NU_same hN q2 (by omega), iz_lz k1 k2, show (-1 : Int32) = iz (-1) from rfl, iz_add]
      rfl
    have en : ∀ (fu : Nat) (a3 : Int64), LX9_rule_42 (iz (bc : Int)) FI CO CR SI' SR BO (fu + 1) (iz k) a3 (iz (-1)) SX' = some (a3 / 6, SX') := fun fu a3 => by
      rw [LX9_rule_42, if_pos ((lt0 (by omega) (by omega)).mpr (by omega))]
    rw [if_pos c1, if_neg n10, if_neg n10, q1, bd_some, hu]
    unfold fX0_growth_c fX2_at
    rw [bd_some, y0, y1, y2, y3, ix_gd (by omega) (by omega), ix_gd (by omega) (by omega), ix_gd (by omega) (by omega), ix_gd (by omega) (by omega), ix_gd (by omega) (by omega), iz_cn (by omega), iz_cn (by omega), iz_cn (by omega), iz_cn (by omega), bd_some, NU_same hN q2 (by omega), st _ 2 _ (by omega), show iz (((2 : Nat) : Int) - 1) = iz ((1 : Nat) : Int) from rfl, st _ 1 _ (by omega), show iz (((1 : Nat) : Int) - 1) = iz ((0 : Nat) : Int) from rfl, st _ 0 _ (by omega), show iz (((0 : Nat) : Int) - 1) = iz (-1) from rfl, en]
    exact ⟨_, _, rfl, rfl⟩
  · rw [if_neg c1, if_pos rfl, if_pos rfl]
    exact ⟨_, _, rfl, rfl⟩
/-- binomials with their signs -/
def bz (f j : Nat) : Int := match f, j with
  | _, 0 => 1
  | 0, 1 => -1
  | 1, 1 => -2
  | 2, 1 => -3
  | 3, 1 => -4
  | 1, 2 => 1
  | 2, 2 => 3
  | 3, 2 => 6
  | 2, 3 => -1
  | 3, 3 => -4
  | 3, 4 => 1
  | _, _ => 0
def sts (f : Nat) (K : Int → Nat) (i : Nat) : Nat → Int
  | 0 => 0
  | j + 1 => sts f K i j + bz f j * K ((i : Int) - j)
theorem bz_next {f j : Nat} (hf : f ≤ 3) (hj : j ≤ f) : (-(bz f j) * ((f : Int) + 1 - j)).tdiv ((j : Int) + 1) = bz f (j + 1) := by
  rcases (show f = 0 ∨ f = 1 ∨ f = 2 ∨ f = 3 by omega) with rfl | rfl | rfl | rfl <;> rcases (show j = 0 ∨ j = 1 ∨ j = 2 ∨ j = 3 by omega) with rfl | rfl | rfl | rfl <;> first | omega | decide
theorem bz_bd {f j : Nat} (hf : f ≤ 3) (hj : j ≤ f) : -6 ≤ bz f j ∧ bz f j ≤ 6 := by
  rcases (show f = 0 ∨ f = 1 ∨ f = 2 ∨ f = 3 by omega) with rfl | rfl | rfl | rfl <;> rcases (show j = 0 ∨ j = 1 ∨ j = 2 ∨ j = 3 by omega) with rfl | rfl | rfl | rfl <;> first | omega | decide
theorem stair_i (h : GB f N cs c ss s e bd' be L G) {NU : Nat → Int32} (hN : NUok f (Kc f N ss s e be L G) NU) {i : Nat} (hi : i ≤ f) : fX2_stair (iz (f : Int)) NU (iz (i : Int)) = some (iz (sts f (Kc f N ss s e be L G) i (i + 1))) := by
  have f3 := (GB_facts h).1
  have loop : ∀ (m fuel j : Nat), j + m = i + 1 → m < fuel → LX2_stair_8 (iz (f : Int)) NU fuel (iz (i : Int)) (lz (sts f (Kc f N ss s e be L G) i j)) (lz (bz f j)) (iz (j : Int)) = some (iz (sts f (Kc f N ss s e be L G) i (i + 1))) := by
    intro m
    induction m with
    | zero =>
      intro fuel j h1 h2
      obtain ⟨fuel, rfl⟩ : ∃ q, fuel = q + 1 := ⟨fuel - 1, by omega⟩
      rw [LX2_stair_8, if_pos ((ix_lt (by omega) (by omega)).mpr (by omega)), lz_32, show j = i + 1 by omega]
    | succ m ih =>
      intro fuel j h1 h2
      obtain ⟨fuel, rfl⟩ : ∃ q, fuel = q + 1 := ⟨fuel - 1, by omega⟩
      have bb := bz_bd f3 (show j ≤ f by omega)
      have mm := mbd (a := -(bz f j)) (b := (f : Int) + 1 - j) 6 4 (by omega) (by omega) (by omega) (by omega)
      rw [LX2_stair_8, if_neg (fun q => by have := (ix_lt (by omega) (by omega)).mp q; omega), iz_sub, z1, iz_add, iz_add, iz_sub, iz_lz (by omega) (by omega), iz_lz (by omega) (by omega), iz_lz (by omega) (by omega), at_K h hN (by omega) (by omega), bd_some, lz_neg, lz_mul, lz_mul, lz_add]
      unfold gd_nzL cut
      rw [if_neg (fun q => by rw [show (0 : Int64) = lz 0 from rfl, lz_eq (by omega) (by omega) (by omega) (by omega)] at q; omega), lz_div (by omega) (by omega) (by omega) (by omega), bz_next f3 (by omega)]
      exact ih fuel (j + 1) (by omega) (by omega)
  unfold fX2_stair
  exact loop (i + 1) FU 0 (by omega) (by unfold FU; omega)
theorem chosen_i {f j : Nat} (hf : f ≤ 3) (hj : j ≤ f) : ∃ v : Int, fX9_chosen (iz (f : Int) + 1) (iz (j : Int)) = some (iz v) ∧ (if j % 2 = 0 then v else -v) = bz f j := by
  have st : ∀ (fu : Nat) (a0 a1 a2 a3 r : Int), 1 ≤ a3 → a3 ≤ a1 → a1 ≤ 3 → r = (a2 * (a0 - a3 + 1)).tdiv a3 → -100 ≤ a2 * (a0 - a3 + 1) → a2 * (a0 - a3 + 1) ≤ 100 → LX9_chosen_4 (fu + 1) (iz a0) (iz a1) (iz a2) (iz a3) = LX9_chosen_4 fu (iz a0) (iz a1) (iz r) (iz (a3 + 1)) := fun fu a0 a1 a2 a3 r h1 h2 h3 hr h4 h5 => by
    rw [LX9_chosen_4, if_neg (by rw [iz_lt (by omega) (by omega) (by omega) (by omega)]; omega), nz_iz (by omega) (by omega) (by omega), iz_sub, z1, iz_add, iz_mul, iz_div (by omega) (by omega) (by omega) (by omega), iz_add, ← hr]
  have en : ∀ (fu : Nat) (a0 a1 a2 a3 : Int), a1 < a3 → 0 ≤ a1 → a3 ≤ 10 → LX9_chosen_4 (fu + 1) (iz a0) (iz a1) (iz a2) (iz a3) = some (iz a2) := fun fu a0 a1 a2 a3 h1 h2 h3 => by
    rw [LX9_chosen_4, if_pos (by rw [iz_lt (by omega) (by omega) (by omega) (by omega)]; omega)]
  obtain ⟨u, hu⟩ : ∃ u, FU = u + 8 := ⟨FU - 8, by unfold FU; omega⟩
  unfold fX9_chosen
  rw [hu, z1, iz_add]
  rcases (show f = 0 ∨ f = 1 ∨ f = 2 ∨ f = 3 by omega) with rfl | rfl | rfl | rfl <;> rcases (show j = 0 ∨ j = 1 ∨ j = 2 ∨ j = 3 by omega) with rfl | rfl | rfl | rfl
  all_goals first | omega | skip
  · rw [en _ _ _ _ _ (by decide) (by decide) (by decide)]; exact ⟨1, rfl, by decide⟩
  · rw [en _ _ _ _ _ (by decide) (by decide) (by decide)]; exact ⟨1, rfl, by decide⟩
  · rw [st _ _ _ _ _ 2 (by decide) (by decide) (by decide) (by decide) (by decide) (by decide), en _ _ _ _ _ (by decide) (by decide) (by decide)]; exact ⟨2, rfl, by decide⟩
  · rw [en _ _ _ _ _ (by decide) (by decide) (by decide)]; exact ⟨1, rfl, by decide⟩
  · rw [st _ _ _ _ _ 3 (by decide) (by decide) (by decide) (by decide) (by decide) (by decide), en _ _ _ _ _ (by decide) (by decide) (by decide)]; exact ⟨3, rfl, by decide⟩
  · rw [st _ _ _ _ _ 3 (by decide) (by decide) (by decide) (by decide) (by decide) (by decide), st _ _ _ _ _ 3 (by decide) (by decide) (by decide) (by decide) (by decide) (by decide), en _ _ _ _ _ (by decide) (by decide) (by decide)]; exact ⟨3, rfl, by decide⟩
  · rw [en _ _ _ _ _ (by decide) (by decide) (by decide)]; exact ⟨1, rfl, by decide⟩
  · rw [st _ _ _ _ _ 4 (by decide) (by decide) (by decide) (by decide) (by decide) (by decide), en _ _ _ _ _ (by decide) (by decide) (by decide)]; exact ⟨4, rfl, by decide⟩
  · rw [st _ _ _ _ _ 4 (by decide) (by decide) (by decide) (by decide) (by decide) (by decide), st _ _ _ _ _ 6 (by decide) (by decide) (by decide) (by decide) (by decide) (by decide), en _ _ _ _ _ (by decide) (by decide) (by decide)]; exact ⟨6, rfl, by decide⟩
  · rw [st _ _ _ _ _ 4 (by decide) (by decide) (by decide) (by decide) (by decide) (by decide), st _ _ _ _ _ 6 (by decide) (by decide) (by decide) (by decide) (by decide) (by decide), st _ _ _ _ _ 4 (by decide) (by decide) (by decide) (by decide) (by decide) (by decide), en _ _ _ _ _ (by decide) (by decide) (by decide)]; exact ⟨4, rfl, by decide⟩
theorem rstair_i (h : GF f N cs c ss s e bd' be L G) (hR : RefB b f N cs c ss s e be FI CO CR SI' SR BO) (hb : b < 8) (bo : Int32) {i : Nat} (hi : i ≤ f) : LX9_stairs_31 bo FI CO CR SI' SR BO FU (iz (b : Int)) (iz (i : Int)) 0 0 = some (iz (sts f (Kc f N ss s e be L G) i (i + 1))) := by
  have f3 := h.1
  have hFI : FI b = iz (f : Int) := hR.1
  have loop : ∀ (m fuel j : Nat), j + m = i + 1 → m < fuel → LX9_stairs_31 bo FI CO CR SI' SR BO fuel (iz (b : Int)) (iz (i : Int)) (iz (sts f (Kc f N ss s e be L G) i j)) (iz (j : Int)) = some (iz (sts f (Kc f N ss s e be L G) i (i + 1))) := by
    intro m
    induction m with
    | zero =>
      intro fuel j h1 h2
      obtain ⟨fuel, rfl⟩ : ∃ q, fuel = q + 1 := ⟨fuel - 1, by omega⟩
      rw [LX9_stairs_31, if_pos ((ix_lt (by omega) (by omega)).mpr (by omega)), show j = i + 1 by omega]
    | succ m ih =>
      intro fuel j h1 h2
      obtain ⟨fuel, rfl⟩ : ∃ q, fuel = q + 1 := ⟨fuel - 1, by omega⟩
      obtain ⟨v, q1, q2⟩ := chosen_i f3 (show j ≤ f by omega)
      have par : iz (j : Int) - iz (j : Int) / 2 * 2 = 0 ↔ j % 2 = 0 := by
        rcases (show j = 0 ∨ j = 1 ∨ j = 2 ∨ j = 3 by omega) with rfl | rfl | rfl | rfl <;> decide
      have co := countOf_i h hR hb (k := (i : Int) - j) (by omega) (by omega)
      have := ih fuel (j + 1) (by omega) (by omega)
      rw [LX9_stairs_31, if_neg (fun q => by have := (ix_lt (by omega) (by omega)).mp q; omega)]
      unfold JX9_stairs_50
      rw [ix_gd hb (by omega), ix_gd hb (by omega), iz_cn (by omega), hFI, q1, bd_some, bd_some, iz_sub, co, bd_some, bd_some, ix_s, z1, iz_neg, iz_mul, iz_mul, iz_mul, iz_mul, iz_add, iz_add]
      rw [sts] at this
      by_cases c1 : j % 2 = 0
      · rw [if_pos (par.mpr c1)]
        rw [if_pos c1] at q2
        rw [q2, Int.one_mul]
        exact this
      · rw [if_neg (fun q => c1 (par.mp q))]
        rw [if_neg c1] at q2
        rw [show (-1 : Int) * v = bz f j by omega]
        exact this
  exact loop (i + 1) FU 0 (by omega) (by unfold FU; omega)
theorem q_stairs (h : GB f N cs c ss s e bd' be L G) (hR : RefB b f N cs c ss s e be FI CO CR SI' SR BO) (hb : b < bc) (hbc : bc ≤ 8) {NU : Nat → Int32} (hN : NUok f (Kc f N ss s e be L G) NU) (p2 : Int32) : ∃ r, fX8_stairs_c (iz (bc : Int)) (iz (f : Int)) (iz (f : Int)) NU (iz (b : Int)) p2 = some r ∧ fX9_stairs (iz (bc : Int)) FI CO CR SI' SR BO (iz (b : Int)) p2 = some r := by
  have hF := GB_facts h
  have f3 := hF.1
  have hFI : FI b = iz (f : Int) := hR.1
  obtain ⟨k, rfl, k1, k2⟩ := some_iz p2
  unfold fX8_stairs_c fX9_stairs
  rw [find_i hb hbc, bd_some, is_i hb hbc, bd_some, if_neg n10, ix_gd (by omega) (by omega), iz_cn (by omega), hFI, iz_lz k1 k2, iz_lz (by omega) (by omega), show (0 : Int64) = lz 0 from rfl, in_z (by omega) (by omega) (by omega) (by omega) (by omega) (by omega), bd_some]
  by_cases c1 : k < 0
  · rw [if_pos ((lt0 k1 k2).mpr c1), if_neg (show ¬ (0 ≤ k ∧ k ≤ (f : Int)) by omega), if_pos rfl]
    exact ⟨_, rfl, rfl⟩
  · rw [if_neg (fun q => c1 ((lt0 k1 k2).mp q))]
    by_cases c2 : k ≤ f
    · obtain ⟨k, rfl⟩ := nat_of (show 0 ≤ k by omega)
      rw [if_pos (show iz (k : Int) ≤ iz (f : Int) from (ix_le (by omega) (by omega)).mpr (by omega)), if_pos (show 0 ≤ (k : Int) ∧ (k : Int) ≤ f by omega), if_neg n10, rstair_i hF hR (by omega) _ (by omega)]
      unfold fX0_growth_c
      rw [bd_some, stair_i h hN (by omega), bd_some]
      exact ⟨_, rfl, rfl⟩
    · rw [if_neg (by rw [iz_le (by omega) (by omega) (by omega) (by omega)]; exact c2), if_neg (show ¬ (0 ≤ k ∧ k ≤ (f : Int)) by omega), if_pos rfl]
      exact ⟨_, rfl, rfl⟩
end
