/-! count, inner, number, rule and stairs alike -/
theorem lz_32 (x : Int) : (lz x).toInt32 = iz x := Int64.toInt32_ofInt
theorem lz_div {a b : Int} (h : -9223372036854775808 ≤ a) (h2 : a < 9223372036854775808) (h3 : -9223372036854775808 ≤ b) (h4 : b < 9223372036854775808) : lz a / lz b = lz (a.tdiv b) := (Int64.ofInt_tdiv (by rw [show Int64.minValue.toInt = -9223372036854775808 from rfl]; omega) (by rw [show Int64.maxValue.toInt = 9223372036854775807 from rfl]; omega) (by rw [show Int64.minValue.toInt = -9223372036854775808 from rfl]; omega) (by rw [show Int64.maxValue.toInt = 9223372036854775807 from rfl]; omega)).symm
theorem lz_6 {v : Int} (h : -1000000000 ≤ v) (h2 : v ≤ 1000000000) : lz (6 * v) / 6 = lz v := by
  rw [show (6 : Int64) = lz 6 from rfl, lz_div (by omega) (by omega) (by omega) (by omega), Int.mul_tdiv_cancel_left v (by omega)]
section
variable {f : Nat} {N : V3} {cs : Nat} {c : Nat → V3} {ss : Nat} {s : Nat → V3} {e : Nat → Int} {bd' : Nat → V3} {be L G : Nat → Int} {b bc : Nat} {FI CO CR SI' SR BO : Nat → Int32}
theorem Kc_bd (h : GF f N cs c ss s e bd' be L G) {k : Int} (hk : k ≤ 5) : Kc f N ss s e be L G k ≤ 132651 := by
  unfold Kc
  by_cases c1 : k < 0
  · rw [if_pos c1]; omega
  · rw [if_neg c1]
    by_cases c2 : k = 0
    · rw [if_pos c2]; omega
    · rw [if_neg c2]
      have b0 := box_bd h (Q := k) (by omega) (show 0 < 3 by omega)
      have b1 := box_bd h (Q := k) (by omega) (show 1 < 3 by omega)
      have b2 := box_bd h (Q := k) (by omega) (show 2 < 3 by omega)
      have := cx_le (pB f N ss s e be k) (bl L k 0) (bl L k 1) (bn L G k 1) (bl L k 2) (bn L G k 2) (bn L G k 0)
      have m1 := Nat.mul_le_mul b1.2.2.2.1 b2.2.2.2.1
      have m2 := Nat.mul_le_mul b0.2.2.2.1 m1
      omega
theorem Ki_bd (h : GF f N cs c ss s e bd' be L G) {k : Int} (hk : k ≤ 5) : Ki f N ss s e be L G k ≤ 132651 := by
  unfold Ki
  by_cases c1 : k ≤ 0
  · rw [if_pos c1]; omega
  · rw [if_neg c1]
    have b0 := box_bd h (Q := k) (by omega) (show 0 < 3 by omega)
    have b1 := box_bd h (Q := k) (by omega) (show 1 < 3 by omega)
    have b2 := box_bd h (Q := k) (by omega) (show 2 < 3 by omega)
    have := cx_le (pS f N ss s e be k 2) (bl L k 0) (bl L k 1) (bn L G k 1) (bl L k 2) (bn L G k 2) (bn L G k 0)
    have m1 := Nat.mul_le_mul b1.2.2.2.1 b2.2.2.2.1
    have m2 := Nat.mul_le_mul b0.2.2.2.1 m1
    omega
def nub (f : Nat) (K : Int → Nat) : Prop := (-1000000000 ≤ nu1 f K ∧ nu1 f K ≤ 1000000000) ∧ (-1000000000 ≤ nu2 f K ∧ nu2 f K ≤ 1000000000) ∧ (-1000000000 ≤ nu3 f K ∧ nu3 f K ≤ 1000000000)
theorem nu_bd (h : GF f N cs c ss s e bd' be L G) : nub f (Kc f N ss s e be L G) := by
  have k1 := Kc_bd h (k := 1) (by omega)
  have k2 := Kc_bd h (k := 2) (by omega)
  have k3 := Kc_bd h (k := 3) (by omega)
  generalize Kc f N ss s e be L G = K at *
  have e3 : -1000000 ≤ nu3 f K ∧ nu3 f K ≤ 1000000 := by unfold nu3; split <;> omega
  have e2 : -10000000 ≤ nu2 f K ∧ nu2 f K ≤ 10000000 := by unfold nu2; split <;> omega
  have e1 : -100000000 ≤ nu1 f K ∧ nu1 f K ≤ 100000000 := by unfold nu1; split <;> omega
  unfold nub
  omega
theorem grow_at {K : Int → Nat} {NU : Nat → Int32} (hN : NUok f K NU) (hb : nub f K) (n : Int) : fX2_at NU (lz n) = some (lz (nu3 f K * n ^ 3 + nu2 f K * n ^ 2 + nu1 f K * n + 6) / 6) := by
  obtain ⟨n0, n1, n2, n3⟩ := hN
  obtain ⟨b1, b2, b3⟩ := hb
  unfold fX2_at
  rw [y0, y1, y2, y3, ix_gd (by omega) (by omega), ix_gd (by omega) (by omega), ix_gd (by omega) (by omega), ix_gd (by omega) (by omega), iz_cn (by omega), iz_cn (by omega), iz_cn (by omega), iz_cn (by omega), n0, n1, n2, n3, iz_lz (by omega) (by omega), iz_lz (by omega) (by omega), iz_lz (by omega) (by omega), iz_lz (by omega) (by omega)]
  simp only [lz_mul, lz_add]
  congr 3
  grind
theorem at_K (h : GB f N cs c ss s e bd' be L G) {NU : Nat → Int32} (hN : NUok f (Kc f N ss s e be L G) NU) {k : Int} (h0 : 0 ≤ k) (h5 : k ≤ 5) : fX2_at NU (lz k) = some (lz (Kc f N ss s e be L G k : Int)) := by
  have hF := GB_facts h
  have kb := Kc_bd hF h5
  rw [grow_at hN (nu_bd hF), ← (grow_all h rfl rfl).1 k h0 h5, lz_6 (by omega) (by omega)]
theorem countOf_i (h : GF f N cs c ss s e bd' be L G) (hR : RefB b f N cs c ss s e be FI CO CR SI' SR BO) (hb : b < 8) {k : Int} (h0 : 0 ≤ k) (h5 : k ≤ 5) : fX9_countOf FI CO CR SI' SR BO (iz (b : Int)) (iz k) = some (iz (Kc f N ss s e be L G k : Int)) := by
  unfold fX9_countOf Kc
  rw [if_neg (show ¬ k < 0 by omega)]
  by_cases k0 : k = 0
  · rw [k0, if_pos (show iz 0 = 0 from rfl), if_pos rfl]; rfl
  · rw [if_neg (by rw [z0, iz_eq (by omega) (by omega) (by omega) (by omega)]; exact k0), if_neg k0, z1, counted_i h hR hb (by omega) (by omega), bd_some, pS_pB]
theorem q_count (h : GB f N cs c ss s e bd' be L G) (hR : RefB b f N cs c ss s e be FI CO CR SI' SR BO) (hb : b < bc) (hbc : bc ≤ 8) {NU : Nat → Int32} (hN : NUok f (Kc f N ss s e be L G) NU) (p2 : Int32) : ∃ r, fX8_count_c (iz (bc : Int)) NU (iz (b : Int)) p2 = some r ∧ fX9_count (iz (bc : Int)) FI CO CR SI' SR BO (iz (b : Int)) p2 = some r := by
  have hF := GB_facts h
  obtain ⟨k, rfl, k1, k2⟩ := some_iz p2
  unfold fX8_count_c fX9_count
  rw [find_i hb hbc, bd_some, is_i hb hbc, bd_some, if_neg n10, iz_lz k1 k2, show (0 : Int64) = lz 0 from rfl, show (5 : Int64) = lz 5 from rfl, in_z (by omega) (by omega) (by omega) (by omega) (by omega) (by omega), bd_some]
  by_cases c1 : k < 0
  · rw [if_pos ((lt0 k1 k2).mpr c1), if_neg (show ¬ (0 ≤ k ∧ k ≤ 5) by omega), if_pos rfl]
    exact ⟨_, rfl, rfl⟩
  · rw [if_neg (fun q => c1 ((lt0 k1 k2).mp q))]
    by_cases c2 : k ≤ 5
    · rw [if_pos (show iz k ≤ 5 by rw [z5, iz_le (by omega) (by omega) (by omega) (by omega)]; exact c2), if_pos (show 0 ≤ k ∧ k ≤ 5 by omega), if_neg n10, countOf_i hF hR (by omega) (by omega) c2, bd_some]
      unfold fX0_growth_c
      rw [bd_some, at_K h hN (by omega) c2, bd_some, lz_32]
      exact ⟨_, rfl, rfl⟩
    · rw [if_neg (show ¬ iz k ≤ 5 by rw [z5, iz_le (by omega) (by omega) (by omega) (by omega)]; exact c2), if_neg (show ¬ (0 ≤ k ∧ k ≤ 5) by omega), if_pos rfl]
      exact ⟨_, rfl, rfl⟩
theorem q_inner (h : GB f N cs c ss s e bd' be L G) (hR : RefB b f N cs c ss s e be FI CO CR SI' SR BO) (hb : b < bc) (hbc : bc ≤ 8) {NU : Nat → Int32} (hN : NUok f (Kc f N ss s e be L G) NU) (p2 : Int32) : ∃ r, fX8_inner_c (iz (bc : Int)) (iz (f : Int)) NU (iz (b : Int)) p2 = some r ∧ fX9_inner (iz (bc : Int)) FI CO CR SI' SR BO (iz (b : Int)) p2 = some r := by
  have hF := GB_facts h
  have f3 := hF.1
  obtain ⟨k, rfl, k1, k2⟩ := some_iz p2
  unfold fX8_inner_c fX9_inner
  rw [find_i hb hbc, bd_some, is_i hb hbc, bd_some, if_neg n10, iz_lz k1 k2, show (1 : Int64) = lz 1 from rfl, show (5 : Int64) = lz 5 from rfl, in_z (by omega) (by omega) (by omega) (by omega) (by omega) (by omega), bd_some]
  unfold fX8_isSwelling
  by_cases c1 : k < 1
  · rw [if_pos (show iz k < 1 by rw [z1, iz_lt (by omega) (by omega) (by omega) (by omega)]; exact c1), bd_some, if_pos rfl, if_neg (show ¬ (1 ≤ k ∧ k ≤ 5) by omega), if_pos rfl]
    exact ⟨_, rfl, rfl⟩
  · rw [if_neg (show ¬ iz k < 1 by rw [z1, iz_lt (by omega) (by omega) (by omega) (by omega)]; exact c1)]
    by_cases c2 : 5 < k
    · rw [if_pos (show 5 < iz k by rw [z5, iz_lt (by omega) (by omega) (by omega) (by omega)]; exact c2), bd_some, if_pos rfl, if_neg (show ¬ (1 ≤ k ∧ k ≤ 5) by omega), if_pos rfl]
      exact ⟨_, rfl, rfl⟩
    · rw [if_neg (show ¬ 5 < iz k by rw [z5, iz_lt (by omega) (by omega) (by omega) (by omega)]; exact c2), bd_some, if_neg n10, if_pos (show 1 ≤ k ∧ k ≤ 5 by omega), if_neg n10]
      have kb := Ki_bd hF (k := k) (by omega)
      have g := (grow_all h rfl rfl).2 k (by omega) (by omega)
      have ei : fX9_counted FI CO CR SI' SR BO (iz (b : Int)) (iz k) 2 = some (iz (Ki f N ss s e be L G k : Int)) := by
        rw [z2, counted_i hF hR (by omega) (by omega) (by omega)]
        unfold Ki
        rw [if_neg (by omega)]
      rw [ei, bd_some]
      unfold fX0_growth_c
      rw [bd_some, iz_neg, iz_lz (by omega) (by omega), grow_at hN (nu_bd hF), bd_some, ← g]
      refine ⟨_, ?_, rfl⟩
      have par : iz (f : Int) - iz (f : Int) / 2 * 2 = 0 ↔ f % 2 = 0 := by
        rcases (show f = 0 ∨ f = 1 ∨ f = 2 ∨ f = 3 by omega) with rfl | rfl | rfl | rfl <;> decide
      by_cases c3 : f % 2 = 0
      · rw [if_pos c3, if_pos (par.mpr c3), lz_6 (by omega) (by omega), lz_32]
      · rw [if_neg c3, if_neg (fun q => c3 (par.mp q)), ← Int.mul_neg, lz_6 (by omega) (by omega), lz_32, iz_neg, Int.neg_neg]
theorem layRule_i (h : GF f N cs c ss s e bd' be L G) (hR : RefB b f N cs c ss s e be FI CO CR SI' SR BO) (hb : b < 8) (SX : Nat → Int32) : ∃ SX', fX9_layRule FI CO CR SI' SR BO SX (iz (b : Int)) = some SX' ∧ NUok f (Kc f N ss s e be L G) SX' := by
  have c1 := countOf_i h hR hb (k := 1) (by omega) (by omega)
  have c2 := countOf_i h hR hb (k := 2) (by omega) (by omega)
  have c3 := countOf_i h hR hb (k := 3) (by omega) (by omega)
  have f3 := h.1
  have hFI : FI b = iz (f : Int) := hR.1
  generalize Kc f N ss s e be L G = K at *
  have s1 : ∀ a1 a3, JX9_layRule_164 FI CO CR SI' SR BO a1 1 a3 = some (upd a3 1 a1) := fun a1 a3 => by
    unfold JX9_layRule_164
    rw [y1, ix_gd (by omega) (by omega), iz_cn (by omega)]
  have s2 : ∀ a2 t0 m, JX9_layRule_125 FI CO CR SI' SR BO (iz (b : Int)) a2 t0 2 m = some (upd (upd m 2 t0) 1 (if f = 0 then 0 else 6 * (a2 - 1) - t0 - m 3)) := fun a2 t0 m => by
    unfold JX9_layRule_125
    rw [show (2 : Int32).toNatClampNeg = 2 from rfl, show (3 : Int32).toNatClampNeg = 3 from rfl, show gd_in (2 : Int32) 4 = fun o : Option (Nat → Int32) => o from by funext o; rw [y2, ix_gd (by omega) (by omega)], show gd_in (3 : Int32) 4 = fun o : Option (Nat → Int32) => o from by funext o; rw [y3, ix_gd (by omega) (by omega)], ix_gd hb (by omega), iz_cn (by omega), hFI]
    by_cases q : f = 0
    · rw [if_pos (show iz (f : Int) ≤ 0 by rw [z0, iz_le (by omega) (by omega) (by omega) (by omega)]; omega), s1, if_pos q]
    · rw [if_neg (show ¬ iz (f : Int) ≤ 0 by rw [z0, iz_le (by omega) (by omega) (by omega) (by omega)]; omega), s1, if_neg q]
      rfl
  have s3 : ∀ a2 a3 t0 m, JX9_layRule_89 FI CO CR SI' SR BO (iz (b : Int)) a2 a3 t0 3 m = (if f ≤ 1 then JX9_layRule_125 FI CO CR SI' SR BO (iz (b : Int)) a2 0 2 (upd m 3 t0) else JX9_layRule_125 FI CO CR SI' SR BO (iz (b : Int)) a2 (3 * (((a3 - 2 * a2) + 1) - t0)) 2 (upd m 3 t0)) := fun a2 a3 t0 m => by
    unfold JX9_layRule_89
    rw [show (3 : Int32).toNatClampNeg = 3 from rfl, show gd_in (3 : Int32) 4 = fun o : Option (Nat → Int32) => o from by funext o; rw [y3, ix_gd (by omega) (by omega)], ix_gd hb (by omega), iz_cn (by omega), hFI]
    by_cases q : f ≤ 1
    · rw [if_pos (show iz (f : Int) ≤ 1 by rw [z1, iz_le (by omega) (by omega) (by omega) (by omega)]; omega), if_pos q]
    · rw [if_neg (show ¬ iz (f : Int) ≤ 1 by rw [z1, iz_le (by omega) (by omega) (by omega) (by omega)]; omega), if_neg q]
      rfl
  have s4 : ∀ a2 a3 t0 m, JX9_layRule_48 FI CO CR SI' SR BO (iz (b : Int)) a2 a3 t0 m = (if f ≤ 2 then JX9_layRule_89 FI CO CR SI' SR BO (iz (b : Int)) a2 a3 0 3 (upd m 0 6) else JX9_layRule_89 FI CO CR SI' SR BO (iz (b : Int)) a2 a3 (((t0 - 3 * a3) + 3 * a2) - 1) 3 (upd m 0 6)) := fun a2 a3 t0 m => by
    unfold JX9_layRule_48
    rw [show (0 : Int32).toNatClampNeg = 0 from rfl, show gd_in (0 : Int32) 4 = fun o : Option (Nat → Int32) => o from by funext o; rw [y0, ix_gd (by omega) (by omega)], ix_gd hb (by omega), iz_cn (by omega), hFI]
    by_cases q : f ≤ 2
    · rw [if_pos (show iz (f : Int) ≤ 2 by rw [z2, iz_le (by omega) (by omega) (by omega) (by omega)]; omega), if_pos q]
    · rw [if_neg (show ¬ iz (f : Int) ≤ 2 by rw [z2, iz_le (by omega) (by omega) (by omega) (by omega)]; omega), if_neg q]
  unfold fX9_layRule
  rw [z1, c1, bd_some, ix_gd hb (by omega), iz_cn (by omega), hFI, z2, c2, bd_some]
  unfold JX9_layRule_27
  rw [ix_gd hb (by omega), ix_gd hb (by omega), iz_cn (by omega), hFI, z3, c3, bd_some]
  simp only [s4, s3, s2]
  rcases (show f = 0 ∨ f = 1 ∨ f = 2 ∨ f = 3 by omega) with rfl | rfl | rfl | rfl
  · rw [if_pos (by decide), if_pos (by decide), if_pos (by decide), if_pos (by decide), if_pos (by decide)]
    exact ⟨_, rfl, rfl, rfl, rfl, rfl⟩
  · rw [if_pos (by decide), if_pos (by decide), if_pos (by decide), if_pos (by decide), if_neg (by decide)]
    refine ⟨_, rfl, rfl, ?_, rfl, rfl⟩
    show 6 * (iz (K 1 : Int) - 1) - 0 - 0 = iz (6 * ((K 1 : Int) - 1) - 0 - 0)
    rw [z1, z6, iz_sub, iz_mul, z0, iz_sub, iz_sub]
  · have e2 : nu2 2 K = 3 * ((K 2 : Int) - 2 * K 1 + 1 - 0) := rfl
    have e1 : nu1 2 K = 6 * ((K 1 : Int) - 1) - nu2 2 K - 0 := rfl
    rw [if_neg (by decide), if_pos (by decide), if_pos (by decide), if_neg (by decide), if_neg (by decide)]
    refine ⟨_, rfl, rfl, ?_, ?_, rfl⟩
    · show 6 * (iz (K 1 : Int) - 1) - 3 * (((iz (K 2 : Int) - 2 * iz (K 1 : Int)) + 1) - 0) - 0 = iz (nu1 2 K)
      rw [e1, e2, z1, z6, z3, z2, z0]
      simp only [iz_sub, iz_mul, iz_add]
    · show 3 * (((iz (K 2 : Int) - 2 * iz (K 1 : Int)) + 1) - 0) = iz (nu2 2 K)
      rw [e2, z1, z3, z2, z0]
      simp only [iz_sub, iz_mul, iz_add]
  · have e3 : nu3 3 K = (K 3 : Int) - 3 * K 2 + 3 * K 1 - 1 := rfl
    have e2 : nu2 3 K = 3 * ((K 2 : Int) - 2 * K 1 + 1 - nu3 3 K) := rfl
    have e1 : nu1 3 K = 6 * ((K 1 : Int) - 1) - nu2 3 K - nu3 3 K := rfl
    rw [if_neg (by decide), if_neg (by decide), bd_some, if_neg (by decide), if_neg (by decide), if_neg (by decide)]
    refine ⟨_, rfl, rfl, ?_, ?_, ?_⟩
    · show 6 * (iz (K 1 : Int) - 1) - 3 * (((iz (K 2 : Int) - 2 * iz (K 1 : Int)) + 1) - (((iz (K 3 : Int) - 3 * iz (K 2 : Int)) + 3 * iz (K 1 : Int)) - 1)) - (((iz (K 3 : Int) - 3 * iz (K 2 : Int)) + 3 * iz (K 1 : Int)) - 1) = iz (nu1 3 K)
      rw [e1, e2, e3, z1, z6, z3, z2]
      simp only [iz_sub, iz_mul, iz_add]
    · show 3 * (((iz (K 2 : Int) - 2 * iz (K 1 : Int)) + 1) - (((iz (K 3 : Int) - 3 * iz (K 2 : Int)) + 3 * iz (K 1 : Int)) - 1)) = iz (nu2 3 K)
      rw [e2, e3, z1, z3, z2]
      simp only [iz_sub, iz_mul, iz_add]
    · show ((iz (K 3 : Int) - 3 * iz (K 2 : Int)) + 3 * iz (K 1 : Int)) - 1 = iz (nu3 3 K)
      rw [e3, z1, z3]
      simp only [iz_sub, iz_mul, iz_add]
end
