/-! a swelling of the class -/
section
variable {f : Nat} {N : V3} {cs : Nat} {c : Nat → V3} {ss : Nat} {s : Nat → V3} {e : Nat → Int} {bd' : Nat → V3} {be L G : Nat → Int}
theorem init7_i (h : GF f N cs c ss s e bd' be L G) {Q : Int} (hQ : 1 ≤ Q ∧ Q ≤ 5) : ∃ (lo hi : Int32) (BE : Nat → Int32), fX7_init ss (nbd f) 0 0 0 0 0 0 0 0 0 (iz (ss : Int)) (px s) (py s) (pz s) (pe e) (iz ((nbd f : Nat) : Int)) (px bd') (py bd') (pz bd') (pe be) (pe L) (pe G) (iz Q) = some (iz Q, iz (bl L Q 0), iz (G 0 * Q), iz (bl L Q 1), iz (G 1 * Q), iz (bl L Q 2), iz (G 2 * Q), lo, hi, BE, bn L G Q 0 + 1) ∧ ∀ i, i ≤ bn L G Q 0 → BE i = iz ((cx (pB f N ss s e be Q) (bl L Q 0) (bl L Q 1) (bn L G Q 1) (bl L Q 2) (bn L G Q 2) i : Nat) : Int) := by
  have b0 := box_bd h hQ (show 0 < 3 by omega)
  have b1 := box_bd h hQ (show 1 < 3 by omega)
  have b2 := box_bd h hQ (show 2 < 3 by omega)
  have loop : ∀ (m fuel i : Nat) (lo hi : Int32) (BE : Nat → Int32), i + m = bn L G Q 0 → m < fuel → (∀ j, j ≤ i → BE j = iz ((cx (pB f N ss s e be Q) (bl L Q 0) (bl L Q 1) (bn L G Q 1) (bl L Q 2) (bn L G Q 2) j : Nat) : Int)) → ∃ (lo' hi' : Int32) (BE' : Nat → Int32), LX7_init_107 ss (nbd f) (iz (ss : Int)) (px s) (py s) (pz s) (pe e) (iz ((nbd f : Nat) : Int)) (px bd') (py bd') (pz bd') (pe be) (pe L) (pe G) fuel (iz (i : Int)) (iz Q) (iz (bl L Q 0)) (iz (G 0 * Q)) (iz (bl L Q 1)) (iz (G 1 * Q)) (iz (bl L Q 2)) (iz (G 2 * Q)) lo hi BE (bn L G Q 0 + 1) = some (iz Q, iz (bl L Q 0), iz (G 0 * Q), iz (bl L Q 1), iz (G 1 * Q), iz (bl L Q 2), iz (G 2 * Q), lo', hi', BE', bn L G Q 0 + 1) ∧ ∀ j, j ≤ bn L G Q 0 → BE' j = iz ((cx (pB f N ss s e be Q) (bl L Q 0) (bl L Q 1) (bn L G Q 1) (bl L Q 2) (bn L G Q 2) j : Nat) : Int) := by
    intro m
    induction m with
    | zero =>
      intro fuel i lo hi BE k1 k2 inv
      obtain ⟨fuel, rfl⟩ : ∃ q, fuel = q + 1 := ⟨fuel - 1, by omega⟩
      refine ⟨lo, hi, BE, ?_, fun j hj => inv j (by omega)⟩
      rw [LX7_init_107, iz_nI, ix_s, if_pos ((ix_le (by omega) (by omega)).mpr (by omega))]
    | succ m ih =>
      intro fuel i lo hi BE k1 k2 inv
      obtain ⟨fuel, rfl⟩ : ∃ q, fuel = q + 1 := ⟨fuel - 1, by omega⟩
      obtain ⟨lo1, hi1, q1⟩ := below_i h hQ (x := bl L Q 0 + i) (by omega) (bn L G Q 1) (Nat.le_refl _) lo hi
      rw [show bl L Q 1 + (bn L G Q 1 : Int) = G 1 * Q + 1 by omega] at q1
      have cl := cx_le (pB f N ss s e be Q) (bl L Q 0) (bl L Q 1) (bn L G Q 1) (bl L Q 2) (bn L G Q 2) i
      obtain ⟨lo2, hi2, BE2, q2, q3⟩ := ih fuel (i + 1) lo1 hi1 (upd BE (i + 1) (BE i + iz ((cy (pB f N ss s e be Q) (bl L Q 0 + i) (bl L Q 1) (bl L Q 2) (bn L G Q 2) (bn L G Q 1) : Nat) : Int))) (by omega) (by omega) (fun j hj => by
        unfold upd
        by_cases cj : j = i + 1
        · rw [if_pos cj, inv i (Nat.le_refl _), ix_a, cj, cx]
        · rw [if_neg cj]; exact inv j (by omega))
      refine ⟨lo2, hi2, BE2, ?_, q3⟩
      rw [LX7_init_107, iz_nI, ix_s, if_neg (fun h => by have := (ix_le (by omega) (by omega)).mp h; omega), ix_gd (by omega) (by omega), iz_add, z1, iz_add, q1, bd_some, ix_gd (by omega) (by omega), iz_cn (by omega), iz_cn (by omega)]
      exact q2
  unfold fX7_init
  rw [y0, y1, y2, ix_gd (by omega) (by omega), ix_gd (by omega) (by omega), ix_gd (by omega) (by omega), iz_cn (by omega), iz_cn (by omega), iz_cn (by omega), pe_i, pe_i, pe_i, pe_i, pe_i, pe_i, iz_mul, iz_mul, iz_mul, iz_mul, iz_mul, iz_mul, iz_sub]
  have e0 : (if iz (G 0 * Q - L 0 * Q) < iz ((0 : Nat) : Int) then iz ((0 : Nat) : Int) else iz (G 0 * Q - L 0 * Q)) + iz ((2 : Nat) : Int) = iz ((bn L G Q 0 + 1 : Nat) : Int) := by
    have u : bl L Q 0 = L 0 * Q := rfl
    rw [if_neg (by rw [iz_lt (by omega) (by omega) (by omega) (by omega)]; omega), iz_add]
    congr 1
    unfold bn
    omega
  rw [e0, gd_len_iz (by omega) (by omega), iz_cn (by omega)]
  exact loop (bn L G Q 0) FU 0 _ _ _ (by omega) (by unfold FU; omega) (fun j hj => by rw [show j = 0 by omega]; rfl)
/-- a kept swelling is right -/
def SwP (f : Nat) (N : V3) (ss : Nat) (s : Nat → V3) (e be L G : Nat → Int) (Q : Int) (r : SCt) : Prop := r.n = bn L G Q 0 + 1 ∧ r.fac = iz Q ∧ r.lx = iz (bl L Q 0) ∧ r.gx = iz (G 0 * Q) ∧ r.ly = iz (bl L Q 1) ∧ r.gy = iz (G 1 * Q) ∧ r.lz = iz (bl L Q 2) ∧ r.gz = iz (G 2 * Q) ∧ ∀ i, i ≤ bn L G Q 0 → r.BE i = iz ((cx (pB f N ss s e be Q) (bl L Q 0) (bl L Q 1) (bn L G Q 1) (bl L Q 2) (bn L G Q 2) i : Nat) : Int)
theorem kept_i {Q : Int} (hQ : 1 ≤ Q ∧ Q ≤ 5) : kept (iz Q) = iz Q := by
  unfold kept
  rw [if_neg (show ¬ iz Q < 1 by rw [z1, iz_lt (by omega) (by omega) (by omega) (by omega)]; omega), if_neg (by rw [z5, iz_lt (by omega) (by omega) (by omega) (by omega)]; omega)]
theorem swellW_i (h : GF f N cs c ss s e bd' be L G) {Q : Int} (hQ : 1 ≤ Q ∧ Q ≤ 5) : ∃ u, fX0_swelling_W ss (nbd f) (iz (ss : Int)) (px s) (py s) (pz s) (pe e) (iz ((nbd f : Nat) : Int)) (px bd') (py bd') (pz bd') (pe be) (pe L) (pe G) (iz Q) = some u ∧ SwP f N ss s e be L G Q (mkS u) := by
  obtain ⟨lo, hi, BE, q1, q2⟩ := init7_i h hQ
  have hk : (if (5 : Int32) < (if iz Q < 1 then 1 else iz Q) then 5 else (if iz Q < 1 then 1 else iz Q)) = iz Q := kept_i hQ
  unfold fX0_swelling_W
  rw [hk, gd_iz (by omega) (by omega) (by omega), q1, bd_some]
  exact ⟨_, rfl, rfl, rfl, rfl, rfl, rfl, rfl, rfl, rfl, q2⟩
theorem total_i (h : GF f N cs c ss s e bd' be L G) {Q : Int} (hQ : 1 ≤ Q ∧ Q ≤ 5) {r : SCt} (hr : SwP f N ss s e be L G Q r) : fX7_total r.n r.BE = some (iz ((cx (pB f N ss s e be Q) (bl L Q 0) (bl L Q 1) (bn L G Q 1) (bl L Q 2) (bn L G Q 2) (bn L G Q 0) : Nat) : Int)) := by
  have b0 := box_bd h hQ (show 0 < 3 by omega)
  obtain ⟨r1, r2, r3, r4, r5, r6, r7, r8, r9⟩ := hr
  unfold fX7_total
  rw [r1, iz_nI, ix_p, ix_gd (by omega) (by omega), iz_cn (by omega), r9 _ (Nat.le_refl _)]
end
