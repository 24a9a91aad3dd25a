/-! the class finds a point, tells its number -/
theorem cz_mono (P : Int → Int → Int → Bool) (x y z0 : Int) : ∀ {i j : Nat}, i ≤ j → cz P x y z0 i ≤ cz P x y z0 j := by
  intro i j h
  induction j with
  | zero => rw [show i = 0 by omega]; exact Nat.le_refl _
  | succ j ih =>
    by_cases c : i = j + 1
    · rw [c]; exact Nat.le_refl _
    · have := ih (by omega)
      rw [cz]
      omega
theorem num_lt {P : Int → Int → Int → Bool} {x0 y0 z0 : Int} {Yn Zn i j k i' j' k' : Nat} (hj : j < Yn) (hk : k < Zn) (hp : P (x0 + i) (y0 + j) (z0 + k) = true) (h : i < i' ∨ i = i' ∧ (j < j' ∨ j = j' ∧ k < k')) : cx P x0 y0 Yn z0 Zn i + cy P (x0 + i) y0 z0 Zn j + cz P (x0 + i) (y0 + j) z0 k < cx P x0 y0 Yn z0 Zn i' + cy P (x0 + i') y0 z0 Zn j' + cz P (x0 + i') (y0 + j') z0 k' := by
  have e1 : cz P (x0 + i) (y0 + j) z0 (k + 1) = cz P (x0 + i) (y0 + j) z0 k + 1 := by rw [cz, if_pos hp]
  rcases h with h | ⟨rfl, h | ⟨rfl, h⟩⟩
  · have a1 := cz_mono P (x0 + i) (y0 + j) z0 (show k + 1 ≤ Zn by omega)
    have a2 := cy_mono P (x0 + i) y0 z0 Zn (show j + 1 ≤ Yn by omega)
    have a3 := cx_mono P x0 y0 Yn z0 Zn (show i + 1 ≤ i' by omega)
    have e2 : cy P (x0 + i) y0 z0 Zn (j + 1) = cy P (x0 + i) y0 z0 Zn j + cz P (x0 + i) (y0 + j) z0 Zn := by rw [cy]
    have e3 : cx P x0 y0 Yn z0 Zn (i + 1) = cx P x0 y0 Yn z0 Zn i + cy P (x0 + i) y0 z0 Zn Yn := by rw [cx]
    omega
  · have a1 := cz_mono P (x0 + i) (y0 + j) z0 (show k + 1 ≤ Zn by omega)
    have a2 := cy_mono P (x0 + i) y0 z0 Zn (show j + 1 ≤ j' by omega)
    have e2 : cy P (x0 + i) y0 z0 Zn (j + 1) = cy P (x0 + i) y0 z0 Zn j + cz P (x0 + i) (y0 + j) z0 Zn := by rw [cy]
    omega
  · have a1 := cz_mono P (x0 + i) (y0 + j) z0 (show k + 1 ≤ k' by omega)
    omega
section
variable {f : Nat} {N : V3} {cs : Nat} {c : Nat → V3} {ss : Nat} {s : Nat → V3} {e : Nat → Int} {bd' : Nat → V3} {be L G : Nat → Int}
theorem tot_le (h : GF f N cs c ss s e bd' be L G) {Q : Int} (hQ : 1 ≤ Q ∧ Q ≤ 5) {i : Nat} (hi : i ≤ bn L G Q 0) : cx (pB f N ss s e be Q) (bl L Q 0) (bl L Q 1) (bn L G Q 1) (bl L Q 2) (bn L G Q 2) i ≤ 132651 := by
  have b0 := box_bd h hQ (show 0 < 3 by omega)
  have b1 := box_bd h hQ (show 1 < 3 by omega)
  have b2 := box_bd h hQ (show 2 < 3 by omega)
  have cl := cx_le (pB f N ss s e be Q) (bl L Q 0) (bl L Q 1) (bn L G Q 1) (bl L Q 2) (bn L G Q 2) i
  have cl1 : bn L G Q 1 * bn L G Q 2 ≤ 51 * 51 := Nat.mul_le_mul b1.2.2.2.1 b2.2.2.2.1
  have cl2 : i * (bn L G Q 1 * bn L G Q 2) ≤ 51 * (51 * 51) := Nat.mul_le_mul (by omega) cl1
  omega
theorem part_c (h : GF f N cs c ss s e bd' be L G) {Q : Int} (hQ : 1 ≤ Q ∧ Q ≤ 5) {r : SCt} (hr : SwP f N ss s e be L G Q r) {up w : Nat} (hw : w < 3) (hup : up < cx (pB f N ss s e be Q) (bl L Q 0) (bl L Q 1) (bn L G Q 1) (bl L Q 2) (bn L G Q 2) (bn L G Q 0)) : ∃ (i j k : Nat) (lo hi : Int32), fX7_pointPart r.n ss (nbd f) r.fac r.lx r.ly r.gy r.lz r.gz r.lo r.hi r.BE (iz (ss : Int)) (px s) (py s) (pz s) (pe e) (iz ((nbd f : Nat) : Int)) (px bd') (py bd') (pz bd') (pe be) (iz (up : Int)) (iz (w : Int)) = some (iz (if w = 0 then bl L Q 0 + i else if w = 1 then bl L Q 1 + j else bl L Q 2 + k), lo, hi) ∧ i < bn L G Q 0 ∧ j < bn L G Q 1 ∧ k < bn L G Q 2 ∧ pB f N ss s e be Q (bl L Q 0 + i) (bl L Q 1 + j) (bl L Q 2 + k) = true ∧ cx (pB f N ss s e be Q) (bl L Q 0) (bl L Q 1) (bn L G Q 1) (bl L Q 2) (bn L G Q 2) i + cy (pB f N ss s e be Q) (bl L Q 0 + i) (bl L Q 1) (bl L Q 2) (bn L G Q 2) j + cz (pB f N ss s e be Q) (bl L Q 0 + i) (bl L Q 1 + j) (bl L Q 2) k = up := by
  have b0 := box_bd h hQ (show 0 < 3 by omega)
  have b1 := box_bd h hQ (show 1 < 3 by omega)
  have b2 := box_bd h hQ (show 2 < 3 by omega)
  have tl := tot_le h hQ (Nat.le_refl (bn L G Q 0))
  have ht := total_i h hQ hr
  obtain ⟨r1, r2, r3, r4, r5, r6, r7, r8, r9⟩ := hr
  have ly : ∀ (i : Nat), i < bn L G Q 0 → ∀ (m fuel j left : Nat) (lo hi : Int32), j + m = bn L G Q 1 → m < fuel → left ≤ 200000 → left + cy (pB f N ss s e be Q) (bl L Q 0 + i) (bl L Q 1) (bl L Q 2) (bn L G Q 2) j < cy (pB f N ss s e be Q) (bl L Q 0 + i) (bl L Q 1) (bl L Q 2) (bn L G Q 2) (bn L G Q 1) → ∃ (j' k : Nat) (lo' hi' : Int32), LX7_pointPart_71 r.n ss (nbd f) (iz Q) (iz (bl L Q 0)) (iz (bl L Q 1)) (iz (G 1 * Q)) (iz (bl L Q 2)) (iz (G 2 * Q)) r.BE (iz (ss : Int)) (px s) (py s) (pz s) (pe e) (iz ((nbd f : Nat) : Int)) (px bd') (py bd') (pz bd') (pe be) fuel (iz (w : Int)) (iz (bl L Q 0 + i)) (iz (left : Int)) (iz (bl L Q 1 + j)) lo hi = some (iz (if w = 0 then bl L Q 0 + i else if w = 1 then bl L Q 1 + j' else bl L Q 2 + k), lo', hi') ∧ j' < bn L G Q 1 ∧ k < bn L G Q 2 ∧ pB f N ss s e be Q (bl L Q 0 + i) (bl L Q 1 + j') (bl L Q 2 + k) = true ∧ cy (pB f N ss s e be Q) (bl L Q 0 + i) (bl L Q 1) (bl L Q 2) (bn L G Q 2) j' + cz (pB f N ss s e be Q) (bl L Q 0 + i) (bl L Q 1 + j') (bl L Q 2) k = left + cy (pB f N ss s e be Q) (bl L Q 0 + i) (bl L Q 1) (bl L Q 2) (bn L G Q 2) j := by
    intro i hi m
    induction m with
    | zero =>
      intro fuel j left lo hi' k1 k2 hl hlt
      rw [show j = bn L G Q 1 by omega] at hlt
      omega
    | succ m ih =>
      intro fuel j left lo hi' k1 k2 hl hlt
      obtain ⟨fuel, rfl⟩ : ∃ q, fuel = q + 1 := ⟨fuel - 1, by omega⟩
      obtain ⟨lo1, hi1, q1, q2, q3⟩ := look_c h hQ (x := bl L Q 0 + i) (y := bl L Q 1 + j) (by omega) (by omega) lo hi'
      have ce := col_all q3
      have cl := cz_le (pB f N ss s e be Q) (bl L Q 0 + i) (bl L Q 1 + j) (bl L Q 2) (bn L G Q 2)
      rw [LX7_pointPart_71, if_neg (by rw [iz_lt (by omega) (by omega) (by omega) (by omega)]; omega), q1, bd_some, looked_i q2, bd_some, ← ce]
      obtain ⟨rg1, rg2, rg3, rg4⟩ := q2
      have e2 : cy (pB f N ss s e be Q) (bl L Q 0 + i) (bl L Q 1) (bl L Q 2) (bn L G Q 2) (j + 1) = cy (pB f N ss s e be Q) (bl L Q 0 + i) (bl L Q 1) (bl L Q 2) (bn L G Q 2) j + cz (pB f N ss s e be Q) (bl L Q 0 + i) (bl L Q 1 + j) (bl L Q 2) (bn L G Q 2) := by rw [cy]
      by_cases cc : cz (pB f N ss s e be Q) (bl L Q 0 + i) (bl L Q 1 + j) (bl L Q 2) (bn L G Q 2) ≤ left
      · rw [if_pos ((ix_le (by omega) (by omega)).mpr cc), bd_some]
        obtain ⟨j', k, lo', hi'', p1, p2, p3, p4, p5⟩ := ih fuel (j + 1) (left - cz (pB f N ss s e be Q) (bl L Q 0 + i) (bl L Q 1 + j) (bl L Q 2) (bn L G Q 2)) (iz lo1) (iz hi1) (by omega) (by omega) (by omega) (by omega)
        refine ⟨j', k, lo', hi'', ?_, p2, p3, p4, by omega⟩
        rw [iz_sub, z1, iz_add, show bl L Q 1 + (j : Int) + 1 = bl L Q 1 + ((j + 1 : Nat) : Int) by omega, show (left : Int) - (cz (pB f N ss s e be Q) (bl L Q 0 + i) (bl L Q 1 + j) (bl L Q 2) (bn L G Q 2) : Int) = ((left - cz (pB f N ss s e be Q) (bl L Q 0 + i) (bl L Q 1 + j) (bl L Q 2) (bn L G Q 2) : Nat) : Int) by omega]
        exact p1
      · rw [if_neg (fun h => cc ((ix_le (by omega) (by omega)).mp h))]
        have nh : ¬ hi1 < lo1 := fun q => by rw [if_pos q] at ce; omega
        rw [if_neg nh] at ce
        have zin := (q3 (lo1 + left)).mp ⟨by omega, by omega⟩
        have ek : lo1 + (left : Int) = bl L Q 2 + (((lo1 + left - bl L Q 2).toNat : Nat) : Int) := by omega
        have kz : (lo1 + left - bl L Q 2).toNat < bn L G Q 2 := by omega
        rw [ek] at zin
        have cp := col_pos q3 kz zin.2
        refine ⟨j, (lo1 + left - bl L Q 2).toNat, iz lo1, iz hi1, ?_, by omega, kz, zin.2, by omega⟩
        rcases (show w = 0 ∨ w = 1 ∨ w = 2 by omega) with rfl | rfl | rfl
        · rw [if_pos (show iz ((0 : Nat) : Int) = 0 from rfl), if_pos rfl]
        · rw [if_neg (show ¬ iz ((1 : Nat) : Int) = 0 by decide), if_pos (show iz ((1 : Nat) : Int) = 1 from rfl), if_neg (by omega), if_pos rfl]
        · rw [if_neg (show ¬ iz ((2 : Nat) : Int) = 0 by decide), if_neg (show ¬ iz ((2 : Nat) : Int) = 1 by decide), if_neg (by omega), if_neg (by omega), iz_add]
          exact congrArg (fun t => some (iz t, iz lo1, iz hi1)) ek
  have lx : ∀ (m fuel i : Nat) (lo hi : Int32), i + m + 1 = bn L G Q 0 → m < fuel → cx (pB f N ss s e be Q) (bl L Q 0) (bl L Q 1) (bn L G Q 1) (bl L Q 2) (bn L G Q 2) i ≤ up → ∃ (i' j k : Nat) (lo' hi' : Int32), LX7_pointPart_18 r.n ss (nbd f) (iz Q) (iz (bl L Q 0)) (iz (bl L Q 1)) (iz (G 1 * Q)) (iz (bl L Q 2)) (iz (G 2 * Q)) r.BE (iz (ss : Int)) (px s) (py s) (pz s) (pe e) (iz ((nbd f : Nat) : Int)) (px bd') (py bd') (pz bd') (pe be) fuel (iz (up : Int)) (iz (w : Int)) (iz (i : Int)) lo hi = some (iz (if w = 0 then bl L Q 0 + i' else if w = 1 then bl L Q 1 + j else bl L Q 2 + k), lo', hi') ∧ i' < bn L G Q 0 ∧ j < bn L G Q 1 ∧ k < bn L G Q 2 ∧ pB f N ss s e be Q (bl L Q 0 + i') (bl L Q 1 + j) (bl L Q 2 + k) = true ∧ cx (pB f N ss s e be Q) (bl L Q 0) (bl L Q 1) (bn L G Q 1) (bl L Q 2) (bn L G Q 2) i' + cy (pB f N ss s e be Q) (bl L Q 0 + i') (bl L Q 1) (bl L Q 2) (bn L G Q 2) j + cz (pB f N ss s e be Q) (bl L Q 0 + i') (bl L Q 1 + j) (bl L Q 2) k = up := by
    have fin : ∀ (i : Nat) (lo hi : Int32), i < bn L G Q 0 → cx (pB f N ss s e be Q) (bl L Q 0) (bl L Q 1) (bn L G Q 1) (bl L Q 2) (bn L G Q 2) i ≤ up → up < cx (pB f N ss s e be Q) (bl L Q 0) (bl L Q 1) (bn L G Q 1) (bl L Q 2) (bn L G Q 2) (i + 1) → ∃ (i' j k : Nat) (lo' hi' : Int32), JX7_pointPart_47 r.n ss (nbd f) (iz Q) (iz (bl L Q 0)) (iz (bl L Q 1)) (iz (G 1 * Q)) (iz (bl L Q 2)) (iz (G 2 * Q)) r.BE (iz (ss : Int)) (px s) (py s) (pz s) (pe e) (iz ((nbd f : Nat) : Int)) (px bd') (py bd') (pz bd') (pe be) (iz (up : Int)) (iz (w : Int)) (iz (i : Int)) lo hi = some (iz (if w = 0 then bl L Q 0 + i' else if w = 1 then bl L Q 1 + j else bl L Q 2 + k), lo', hi') ∧ i' < bn L G Q 0 ∧ j < bn L G Q 1 ∧ k < bn L G Q 2 ∧ pB f N ss s e be Q (bl L Q 0 + i') (bl L Q 1 + j) (bl L Q 2 + k) = true ∧ cx (pB f N ss s e be Q) (bl L Q 0) (bl L Q 1) (bn L G Q 1) (bl L Q 2) (bn L G Q 2) i' + cy (pB f N ss s e be Q) (bl L Q 0 + i') (bl L Q 1) (bl L Q 2) (bn L G Q 2) j + cz (pB f N ss s e be Q) (bl L Q 0 + i') (bl L Q 1 + j) (bl L Q 2) k = up := by
      intro i lo hi hi0 hle hlt
      rw [cx] at hlt
      obtain ⟨j, k, lo', hi', p1, p2, p3, p4, p5⟩ := ly i hi0 (bn L G Q 1) FU 0 (up - cx (pB f N ss s e be Q) (bl L Q 0) (bl L Q 1) (bn L G Q 1) (bl L Q 2) (bn L G Q 2) i) lo hi (by omega) (by unfold FU; omega) (by omega) (by rw [show cy (pB f N ss s e be Q) (bl L Q 0 + i) (bl L Q 1) (bl L Q 2) (bn L G Q 2) 0 = 0 from rfl]; omega)
      rw [show cy (pB f N ss s e be Q) (bl L Q 0 + i) (bl L Q 1) (bl L Q 2) (bn L G Q 2) 0 = 0 from rfl] at p5
      refine ⟨i, j, k, lo', hi', ?_, hi0, p2, p3, p4, by omega⟩
      unfold JX7_pointPart_47
      rw [ix_gd (by omega) (by omega), iz_cn (by omega), r9 i (by omega), iz_add, iz_sub, show (up : Int) - (cx (pB f N ss s e be Q) (bl L Q 0) (bl L Q 1) (bn L G Q 1) (bl L Q 2) (bn L G Q 2) i : Int) = ((up - cx (pB f N ss s e be Q) (bl L Q 0) (bl L Q 1) (bn L G Q 1) (bl L Q 2) (bn L G Q 2) i : Nat) : Int) by omega]
      rw [show bl L Q 1 + ((0 : Nat) : Int) = bl L Q 1 by omega] at p1
      exact p1
    intro m
    induction m with
    | zero =>
      intro fuel i lo hi k1 k2 hle
      obtain ⟨fuel, rfl⟩ : ∃ q, fuel = q + 1 := ⟨fuel - 1, by omega⟩
      rw [LX7_pointPart_18, r1, iz_nI, y2, ix_a, if_pos ((ix_le (by omega) (by omega)).mpr (by omega)), ← r1]
      exact fin i lo hi (by omega) hle (by rw [show i + 1 = bn L G Q 0 by omega]; exact hup)
    | succ m ih =>
      intro fuel i lo hi k1 k2 hle
      obtain ⟨fuel, rfl⟩ : ∃ q, fuel = q + 1 := ⟨fuel - 1, by omega⟩
      have tl2 := tot_le h hQ (show i + 1 ≤ bn L G Q 0 by omega)
      rw [LX7_pointPart_18, r1, iz_nI, y2, ix_a, if_neg (fun h => by have := (ix_le (by omega) (by omega)).mp h; omega), ix_s, ix_gd (by omega) (by omega), iz_cn (by omega), r9 (i + 1) (by omega), ← r1]
      by_cases cc : up < cx (pB f N ss s e be Q) (bl L Q 0) (bl L Q 1) (bn L G Q 1) (bl L Q 2) (bn L G Q 2) (i + 1)
      · rw [if_pos ((ix_lt (by omega) (by omega)).mpr cc)]
        exact fin i lo hi (by omega) hle cc
      · rw [if_neg (fun h => cc ((ix_lt (by omega) (by omega)).mp h))]
        exact ih fuel (i + 1) lo hi (by omega) (by omega) (by omega)
  unfold fX7_pointPart
  rw [if_neg (by rw [z0, iz_lt (by omega) (by omega) (by omega) (by omega)]; omega), ht, bd_some, if_pos ((ix_lt (by omega) (by omega)).mpr hup), r2, r3, r5, r6, r7, r8]
  obtain ⟨i, j, k, lo, hi, p⟩ := lx (bn L G Q 0 - 1) FU 0 r.lo r.hi (by omega) (by unfold FU; omega) (by rw [show cx (pB f N ss s e be Q) (bl L Q 0) (bl L Q 1) (bn L G Q 1) (bl L Q 2) (bn L G Q 2) 0 = 0 from rfl]; omega)
  exact ⟨i, j, k, lo, hi, p⟩
theorem part_no (h : GF f N cs c ss s e bd' be L G) {Q : Int} (hQ : 1 ≤ Q ∧ Q ≤ 5) {r : SCt} (hr : SwP f N ss s e be L G Q r) {up : Int} (h1 : -2147483648 ≤ up) (h2 : up < 2147483648) (p4 : Int32) (hup : up < 0 ∨ (cx (pB f N ss s e be Q) (bl L Q 0) (bl L Q 1) (bn L G Q 1) (bl L Q 2) (bn L G Q 2) (bn L G Q 0) : Int) ≤ up) : fX7_pointPart r.n ss (nbd f) r.fac r.lx r.ly r.gy r.lz r.gz r.lo r.hi r.BE (iz (ss : Int)) (px s) (py s) (pz s) (pe e) (iz ((nbd f : Nat) : Int)) (px bd') (py bd') (pz bd') (pe be) (iz up) p4 = some (10000, r.lo, r.hi) := by
  have tl := tot_le h hQ (Nat.le_refl (bn L G Q 0))
  have ht := total_i h hQ hr
  unfold fX7_pointPart
  by_cases c0 : up < 0
  · rw [if_pos (by rw [z0, iz_lt (by omega) (by omega) (by omega) (by omega)]; exact c0)]
  · rw [if_neg (by rw [z0, iz_lt (by omega) (by omega) (by omega) (by omega)]; exact c0), ht, bd_some, if_neg (by rw [iz_lt (by omega) (by omega) (by omega) (by omega)]; omega)]
end
