/-! point and rank -/
section
variable {f : Nat} {N : V3} {cs : Nat} {c : Nat → V3} {ss : Nat} {s : Nat → V3} {e : Nat → Int} {bd' : Nat → V3} {be L G : Nat → Int} {b bc : Nat} {FI CO CR SI' SR BO : Nat → Int32}
theorem gone_i (h : GF f N cs c ss s e bd' be L G) (hR : RefB b f N cs c ss s e be FI CO CR SI' SR BO) (hb : b < 8) {Q : Int} (hQ : 1 ≤ Q ∧ Q ≤ 5) {md up tx ty tz : Int} (hmd : md = 0 ∨ md = 1) (hup : -2147483648 ≤ up ∧ up < 2147483648) (htx : -2147483648 ≤ tx ∧ tx < 2147483648) (hty : -2147483648 ≤ ty ∧ ty < 2147483648) (htz : -2147483648 ≤ tz ∧ tz < 2147483648) (m1 m2 m3 : Int32) :
    ((∀ i' j' k', i' < bn L G Q 0 → j' < bn L G Q 1 → k' < bn L G Q 2 → ¬ Ht (pB f N ss s e be Q) md up tx ty tz (cx (pB f N ss s e be Q) (bl L Q 0) (bl L Q 1) (bn L G Q 1) (bl L Q 2) (bn L G Q 2) i' + cy (pB f N ss s e be Q) (bl L Q 0 + i') (bl L Q 1) (bl L Q 2) (bn L G Q 2) j') (bl L Q 0 + i') (bl L Q 1 + j') (bl L Q 2) k') → fX9_gone m1 m2 m3 FI CO CR SI' SR BO (iz (b : Int)) (iz Q) (iz up) (iz md) (iz tx) (iz ty) (iz tz) = some (-4, m1, m2, m3)) ∧
    (∀ i' j' k', i' < bn L G Q 0 → j' < bn L G Q 1 → k' < bn L G Q 2 → Ht (pB f N ss s e be Q) md up tx ty tz (cx (pB f N ss s e be Q) (bl L Q 0) (bl L Q 1) (bn L G Q 1) (bl L Q 2) (bn L G Q 2) i' + cy (pB f N ss s e be Q) (bl L Q 0 + i') (bl L Q 1) (bl L Q 2) (bn L G Q 2) j') (bl L Q 0 + i') (bl L Q 1 + j') (bl L Q 2) k' → (∀ i'' j'' k'', j'' < bn L G Q 1 → k'' < bn L G Q 2 → (i'' < i' ∨ i'' = i' ∧ (j'' < j' ∨ j'' = j' ∧ k'' < k')) → ¬ Ht (pB f N ss s e be Q) md up tx ty tz (cx (pB f N ss s e be Q) (bl L Q 0) (bl L Q 1) (bn L G Q 1) (bl L Q 2) (bn L G Q 2) i'' + cy (pB f N ss s e be Q) (bl L Q 0 + i'') (bl L Q 1) (bl L Q 2) (bn L G Q 2) j'') (bl L Q 0 + i'') (bl L Q 1 + j'') (bl L Q 2) k'') → fX9_gone m1 m2 m3 FI CO CR SI' SR BO (iz (b : Int)) (iz Q) (iz up) (iz md) (iz tx) (iz ty) (iz tz) = some (iz ((cx (pB f N ss s e be Q) (bl L Q 0) (bl L Q 1) (bn L G Q 1) (bl L Q 2) (bn L G Q 2) i' + cy (pB f N ss s e be Q) (bl L Q 0 + i') (bl L Q 1) (bl L Q 2) (bn L G Q 2) j' + cz (pB f N ss s e be Q) (bl L Q 0 + i') (bl L Q 1 + j') (bl L Q 2) k' : Nat) : Int), iz (bl L Q 0 + i'), iz (bl L Q 1 + j'), iz (bl L Q 2 + k'))) := by
  have h' := h
  obtain ⟨f3, c1, c40, s80, hs, hN, hbd, hbe, h0, hcr, hLG⟩ := h'
  obtain ⟨r1, r2, r3, r4, r5, r6, r7⟩ := hR
  have hR : RefB b f N cs c ss s e be FI CO CR SI' SR BO := ⟨r1, r2, r3, r4, r5, r6, r7⟩
  obtain ⟨g1, g2⟩ := gone1 h hR hb hQ hmd hup htx hty htz m1 m2 m3 (bn L G Q 0) FU 0 (by omega) (by have := (box_bd h hQ (show 0 < 3 by omega)); unfold FU; omega)
  rw [show bl L Q 0 + ((0 : Nat) : Int) = bl L Q 0 by omega, show cx (pB f N ss s e be Q) (bl L Q 0) (bl L Q 1) (bn L G Q 1) (bl L Q 2) (bn L G Q 2) 0 = 0 from rfl] at g1 g2
  unfold fX9_gone
  rw [show (1 : Int32) = iz ((1 : Nat) : Int) from rfl, show (2 : Int32) = iz ((2 : Nat) : Int) from rfl, show (0 : Int32) = iz ((0 : Nat) : Int) from rfl, least_i c40 c1 hcr hb r2 r3 (show 1 < 3 by omega) (hLG 1 (by omega)).1, bd_some, least_i c40 c1 hcr hb r2 r3 (show 2 < 3 by omega) (hLG 2 (by omega)).1, bd_some, greatest_i c40 c1 hcr hb r2 r3 (show 0 < 3 by omega) (hLG 0 (by omega)).2, bd_some, greatest_i c40 c1 hcr hb r2 r3 (show 1 < 3 by omega) (hLG 1 (by omega)).2, bd_some, greatest_i c40 c1 hcr hb r2 r3 (show 2 < 3 by omega) (hLG 2 (by omega)).2, bd_some, least_i c40 c1 hcr hb r2 r3 (show 0 < 3 by omega) (hLG 0 (by omega)).1, bd_some, iz_mul, iz_mul, iz_mul, iz_mul, iz_mul, iz_mul, Int.mul_comm Q (L 1), Int.mul_comm Q (L 2), Int.mul_comm Q (G 0), Int.mul_comm Q (G 1), Int.mul_comm Q (G 2), Int.mul_comm Q (L 0)]
  exact ⟨fun hh => g1 (fun i' j' k' _ w2 w3 w4 => hh i' j' k' w2 w3 w4), fun i' j' k' w1 w2 w3 w4 w5 => g2 i' j' k' (Nat.zero_le _) w1 w2 w3 w4 (fun i'' j'' k'' _ v2 v3 v4 => w5 i'' j'' k'' v2 v3 v4)⟩
/-- the point with a number: class and reference -/
theorem point_e (h : GF f N cs c ss s e bd' be L G) (hR : RefB b f N cs c ss s e be FI CO CR SI' SR BO) (hb : b < 8) {Q : Int} (hQ : 1 ≤ Q ∧ Q ≤ 5) {r : SCt} (hr : SwP f N ss s e be L G Q r) {up : Int} (h1 : 0 ≤ up) (h2 : up < 2147483648) {w : Nat} (hw : w < 3) (m1 m2 m3 : Int32) : ∃ (v lo hi : Int32), fX7_pointPart r.n ss (nbd f) r.fac r.lx r.ly r.gy r.lz r.gz r.lo r.hi r.BE (iz (ss : Int)) (px s) (py s) (pz s) (pe e) (iz ((nbd f : Nat) : Int)) (px bd') (py bd') (pz bd') (pe be) (iz up) (iz (w : Int)) = some (v, lo, hi) ∧ ((v = 10000 ∧ fX9_gone m1 m2 m3 FI CO CR SI' SR BO (iz (b : Int)) (iz Q) (iz up) (iz 0) (iz 0) (iz 0) (iz 0) = some (-4, m1, m2, m3)) ∨ ∃ (n : Nat) (x y z : Int32), fX9_gone m1 m2 m3 FI CO CR SI' SR BO (iz (b : Int)) (iz Q) (iz up) (iz 0) (iz 0) (iz 0) (iz 0) = some (iz (n : Int), x, y, z) ∧ n ≤ 1000000 ∧ v = if w = 0 then x else if w = 1 then y else z) := by
  obtain ⟨g1, g2⟩ := gone_i h hR hb hQ (md := 0) (up := up) (tx := 0) (ty := 0) (tz := 0) (Or.inl rfl) ⟨by omega, by omega⟩ (by omega) (by omega) (by omega) m1 m2 m3
  have tl := tot_le h hQ (Nat.le_refl (bn L G Q 0))
  by_cases cu : up < (cx (pB f N ss s e be Q) (bl L Q 0) (bl L Q 1) (bn L G Q 1) (bl L Q 2) (bn L G Q 2) (bn L G Q 0) : Int)
  · obtain ⟨up', rfl⟩ := nat_of h1
    obtain ⟨i, j, k, lo, hi, p1, p2, p3, p4, p5, p6⟩ := part_c h hQ hr (up := up') hw (by omega)
    refine ⟨_, lo, hi, p1, Or.inr ⟨up', iz (bl L Q 0 + i), iz (bl L Q 1 + j), iz (bl L Q 2 + k), ?_, by omega, ?_⟩⟩
    · rw [g2 i j k p2 p3 p4 ⟨p5, fun _ => by rw [p6], fun q => (q rfl).elim⟩ (fun i'' j'' k'' w1 w2 w3 w4 => by
        have lt := num_lt w1 w2 w4.1 w3
        have := w4.2.1 rfl
        omega), p6]
    · rcases (show w = 0 ∨ w = 1 ∨ w = 2 by omega) with rfl | rfl | rfl <;> rfl
  · refine ⟨10000, r.lo, r.hi, part_no h hQ hr (by omega) h2 _ (Or.inr (by omega)), Or.inl ⟨rfl, g1 (fun i' j' k' w1 w2 w3 w4 => ?_)⟩⟩
    have lt := num_lt (i' := bn L G Q 0) (j' := 0) (k' := 0) w2 w3 w4.1 (Or.inl w1)
    have e1 := w4.2.1 rfl
    rw [show cy (pB f N ss s e be Q) (bl L Q 0 + (bn L G Q 0 : Nat)) (bl L Q 1) (bl L Q 2) (bn L G Q 2) 0 = 0 from rfl, show cz (pB f N ss s e be Q) (bl L Q 0 + (bn L G Q 0 : Nat)) (bl L Q 1 + ((0 : Nat) : Int)) (bl L Q 2) 0 = 0 from rfl] at lt
    omega
/-- the number of a point: class and reference -/
theorem rank_e (h : GF f N cs c ss s e bd' be L G) (hR : RefB b f N cs c ss s e be FI CO CR SI' SR BO) (hb : b < 8) {Q : Int} (hQ : 1 ≤ Q ∧ Q ≤ 5) {r : SCt} (hr : SwP f N ss s e be L G Q r) {x y z : Int} (hx : -2147483648 ≤ x ∧ x < 2147483648) (hy : -2147483648 ≤ y ∧ y < 2147483648) (hz : -2147483648 ≤ z ∧ z < 2147483648) (m1 m2 m3 : Int32) : ∃ (v lo hi n1 n2 n3 : Int32), fX7_rankOf r.n ss (nbd f) r.fac r.lx r.gx r.ly r.gy r.lz r.gz r.lo r.hi r.BE (iz (ss : Int)) (px s) (py s) (pz s) (pe e) (iz ((nbd f : Nat) : Int)) (px bd') (py bd') (pz bd') (pe be) (iz x) (iz y) (iz z) = some (v, lo, hi) ∧ fX9_gone m1 m2 m3 FI CO CR SI' SR BO (iz (b : Int)) (iz Q) (iz 0) (iz 1) (iz x) (iz y) (iz z) = some (v, n1, n2, n3) := by
  obtain ⟨g1, g2⟩ := gone_i h hR hb hQ (md := 1) (up := 0) (tx := x) (ty := y) (tz := z) (Or.inr rfl) ⟨by omega, by omega⟩ hx hy hz m1 m2 m3
  have b0 := box_bd h hQ (show 0 < 3 by omega)
  have b1 := box_bd h hQ (show 1 < 3 by omega)
  have b2 := box_bd h hQ (show 2 < 3 by omega)
  obtain ⟨r1, r2, r3, r4, r5, r6, r7, r8, r9⟩ := hr
  have out : (x < bl L Q 0 ∨ G 0 * Q < x ∨ y < bl L Q 1 ∨ G 1 * Q < y) → fX9_gone m1 m2 m3 FI CO CR SI' SR BO (iz (b : Int)) (iz Q) (iz 0) (iz 1) (iz x) (iz y) (iz z) = some (-4, m1, m2, m3) := fun ho => g1 (fun i' j' k' w1 w2 w3 w4 => by
    have := w4.2.2 (by omega)
    omega)
  unfold fX7_rankOf
  rw [r2, r3, r4, r5, r6, r7, r8]
  simp only [iz_lt (a := x) (b := bl L Q 0) (by omega) (by omega) (by omega) (by omega), iz_lt (a := G 0 * Q) (b := x) (by omega) (by omega) (by omega) (by omega), iz_lt (a := y) (b := bl L Q 1) (by omega) (by omega) (by omega) (by omega), iz_le (a := y) (b := G 1 * Q) (by omega) (by omega) (by omega) (by omega)]
  by_cases c1 : x < bl L Q 0
  · rw [if_pos c1]; exact ⟨_, _, _, _, _, _, rfl, out (Or.inl c1)⟩
  · rw [if_neg c1]
    by_cases c2 : G 0 * Q < x
    · rw [if_pos c2]; exact ⟨_, _, _, _, _, _, rfl, out (Or.inr (Or.inl c2))⟩
    · rw [if_neg c2]
      by_cases c3 : y < bl L Q 1
      · rw [if_pos c3]; exact ⟨_, _, _, _, _, _, rfl, out (Or.inr (Or.inr (Or.inl c3)))⟩
      · rw [if_neg c3]
        by_cases c4 : y ≤ G 1 * Q
        · obtain ⟨i, ei⟩ := nat_of (show 0 ≤ x - bl L Q 0 by omega)
          obtain ⟨j, ej⟩ := nat_of (show 0 ≤ y - bl L Q 1 by omega)
          have ex : x = bl L Q 0 + i := by omega
          have ey : y = bl L Q 1 + j := by omega
          subst ex
          subst ey
          obtain ⟨lo1, hi1, q1⟩ := below_i h hQ (x := bl L Q 0 + i) (by omega) j (by omega) r.lo r.hi
          obtain ⟨lo, hi, l1, l2, l3⟩ := look_c h hQ (x := bl L Q 0 + i) (y := bl L Q 1 + j) (by omega) (by omega) lo1 hi1
          rw [if_pos c4, iz_sub, show bl L Q 0 + (i : Int) - bl L Q 0 = (i : Int) by omega, ix_gd (by omega) (by omega), q1, bd_some, l1, bd_some, iz_cn (by omega), r9 i (by omega)]
          obtain ⟨rg1, rg2, rg3, rg4⟩ := l2
          simp only [iz_lt (a := z) (b := lo) (by omega) (by omega) (by omega) (by omega), iz_lt (a := hi) (b := z) (by omega) (by omega) (by omega) (by omega)]
          have nohit : ¬ (lo ≤ z ∧ z ≤ hi) → fX9_gone m1 m2 m3 FI CO CR SI' SR BO (iz (b : Int)) (iz Q) (iz 0) (iz 1) (iz (bl L Q 0 + i)) (iz (bl L Q 1 + j)) (iz z) = some (-4, m1, m2, m3) := fun hn => g1 (fun i' j' k' w1 w2 w3 w4 => by
            obtain ⟨e1, e2, e3⟩ := w4.2.2 (by omega)
            refine hn ((l3 z).mpr ⟨by omega, ?_⟩)
            have := w4.1
            rw [e1, e2, e3] at this
            exact this)
          by_cases c5 : z < lo
          · rw [if_pos c5]; exact ⟨_, _, _, _, _, _, rfl, nohit (fun h => by omega)⟩
          · rw [if_neg c5]
            by_cases c6 : hi < z
            · rw [if_pos c6]; exact ⟨_, _, _, _, _, _, rfl, nohit (fun h => by omega)⟩
            · rw [if_neg c6]
              have zin := (l3 z).mp ⟨by omega, by omega⟩
              obtain ⟨k, ek⟩ := nat_of (show 0 ≤ z - bl L Q 2 by omega)
              have ez : z = bl L Q 2 + k := by omega
              subst ez
              have cp := col_pos l3 (show k < bn L G Q 2 by omega) zin.2
              have hit := g2 i j k (by omega) (by omega) (by omega) ⟨zin.2, fun q => by omega, fun _ => ⟨rfl, rfl, rfl⟩⟩ (fun i'' j'' k'' w1 w2 w3 w4 => by
                obtain ⟨e1, e2, e3⟩ := w4.2.2 (by omega)
                omega)
              rw [iz_add, iz_add, iz_sub]
              rw [show (((cx (pB f N ss s e be Q) (bl L Q 0) (bl L Q 1) (bn L G Q 1) (bl L Q 2) (bn L G Q 2) i + cy (pB f N ss s e be Q) (bl L Q 0 + i) (bl L Q 1) (bl L Q 2) (bn L G Q 2) j + cz (pB f N ss s e be Q) (bl L Q 0 + i) (bl L Q 1 + j) (bl L Q 2) k : Nat)) : Int) = (cx (pB f N ss s e be Q) (bl L Q 0) (bl L Q 1) (bn L G Q 1) (bl L Q 2) (bn L G Q 2) i : Int) + (cy (pB f N ss s e be Q) (bl L Q 0 + i) (bl L Q 1) (bl L Q 2) (bn L G Q 2) j : Int) + (bl L Q 2 + k) - lo by omega] at hit
              exact ⟨_, _, _, _, _, _, rfl, hit⟩
        · rw [if_neg c4]; exact ⟨_, _, _, _, _, _, rfl, out (Or.inr (Or.inr (Or.inr (by omega))))⟩
end
