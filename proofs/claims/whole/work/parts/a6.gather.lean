/-! slices in the class -/
section
variable {f : Nat} {N : V3} {cs : Nat} {c : Nat → V3} {ss : Nat} {s : Nat → V3} {e : Nat → Int} {bd' : Nat → V3} {be L G : Nat → Int} {b bc : Nat} {FI CO CR SI' SR MO BO : Nat → Int32}
theorem look1 (h : GF f N cs c ss s e bd' be L G) {x y : Int} (hx : L 0 ≤ x ∧ x ≤ G 0) (hy : L 1 ≤ y ∧ y ≤ G 1) (l0 h0' : Int32) : ∃ lo hi : Int, fX7_look ss (nbd f) (iz 1) (iz (L 2)) (iz (G 2)) l0 h0' (iz (ss : Int)) (px s) (py s) (pz s) (pe e) (iz ((nbd f : Nat) : Int)) (px bd') (py bd') (pz bd') (pe be) (iz x) (iz y) = some (iz lo, iz hi) ∧ rgC lo hi ∧ ∀ z, (lo ≤ z ∧ z ≤ hi) ↔ (L 2 ≤ z ∧ z ≤ G 2) ∧ wh f N ss s e be (x, y, z) 1 ≠ 0 := by
  obtain ⟨b0, b1, b2⟩ := LG3 h
  obtain ⟨lo, hi, q1, q2, q3⟩ := look_c h (Q := 1) (by omega) (x := x) (y := y) (by omega) (by omega) l0 h0'
  have e1 : bl L 1 2 = L 2 := Int.mul_one _
  have e2 : G 2 * 1 = G 2 := Int.mul_one _
  have bx := (box_bd h (Q := 1) (by omega) (show 2 < 3 by omega)).2.2.1
  rw [e1, e2] at q1
  refine ⟨lo, hi, q1, q2, fun z => (q3 z).trans ?_⟩
  rw [e1, e2] at bx
  unfold pB
  rw [decide_eq_true_iff, e1, show L 2 + (bn L G 1 2 : Int) - 1 = G 2 by omega]
theorem gz_i (h : GF f N cs c ss s e bd' be L G) {w : Nat} (hw : w < 3) {a : Int} (ha : -2147483648 ≤ a ∧ a < 2147483648) (K : Int32 → Int32 → Int32 → Int32 → Int32 → Int32 → Int32 → (Nat → Int32) → (Nat → Int32) → (Nat → Int32) → Option (Int32 × Int32 × Int32 × (Nat → Int32) × (Nat → Int32) × (Nat → Int32))) {x y : Int} (hx : L 0 ≤ x ∧ x ≤ G 0) (hy : L 1 ≤ y ∧ y ≤ G 1) (g0 : w = 0 → x = a) (g1 : w = 1 → y = a) {lo hi : Int} (hl : rgC lo hi) (hT : ∀ z, (lo ≤ z ∧ z ≤ hi) ↔ (L 2 ≤ z ∧ z ≤ G 2) ∧ wh f N ss s e be (x, y, z) 1 ≠ 0) : ∀ (q fuel : Nat) (z : Int) (n : Nat) (p : Nat → V3), z + q = hi + 1 → lo ≤ z → q < fuel → Iv (Sl f N ss s e be L G w a) (x, y, z) n p → ∃ (n' : Nat) (p' : Nat → V3), LX7_gather_68 ss (nbd f) 121 (iz 1) (iz (L 0)) (iz (G 0)) (iz (L 1)) (iz (G 1)) (iz (L 2)) (iz (G 2)) (iz (ss : Int)) (px s) (py s) (pz s) (pe e) (iz ((nbd f : Nat) : Int)) (px bd') (py bd') (pz bd') (pe be) K fuel (iz (w : Int)) (iz a) (iz x) (iz y) (iz z) (iz lo) (iz hi) (iz (n : Int)) (px p) (py p) (pz p) = K (iz (w : Int)) (iz a) (iz x) (iz y) (iz lo) (iz hi) (iz (n' : Int)) (px p') (py p') (pz p') ∧ Iv (Sl f N ss s e be L G w a) (x, y, hi + 1) n' p' := by
  obtain ⟨b0, b1, b2⟩ := LG3 h
  obtain ⟨r1, r2, r3, r4⟩ := hl
  intro q
  induction q with
  | zero =>
    intro fuel z n p h1 h2 h3 h4
    obtain ⟨fuel, rfl⟩ : ∃ q, fuel = q + 1 := ⟨fuel - 1, by omega⟩
    obtain rfl : z = hi + 1 := by omega
    refine ⟨n, p, ?_, h4⟩
    rw [LX7_gather_68, if_pos (by rw [iz_lt (by omega) (by omega) (by omega) (by omega)]; omega)]
  | succ q ih =>
    intro fuel z n p h1 h2 h3 h4
    obtain ⟨fuel, rfl⟩ : ∃ q, fuel = q + 1 := ⟨fuel - 1, by omega⟩
    obtain ⟨zb, zw⟩ := (hT z).mp ⟨h2, by omega⟩
    have skip : co (x, y, z) w ≠ a → ∃ (n' : Nat) (p' : Nat → V3), LX7_gather_68 ss (nbd f) 121 (iz 1) (iz (L 0)) (iz (G 0)) (iz (L 1)) (iz (G 1)) (iz (L 2)) (iz (G 2)) (iz (ss : Int)) (px s) (py s) (pz s) (pe e) (iz ((nbd f : Nat) : Int)) (px bd') (py bd') (pz bd') (pe be) K fuel (iz (w : Int)) (iz a) (iz x) (iz y) (iz z + 1) (iz lo) (iz hi) (iz (n : Int)) (px p) (py p) (pz p) = K (iz (w : Int)) (iz a) (iz x) (iz y) (iz lo) (iz hi) (iz (n' : Int)) (px p') (py p') (pz p') ∧ Iv (Sl f N ss s e be L G w a) (x, y, hi + 1) n' p' := fun hn => by
      rw [z1, iz_add]
      exact ih fuel (z + 1) n p (by omega) (by omega) (by omega) (Iv_mv h4 fun v hv => by
        rw [lx_z]
        exact ⟨Or.inl, fun q => q.resolve_right fun ev => hn (by rw [← ev]; exact hv.2.1)⟩)
    have take : co (x, y, z) w = a → ∃ (n' : Nat) (p' : Nat → V3), (bd (fX4_put 121 (iz (n : Int)) (px p) (py p) (pz p) (iz x) (iz y) (iz z)) (fun v_8 => LX7_gather_68 ss (nbd f) 121 (iz 1) (iz (L 0)) (iz (G 0)) (iz (L 1)) (iz (G 1)) (iz (L 2)) (iz (G 2)) (iz (ss : Int)) (px s) (py s) (pz s) (pe e) (iz ((nbd f : Nat) : Int)) (px bd') (py bd') (pz bd') (pe be) K fuel (iz (w : Int)) (iz a) (iz x) (iz y) (iz z + 1) (iz lo) (iz hi) v_8.1 v_8.2.1 v_8.2.2.1 v_8.2.2.2)) = K (iz (w : Int)) (iz a) (iz x) (iz y) (iz lo) (iz hi) (iz (n' : Int)) (px p') (py p') (pz p') ∧ Iv (Sl f N ss s e be L G w a) (x, y, hi + 1) n' p' := fun hc => by
      have hTt : Sl f N ss s e be L G w a (x, y, z) := ⟨⟨hx, hy, zb⟩, hc, zw⟩
      have iv := Iv_add h4 (t' := (x, y, z + 1)) hTt (fun v _ => lx_z x y z v)
      have n121 := Iv_len h hw iv
      have pt : fX4_put 121 (iz (n : Int)) (px p) (py p) (pz p) (iz x) (iz y) (iz z) = _ := put121 (n := n) (by omega) p (x, y, z)
      rw [pt, bd_some]
      dsimp only
      rw [z1, iz_add]
      exact ih fuel (z + 1) (n + 1) _ (by omega) (by omega) (by omega) iv
    rw [LX7_gather_68, if_neg (by rw [iz_lt (by omega) (by omega) (by omega) (by omega)]; omega)]
    unfold JX7_gather_88 JX7_gather_98
    rcases (show w = 0 ∨ w = 1 ∨ w = 2 by omega) with rfl | rfl | rfl
    · rw [if_neg (by decide)]
      exact take (g0 rfl)
    · rw [if_neg (by decide)]
      exact take (g1 rfl)
    · rw [if_pos (by decide)]
      by_cases cz : z = a
      · rw [if_pos (by rw [cz])]
        exact take cz
      · rw [if_neg (by rw [iz_eq (by omega) (by omega) (by omega) (by omega)]; exact cz)]
        exact skip cz
theorem gy_i (h : GF f N cs c ss s e bd' be L G) {w : Nat} (hw : w < 3) {a : Int} (ha : -2147483648 ≤ a ∧ a < 2147483648) (K : Int32 → Int32 → Int32 → Int32 → Int32 → Int32 → (Nat → Int32) → (Nat → Int32) → (Nat → Int32) → Option (Int32 × Int32 × Int32 × (Nat → Int32) × (Nat → Int32) × (Nat → Int32))) {x : Int} (hx : L 0 ≤ x ∧ x ≤ G 0) : ∀ (q fuel : Nat) (y : Int) (n : Nat) (p : Nat → V3) (l0 h0' : Int32), y + q = G 1 + 1 → L 1 ≤ y → q < fuel → Iv (Sl f N ss s e be L G w a) (x, y, L 2) n p → ∃ (n' : Nat) (p' : Nat → V3) (l1 h1 : Int32), LX7_gather_21 ss (nbd f) 121 (iz 1) (iz (L 0)) (iz (G 0)) (iz (L 1)) (iz (G 1)) (iz (L 2)) (iz (G 2)) (iz (ss : Int)) (px s) (py s) (pz s) (pe e) (iz ((nbd f : Nat) : Int)) (px bd') (py bd') (pz bd') (pe be) K fuel (iz (w : Int)) (iz a) (iz x) (iz y) l0 h0' (iz (n : Int)) (px p) (py p) (pz p) = K (iz (w : Int)) (iz a) (iz x) l1 h1 (iz (n' : Int)) (px p') (py p') (pz p') ∧ Iv (Sl f N ss s e be L G w a) (x + 1, L 1, L 2) n' p' := by
  obtain ⟨b0, b1, b2⟩ := LG3 h
  intro q
  induction q with
  | zero =>
    intro fuel y n p l0 h0' h1 h2 h3 h4
    obtain ⟨fuel, rfl⟩ : ∃ q, fuel = q + 1 := ⟨fuel - 1, by omega⟩
    refine ⟨n, p, l0, h0', ?_, Iv_mv h4 fun v hv => ?_⟩
    · rw [LX7_gather_21, if_pos (by rw [iz_lt (by omega) (by omega) (by omega) (by omega)]; omega)]
    · obtain ⟨⟨q1, q2, q3⟩, _⟩ := hv
      unfold lx
      dsimp only
      omega
  | succ q ih =>
    intro fuel y n p l0 h0' h1 h2 h3 h4
    obtain ⟨fuel, rfl⟩ : ∃ q, fuel = q + 1 := ⟨fuel - 1, by omega⟩
    rw [LX7_gather_21, if_neg (by rw [iz_lt (by omega) (by omega) (by omega) (by omega)]; omega)]
    have skip : ¬ ((w = 0 → x = a) ∧ (w = 1 → y = a)) → ∃ (n' : Nat) (p' : Nat → V3) (l1 h1 : Int32), JX7_gather_104 ss (nbd f) 121 (iz 1) (iz (L 0)) (iz (G 0)) (iz (L 1)) (iz (G 1)) (iz (L 2)) (iz (G 2)) (iz (ss : Int)) (px s) (py s) (pz s) (pe e) (iz ((nbd f : Nat) : Int)) (px bd') (py bd') (pz bd') (pe be) (LX7_gather_21 ss (nbd f) 121 (iz 1) (iz (L 0)) (iz (G 0)) (iz (L 1)) (iz (G 1)) (iz (L 2)) (iz (G 2)) (iz (ss : Int)) (px s) (py s) (pz s) (pe e) (iz ((nbd f : Nat) : Int)) (px bd') (py bd') (pz bd') (pe be) K fuel) K (iz (w : Int)) (iz a) (iz x) (iz y) l0 h0' (iz (n : Int)) (px p) (py p) (pz p) = K (iz (w : Int)) (iz a) (iz x) l1 h1 (iz (n' : Int)) (px p') (py p') (pz p') ∧ Iv (Sl f N ss s e be L G w a) (x + 1, L 1, L 2) n' p' := fun hn => by
      unfold JX7_gather_104
      rw [z1, iz_add]
      exact ih fuel (y + 1) n p l0 h0' (by omega) (by omega) (by omega) (Iv_mv h4 fun v hv => by
        obtain ⟨⟨q1, q2, q3⟩, q4, _⟩ := hv
        have : ¬ (v.1 = x ∧ v.2.1 = y) := fun ⟨u1, u2⟩ => hn ⟨fun w0 => by rw [w0] at q4; change v.1 = a at q4; omega, fun w1 => by rw [w1] at q4; change v.2.1 = a at q4; omega⟩
        unfold lx
        dsimp only
        omega)
    have take : (w = 0 → x = a) → (w = 1 → y = a) → ∃ (n' : Nat) (p' : Nat → V3) (l1 h1 : Int32), JX7_gather_54 ss (nbd f) 121 (iz 1) (iz (L 0)) (iz (G 0)) (iz (L 1)) (iz (G 1)) (iz (L 2)) (iz (G 2)) (iz (ss : Int)) (px s) (py s) (pz s) (pe e) (iz ((nbd f : Nat) : Int)) (px bd') (py bd') (pz bd') (pe be) (LX7_gather_21 ss (nbd f) 121 (iz 1) (iz (L 0)) (iz (G 0)) (iz (L 1)) (iz (G 1)) (iz (L 2)) (iz (G 2)) (iz (ss : Int)) (px s) (py s) (pz s) (pe e) (iz ((nbd f : Nat) : Int)) (px bd') (py bd') (pz bd') (pe be) K fuel) K (iz (w : Int)) (iz a) (iz x) (iz y) l0 h0' (iz (n : Int)) (px p) (py p) (pz p) = K (iz (w : Int)) (iz a) (iz x) l1 h1 (iz (n' : Int)) (px p') (py p') (pz p') ∧ Iv (Sl f N ss s e be L G w a) (x + 1, L 1, L 2) n' p' := fun g0 g1 => by
      obtain ⟨lo, hi, q1, q2, q3⟩ := look1 h hx (y := y) (by omega) l0 h0'
      have q2' := q2
      obtain ⟨r1, r2, r3, r4⟩ := q2'
      unfold JX7_gather_54
      rw [q1, bd_some]
      dsimp only
      by_cases em : hi < lo
      · rw [show FU = 4999 + 1 from rfl, LX7_gather_68, if_pos (by rw [iz_lt (by omega) (by omega) (by omega) (by omega)]; omega)]
        unfold JX7_gather_104
        rw [z1, iz_add]
        exact ih fuel (y + 1) n p (iz lo) (iz hi) (by omega) (by omega) (by omega) (Iv_mv h4 fun v hv => by
          obtain ⟨⟨p1, p2, p3⟩, p4, p5⟩ := hv
          have : ¬ (v.1 = x ∧ v.2.1 = y) := fun ⟨u1, u2⟩ => by
            have := (q3 v.2.2).mpr ⟨p3, by rw [← u1, ← u2]; exact p5⟩
            omega
          unfold lx
          dsimp only
          omega)
      · have l2 : L 2 ≤ lo := ((q3 lo).mp ⟨Int.le_refl _, by omega⟩).1.1
        obtain ⟨n1, p1, e1, k1⟩ := gz_i h hw ha (fun a2 a3 a4 a5 mlo mhi msz1 mU mV mT => (JX7_gather_104 ss (nbd f) 121 (iz 1) (iz (L 0)) (iz (G 0)) (iz (L 1)) (iz (G 1)) (iz (L 2)) (iz (G 2)) (iz (ss : Int)) (px s) (py s) (pz s) (pe e) (iz ((nbd f : Nat) : Int)) (px bd') (py bd') (pz bd') (pe be) (LX7_gather_21 ss (nbd f) 121 (iz 1) (iz (L 0)) (iz (G 0)) (iz (L 1)) (iz (G 1)) (iz (L 2)) (iz (G 2)) (iz (ss : Int)) (px s) (py s) (pz s) (pe e) (iz ((nbd f : Nat) : Int)) (px bd') (py bd') (pz bd') (pe be) K fuel) K a2 a3 a4 a5 mlo mhi msz1 mU mV mT)) hx (y := y) (by omega) g0 g1 q2 q3 (hi + 1 - lo).toNat FU lo n p (by omega) (by omega) (by unfold FU; omega) (Iv_mv h4 fun v hv => by
          obtain ⟨⟨p1, p2, p3⟩, p4, p5⟩ := hv
          have : v.1 = x ∧ v.2.1 = y → lo ≤ v.2.2 := fun ⟨u1, u2⟩ => ((q3 v.2.2).mpr ⟨p3, by rw [← u1, ← u2]; exact p5⟩).1
          unfold lx
          dsimp only
          omega)
        rw [e1]
        unfold JX7_gather_104
        rw [z1, iz_add]
        exact ih fuel (y + 1) n1 p1 (iz lo) (iz hi) (by omega) (by omega) (by omega) (Iv_mv k1 fun v hv => by
          obtain ⟨⟨p1, p2, p3⟩, p4, p5⟩ := hv
          have : v.1 = x ∧ v.2.1 = y → v.2.2 ≤ hi := fun ⟨u1, u2⟩ => ((q3 v.2.2).mpr ⟨p3, by rw [← u1, ← u2]; exact p5⟩).2
          unfold lx
          dsimp only
          omega)
    unfold JX7_gather_40
    rcases (show w = 0 ∨ w = 1 ∨ w = 2 by omega) with rfl | rfl | rfl
    · rw [if_pos (by decide)]
      by_cases cx' : x = a
      · rw [if_pos (by rw [cx']), if_neg (by decide)]
        exact take (fun _ => cx') (fun q => by omega)
      · rw [if_neg (by rw [iz_eq (by omega) (by omega) (by omega) (by omega)]; exact cx')]
        exact skip fun q => cx' (q.1 rfl)
    · rw [if_neg (by decide), if_pos (by decide)]
      by_cases cy' : y = a
      · rw [if_pos (by rw [cy'])]
        exact take (fun q => by omega) (fun _ => cy')
      · rw [if_neg (by rw [iz_eq (by omega) (by omega) (by omega) (by omega)]; exact cy')]
        exact skip fun q => cy' (q.2 rfl)
    · rw [if_neg (by decide), if_neg (by decide)]
      exact take (fun q => by omega) (fun q => by omega)
theorem gx_i (h : GF f N cs c ss s e bd' be L G) {w : Nat} (hw : w < 3) {a : Int} (ha : -2147483648 ≤ a ∧ a < 2147483648) : ∀ (q fuel : Nat) (x : Int) (n : Nat) (p : Nat → V3) (l0 h0' : Int32), x + q = G 0 + 1 → L 0 ≤ x → q < fuel → Iv (Sl f N ss s e be L G w a) (x, L 1, L 2) n p → ∃ (n' : Nat) (p' : Nat → V3) (l1 h1 : Int32), LX7_gather_6 ss (nbd f) 121 (iz 1) (iz (L 0)) (iz (G 0)) (iz (L 1)) (iz (G 1)) (iz (L 2)) (iz (G 2)) (iz (ss : Int)) (px s) (py s) (pz s) (pe e) (iz ((nbd f : Nat) : Int)) (px bd') (py bd') (pz bd') (pe be) fuel (iz (w : Int)) (iz a) (iz x) l0 h0' (iz (n : Int)) (px p) (py p) (pz p) = some (l1, h1, iz (n' : Int), px p', py p', pz p') ∧ Iv (Sl f N ss s e be L G w a) (G 0 + 1, L 1, L 2) n' p' := by
  obtain ⟨b0, b1, b2⟩ := LG3 h
  intro q
  induction q with
  | zero =>
    intro fuel x n p l0 h0' h1 h2 h3 h4
    obtain ⟨fuel, rfl⟩ : ∃ q, fuel = q + 1 := ⟨fuel - 1, by omega⟩
    obtain rfl : x = G 0 + 1 := by omega
    refine ⟨n, p, l0, h0', ?_, h4⟩
    rw [LX7_gather_6, if_pos (by rw [iz_lt (by omega) (by omega) (by omega) (by omega)]; omega)]
  | succ q ih =>
    intro fuel x n p l0 h0' h1 h2 h3 h4
    obtain ⟨fuel, rfl⟩ : ∃ q, fuel = q + 1 := ⟨fuel - 1, by omega⟩
    obtain ⟨n1, p1, l1, hh1, e1, k1⟩ := gy_i h hw ha (fun a2 a3 a4 mlo mhi msz1 mU mV mT => (LX7_gather_6 ss (nbd f) 121 (iz 1) (iz (L 0)) (iz (G 0)) (iz (L 1)) (iz (G 1)) (iz (L 2)) (iz (G 2)) (iz (ss : Int)) (px s) (py s) (pz s) (pe e) (iz ((nbd f : Nat) : Int)) (px bd') (py bd') (pz bd') (pe be) fuel a2 a3 (a4 + 1) mlo mhi msz1 mU mV mT)) (x := x) (by omega) (G 1 + 1 - L 1).toNat FU (L 1) n p l0 h0' (by omega) (by omega) (by unfold FU; omega) h4
    obtain ⟨n', p', l2, h2', e2, k2⟩ := ih fuel (x + 1) n1 p1 l1 hh1 (by omega) (by omega) (by omega) k1
    refine ⟨n', p', l2, h2', ?_, k2⟩
    rw [LX7_gather_6, if_neg (by rw [iz_lt (by omega) (by omega) (by omega) (by omega)]; omega), e1, z1, iz_add]
    exact e2
theorem gather_i (h : GF f N cs c ss s e bd' be L G) {w : Nat} (hw : w < 3) {a : Int} (ha : -2147483648 ≤ a ∧ a < 2147483648) (U V T : Nat → Int32) (l0 h0' : Int32) : ∃ (n : Nat) (p : Nat → V3) (l1 h1 : Int32), fX7_gather ss (nbd f) 121 (iz 1) (iz (L 0)) (iz (G 0)) (iz (L 1)) (iz (G 1)) (iz (L 2)) (iz (G 2)) l0 h0' (iz (ss : Int)) (px s) (py s) (pz s) (pe e) (iz ((nbd f : Nat) : Int)) (px bd') (py bd') (pz bd') (pe be) 0 U V T (iz (w : Int)) (iz a) = some (l1, h1, iz (n : Int), px p, py p, pz p) ∧ SS n p ∧ ∀ v, Mm n p v ↔ Sl f N ss s e be L G w a v := by
  obtain ⟨b0, b1, b2⟩ := LG3 h
  obtain ⟨n, p, l1, h1, e1, k1⟩ := gx_i h hw ha (G 0 + 1 - L 0).toNat FU (L 0) 0 (at3 U V T) l0 h0' (by omega) (by omega) (by unfold FU; omega) ⟨SS_none, fun v => ⟨fun ⟨i, hi, _⟩ => by omega, fun ⟨hv, hl⟩ => by
    obtain ⟨⟨q1, q2, q3⟩, _⟩ := hv
    unfold lx at hl
    dsimp only at hl
    omega⟩⟩
  rw [px_at, py_at, pz_at] at e1
  refine ⟨n, p, l1, h1, e1, k1.1, fun v => (k1.2 v).trans ⟨fun q => q.1, fun q => ⟨q, ?_⟩⟩⟩
  obtain ⟨⟨q1, q2, q3⟩, _⟩ := q
  unfold lx
  dsimp only
  omega
end
