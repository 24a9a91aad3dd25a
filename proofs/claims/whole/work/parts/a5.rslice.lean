/-! slices in the reference -/
theorem lx_z (x y z : Int) (v : V3) : lx v (x, y, z + 1) ↔ lx v (x, y, z) ∨ v = (x, y, z) := by
  rw [v3_iff]
  unfold lx
  dsimp only
  omega
section
variable {f : Nat} {N : V3} {cs : Nat} {c : Nat → V3} {ss : Nat} {s : Nat → V3} {e : Nat → Int} {bd' : Nat → V3} {be L G : Nat → Int} {b bc : Nat} {FI CO CR SI' SR MO BO : Nat → Int32}
theorem LG3 (h : GF f N cs c ss s e bd' be L G) : (-5 ≤ L 0 ∧ L 0 ≤ G 0 ∧ G 0 ≤ 5) ∧ (-5 ≤ L 1 ∧ L 1 ≤ G 1 ∧ G 1 ≤ 5) ∧ (-5 ≤ L 2 ∧ L 2 ≤ G 2 ∧ G 2 ≤ 5) := by
  obtain ⟨f3, c1, c40, s80, hs, hN, hbd, hbe, h0, hcr, hLG⟩ := h
  exact ⟨LG_bd hcr hLG (by omega), LG_bd hcr hLG (by omega), LG_bd hcr hLG (by omega)⟩
theorem lgs (h : GF f N cs c ss s e bd' be L G) (hR : RefB b f N cs c ss s e be FI CO CR SI' SR BO) (hb : b < 8) : (fX9_least CO CR (iz (b : Int)) 0 = some (iz (L 0)) ∧ fX9_least CO CR (iz (b : Int)) 1 = some (iz (L 1)) ∧ fX9_least CO CR (iz (b : Int)) 2 = some (iz (L 2))) ∧ fX9_greatest CO CR (iz (b : Int)) 0 = some (iz (G 0)) ∧ fX9_greatest CO CR (iz (b : Int)) 1 = some (iz (G 1)) ∧ fX9_greatest CO CR (iz (b : Int)) 2 = some (iz (G 2)) := by
  obtain ⟨f3, c1, c40, s80, hs, hN, hbd, hbe, h0, hcr, hLG⟩ := h
  obtain ⟨r1, r2, r3, _⟩ := hR
  have li := fun w (hw : w < 3) => least_i c40 c1 hcr hb r2 r3 hw (hLG w hw).1
  have gi := fun w (hw : w < 3) => greatest_i c40 c1 hcr hb r2 r3 hw (hLG w hw).2
  exact ⟨⟨li 0 (by omega), li 1 (by omega), li 2 (by omega)⟩, gi 0 (by omega), gi 1 (by omega), gi 2 (by omega)⟩
theorem rsl_z (h : GF f N cs c ss s e bd' be L G) (hR : RefB b f N cs c ss s e be FI CO CR SI' SR BO) (hb : b < 8) {w : Nat} (hw : w < 3) {a : Int} (ha : -2147483648 ≤ a ∧ a < 2147483648) (K : Int32 → Int32 → Int32 → Int32 → Int32 → Int32 → Int32 → Int32 → Int32 → Int32 → (Nat → Int32) → (Nat → Int32) → (Nat → Int32) → (Nat → Int32) → (Nat → Int32) → (Nat → Int32) → (Nat → Int32) → (Nat → Int32) → (Nat → Int32) → (Nat → Int32) → Option (Int32 × Int32 × Int32 × Int32 × Int32 × Int32 × (Nat → Int32) × (Nat → Int32) × (Nat → Int32) × (Nat → Int32) × (Nat → Int32) × (Nat → Int32) × (Nat → Int32) × (Nat → Int32) × (Nat → Int32) × (Nat → Int32))) (bo sx sy sw : Int32) {x y : Int} (hx : L 0 ≤ x ∧ x ≤ G 0) (hy : L 1 ≤ y ∧ y ≤ G 1) : ∀ (q fuel : Nat) (z : Int) (n : Nat) (p : Nat → V3), z + q = G 2 + 1 → L 2 ≤ z → q < fuel → Iv (Sl f N ss s e be L G w a) (x, y, z) n p → ∃ (n' : Nat) (p' : Nat → V3), LX9_slice_73 K fuel (iz (b : Int)) (iz (w : Int)) (iz a) (iz x) (iz y) (iz z) bo (iz (n : Int)) sx sy sw FI CO CR SI' SR MO BO (px p) (py p) (pz p) = K (iz (b : Int)) (iz (w : Int)) (iz a) (iz x) (iz y) bo (iz (n' : Int)) sx sy sw FI CO CR SI' SR MO BO (px p') (py p') (pz p') ∧ Iv (Sl f N ss s e be L G w a) (x, y + 1, L 2) n' p' := by
  obtain ⟨b0, b1, b2⟩ := LG3 h
  obtain ⟨_, _, _, g2⟩ := lgs h hR hb
  intro q
  induction q with
  | zero =>
    intro fuel z n p h1 h2 h3 h4
    obtain ⟨fuel, rfl⟩ : ∃ q, fuel = q + 1 := ⟨fuel - 1, by omega⟩
    refine ⟨n, p, ?_, Iv_mv h4 fun v hv => ?_⟩
    · rw [LX9_slice_73, g2, bd_some, if_pos (by rw [iz_lt (by omega) (by omega) (by omega) (by omega)]; omega)]
    · obtain ⟨⟨q1, q2, q3⟩, _⟩ := hv
      unfold lx
      dsimp only
      omega
  | succ q ih =>
    intro fuel z n p h1 h2 h3 h4
    obtain ⟨fuel, rfl⟩ : ∃ q, fuel = q + 1 := ⟨fuel - 1, by omega⟩
    have n121 := Iv_len h hw h4
    have wr := wh_rng f N ss s e be (x, y, z) 1
    have cb : -5 ≤ co (x, y, z) w ∧ co (x, y, z) w ≤ 5 := by
      unfold co
      dsimp only
      split
      · omega
      · split
        · omega
        · omega
    have three : ∀ (J : Int32 → Option (Int32 × Int32 × Int32 × Int32 × Int32 × Int32 × (Nat → Int32) × (Nat → Int32) × (Nat → Int32) × (Nat → Int32) × (Nat → Int32) × (Nat → Int32) × (Nat → Int32) × (Nat → Int32) × (Nat → Int32) × (Nat → Int32))), (if iz (w : Int) = 0 then J (iz x) else if iz (w : Int) = 1 then J (iz y) else J (iz z)) = J (iz (co (x, y, z) w)) := fun J => by
      rcases (show w = 0 ∨ w = 1 ∨ w = 2 by omega) with rfl | rfl | rfl
      · rw [if_pos (by decide)]; rfl
      · rw [if_neg (by decide), if_pos (by decide)]; rfl
      · rw [if_neg (by decide), if_neg (by decide)]; rfl
    have no : ¬ Sl f N ss s e be L G w a (x, y, z) → ∃ (n' : Nat) (p' : Nat → V3), LX9_slice_73 K fuel (iz (b : Int)) (iz (w : Int)) (iz a) (iz x) (iz y) (iz z + 1) bo (iz (n : Int)) sx sy sw FI CO CR SI' SR MO BO (px p) (py p) (pz p) = K (iz (b : Int)) (iz (w : Int)) (iz a) (iz x) (iz y) bo (iz (n' : Int)) sx sy sw FI CO CR SI' SR MO BO (px p') (py p') (pz p') ∧ Iv (Sl f N ss s e be L G w a) (x, y + 1, L 2) n' p' := fun hn => by
      rw [z1, iz_add]
      exact ih fuel (z + 1) n p (by omega) (by omega) (by omega) (Iv_mv h4 fun v hv => by
        rw [lx_z]
        exact ⟨Or.inl, fun q => q.resolve_right fun ev => hn (ev ▸ hv)⟩)
    have e1 : LX9_slice_73 K (fuel + 1) (iz (b : Int)) (iz (w : Int)) (iz a) (iz x) (iz y) (iz z) bo (iz (n : Int)) sx sy sw FI CO CR SI' SR MO BO (px p) (py p) (pz p) = JX9_slice_105 (LX9_slice_73 K fuel) K (iz (b : Int)) (iz (w : Int)) (iz a) (iz x) (iz y) (iz z) (iz (co (x, y, z) w)) bo (iz (n : Int)) sx sy sw FI CO CR SI' SR MO BO (px p) (py p) (pz p) := by
      rw [LX9_slice_73, g2, bd_some, if_neg (by rw [iz_lt (by omega) (by omega) (by omega) (by omega)]; omega)]
      exact three (fun t0 => JX9_slice_105 (LX9_slice_73 K fuel) K (iz (b : Int)) (iz (w : Int)) (iz a) (iz x) (iz y) (iz z) t0 bo (iz (n : Int)) sx sy sw FI CO CR SI' SR MO BO (px p) (py p) (pz p))
    rw [e1]
    unfold JX9_slice_105 JX9_slice_137
    by_cases ca : co (x, y, z) w = a
    · have ew : fX9_where FI CR SI' SR BO (iz (b : Int)) (iz x).toInt64 (iz y).toInt64 (iz z).toInt64 1 = some (iz (wh f N ss s e be (x, y, z) 1)) := where_c h hR hb (Q := 1) (by omega) (by omega) (by omega) (by omega)
      rw [if_pos (by rw [ca]), ew, bd_some]
      by_cases c0 : wh f N ss s e be (x, y, z) 1 = 0
      · rw [if_pos (by rw [c0]; decide)]
        exact no fun hv => hv.2.2 c0
      · have hT : Sl f N ss s e be L G w a (x, y, z) := ⟨⟨hx, hy, h2, by show z ≤ G 2; omega⟩, ca, c0⟩
        obtain ⟨n1, p1, e2, k1⟩ := Iv_pt h4 (t' := (x, y, z + 1)) (by omega) (fun v hv => (Sl_rc h hv).1) hT (fun v _ => lx_z x y z v)
        have e2' : fX9_point (iz (n : Int)) (px p) (py p) (pz p) (iz x) (iz y) (iz z) = some (iz (n1 : Int), px p1, py p1, pz p1) := e2
        rw [if_neg (by rw [z0, iz_le (by omega) (by omega) (by omega) (by omega)]; omega), e2', bd_some]
        dsimp only
        rw [z1, iz_add]
        exact ih fuel (z + 1) n1 p1 (by omega) (by omega) (by omega) k1
    · rw [if_neg (by rw [iz_eq (by omega) (by omega) (by omega) (by omega)]; exact ca)]
      exact no fun hv => ca hv.2.1
theorem rsl_y (h : GF f N cs c ss s e bd' be L G) (hR : RefB b f N cs c ss s e be FI CO CR SI' SR BO) (hb : b < 8) {w : Nat} (hw : w < 3) {a : Int} (ha : -2147483648 ≤ a ∧ a < 2147483648) (K : Int32 → Int32 → Int32 → Int32 → Int32 → Int32 → Int32 → Int32 → Int32 → (Nat → Int32) → (Nat → Int32) → (Nat → Int32) → (Nat → Int32) → (Nat → Int32) → (Nat → Int32) → (Nat → Int32) → (Nat → Int32) → (Nat → Int32) → (Nat → Int32) → Option (Int32 × Int32 × Int32 × Int32 × Int32 × Int32 × (Nat → Int32) × (Nat → Int32) × (Nat → Int32) × (Nat → Int32) × (Nat → Int32) × (Nat → Int32) × (Nat → Int32) × (Nat → Int32) × (Nat → Int32) × (Nat → Int32))) (bo sx sy sw : Int32) {x : Int} (hx : L 0 ≤ x ∧ x ≤ G 0) : ∀ (q fuel : Nat) (y : Int) (n : Nat) (p : Nat → V3), y + q = G 1 + 1 → L 1 ≤ y → q < fuel → Iv (Sl f N ss s e be L G w a) (x, y, L 2) n p → ∃ (n' : Nat) (p' : Nat → V3), LX9_slice_54 K fuel (iz (b : Int)) (iz (w : Int)) (iz a) (iz x) (iz y) bo (iz (n : Int)) sx sy sw FI CO CR SI' SR MO BO (px p) (py p) (pz p) = K (iz (b : Int)) (iz (w : Int)) (iz a) (iz x) bo (iz (n' : Int)) sx sy sw FI CO CR SI' SR MO BO (px p') (py p') (pz p') ∧ Iv (Sl f N ss s e be L G w a) (x + 1, L 1, L 2) n' p' := by
  obtain ⟨b0, b1, b2⟩ := LG3 h
  obtain ⟨⟨_, _, l2⟩, _, g1, _⟩ := lgs h hR hb
  intro q
  induction q with
  | zero =>
    intro fuel y n p h1 h2 h3 h4
    obtain ⟨fuel, rfl⟩ : ∃ q, fuel = q + 1 := ⟨fuel - 1, by omega⟩
    refine ⟨n, p, ?_, Iv_mv h4 fun v hv => ?_⟩
    · rw [LX9_slice_54, g1, bd_some, if_pos (by rw [iz_lt (by omega) (by omega) (by omega) (by omega)]; omega)]
    · obtain ⟨⟨q1, q2, q3⟩, _⟩ := hv
      unfold lx
      dsimp only
      omega
  | succ q ih =>
    intro fuel y n p h1 h2 h3 h4
    obtain ⟨fuel, rfl⟩ : ∃ q, fuel = q + 1 := ⟨fuel - 1, by omega⟩
    obtain ⟨n1, p1, e1, k1⟩ := rsl_z h hR hb hw ha (fun a1 a2 a3 a4 a5 mbo mpo msx msy msw mFI mCO mCR mSI mSR mMO mBO mPX mPY mPZ => (LX9_slice_54 K fuel a1 a2 a3 a4 (a5 + 1) mbo mpo msx msy msw mFI mCO mCR mSI mSR mMO mBO mPX mPY mPZ)) bo sx sy sw (MO := MO) hx (y := y) (by omega) (G 2 + 1 - L 2).toNat FU (L 2) n p (by omega) (by omega) (by unfold FU; omega) h4
    rw [LX9_slice_54, g1, bd_some, if_neg (by rw [iz_lt (by omega) (by omega) (by omega) (by omega)]; omega), l2, bd_some, e1, z1, iz_add]
    exact ih fuel (y + 1) n1 p1 (by omega) (by omega) (by omega) k1
theorem rsl_x (h : GF f N cs c ss s e bd' be L G) (hR : RefB b f N cs c ss s e be FI CO CR SI' SR BO) (hb : b < 8) {w : Nat} (hw : w < 3) {a : Int} (ha : -2147483648 ≤ a ∧ a < 2147483648) (bo sx sy sw : Int32) : ∀ (q fuel : Nat) (x : Int) (n : Nat) (p : Nat → V3), x + q = G 0 + 1 → L 0 ≤ x → q < fuel → Iv (Sl f N ss s e be L G w a) (x, L 1, L 2) n p → ∃ (n' : Nat) (p' : Nat → V3) (fu : Nat), LX9_slice_35 fuel (iz (b : Int)) (iz (w : Int)) (iz a) (iz x) bo (iz (n : Int)) sx sy sw FI CO CR SI' SR MO BO (px p) (py p) (pz p) = LX9_slice_35 (fu + 1) (iz (b : Int)) (iz (w : Int)) (iz a) (iz (G 0 + 1)) bo (iz (n' : Int)) sx sy sw FI CO CR SI' SR MO BO (px p') (py p') (pz p') ∧ Iv (Sl f N ss s e be L G w a) (G 0 + 1, L 1, L 2) n' p' := by
  obtain ⟨b0, b1, b2⟩ := LG3 h
  obtain ⟨⟨_, l1, _⟩, g0, _, _⟩ := lgs h hR hb
  intro q
  induction q with
  | zero =>
    intro fuel x n p h1 h2 h3 h4
    obtain ⟨fuel, rfl⟩ : ∃ q, fuel = q + 1 := ⟨fuel - 1, by omega⟩
    obtain rfl : x = G 0 + 1 := by omega
    exact ⟨n, p, fuel, rfl, h4⟩
  | succ q ih =>
    intro fuel x n p h1 h2 h3 h4
    obtain ⟨fuel, rfl⟩ : ∃ q, fuel = q + 1 := ⟨fuel - 1, by omega⟩
    obtain ⟨n1, p1, e1, k1⟩ := rsl_y h hR hb hw ha (fun a1 a2 a3 a4 mbo mpo msx msy msw mFI mCO mCR mSI mSR mMO mBO mPX mPY mPZ => (LX9_slice_35 fuel a1 a2 a3 (a4 + 1) mbo mpo msx msy msw mFI mCO mCR mSI mSR mMO mBO mPX mPY mPZ)) bo sx sy sw (MO := MO) (x := x) (by omega) (G 1 + 1 - L 1).toNat FU (L 1) n p (by omega) (by omega) (by unfold FU; omega) h4
    obtain ⟨n', p', fu, e2, k2⟩ := ih fuel (x + 1) n1 p1 (by omega) (by omega) (by omega) k1
    refine ⟨n', p', fu, ?_, k2⟩
    rw [← e2, LX9_slice_35, g0, bd_some, if_neg (by rw [iz_lt (by omega) (by omega) (by omega) (by omega)]; omega), l1, bd_some, e1, z1, iz_add]
end
