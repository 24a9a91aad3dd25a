/-! slice alike -/
section
variable {f : Nat} {N : V3} {cs : Nat} {c : Nat → V3} {ss : Nat} {s : Nat → V3} {e : Nat → Int} {bd' : Nat → V3} {be L G : Nat → Int} {b bc : Nat} {FI CO CR SI' SR MO BO : Nat → Int32}
theorem slice_core (h : GB f N cs c ss s e bd' be L G) (hR : RefB b f N cs c ss s e be FI CO CR SI' SR BO) (hb : b < bc) (hbc : bc ≤ 8) {w : Nat} (hw : w < 3) {a : Int} (ha : -2147483648 ≤ a ∧ a < 2147483648) {n : Nat} {p : Nat → V3} (hp : SS n p) (hm : ∀ v, Mm n p v ↔ Sl f N ss s e be L G w a v) (fi ss0 bs0 : Int32) (SA SB SC SE BA BB BC BD : Nat → Int32) (l1 l2 l3 c1 c2 c3 r1 r2 r3 f1 f2 f3 : Int32) (po sx sy sw : Int32) (PX PY PZ : Nat → Int32) : (n = 0 ∧ ∃ (po' : Int32) (PX' PY' PZ' : Nat → Int32), fX9_slice (iz (bc : Int)) po sx sy sw FI CO CR SI' SR MO BO PX PY PZ (iz (b : Int)) (iz (w : Int)) (iz a) = some (-4, iz (bc : Int), po', sx, sy, sw, FI, CO, CR, SI', SR, MO, BO, PX', PY', PZ')) ∨ (1 ≤ n ∧ bc = 8 ∧ ∃ (po' : Int32) (PX' PY' PZ' : Nat → Int32), fX9_slice (iz (bc : Int)) po sx sy sw FI CO CR SI' SR MO BO PX PY PZ (iz (b : Int)) (iz (w : Int)) (iz a) = some (-3, iz (bc : Int), po', sx, sy, sw, FI, CO, CR, SI', SR, MO, BO, PX', PY', PZ')) ∨ (1 ≤ n ∧ bc < 8 ∧ ∃ (f' : Nat) (N' : V3) (cs' : Nat) (c' : Nat → V3) (ss' : Nat) (s' : Nat → V3) (e' : Nat → Int) (bd'' : Nat → V3) (be' L' G' : Nat → Int) (w1 w2 : Int32) (w3 w4 w5 : Nat → Int32) (w6 : Int32) (w7 w8 w9 w10 : Nat → Int32) (w11 : Int32) (w12 w13 w14 w15 : Nat → Int32) (w16 w17 w18 w19 w20 w21 w22 w23 w24 w25 w26 w27 : Int32) (sx' sy' sw' : Int32) (FI' CO' CR' SI'' SR' MO' BO' : Nat → Int32) (po' : Int32) (PX' PY' PZ' : Nat → Int32), fX8_keepMade_mk (iz (bc : Int)) fi (iz (n : Int)) (px p) (py p) (pz p) ss0 SA SB SC SE bs0 BA BB BC BD l1 l2 l3 c1 c2 c3 r1 r2 r3 f1 f2 f3 = some (iz (bc : Int), iz ((bc + 1 : Nat) : Int), w1, w2, w3, w4, w5, w6, w7, w8, w9, w10, w11, w12, w13, w14, w15, w16, w17, w18, w19, w20, w21, w22, w23, w24, w25, w26, w27, iz (f' : Int), iz (n : Int), iz (cs' : Int), iz (ss' : Int), iz ((nbd f' : Nat) : Int), pe L', pe G', px c', cs', py c', pz c', px s', ss', py s', pz s', pe e', px bd'', nbd f', py bd'', pz bd'', pe be') ∧ GB f' N' cs' c' ss' s' e' bd'' be' L' G' ∧ fX9_slice (iz (bc : Int)) po sx sy sw FI CO CR SI' SR MO BO PX PY PZ (iz (b : Int)) (iz (w : Int)) (iz a) = some (iz (bc : Int), iz ((bc + 1 : Nat) : Int), po', sx', sy', sw', FI', CO', CR', SI'', SR', MO', BO', PX', PY', PZ') ∧ RefB bc f' N' cs' c' ss' s' e' be' FI' CO' CR' SI'' SR' BO' ∧ MO' bc = iz (n : Int) ∧ RFr bc FI CO CR SI' SR MO BO FI' CO' CR' SI'' SR' MO' BO') := by
  have hF := GB_facts h
  obtain ⟨b0, b1, b2⟩ := LG3 hF
  have b8' : b < 8 := by omega
  obtain ⟨⟨l0, _, _⟩, g0, _, _⟩ := lgs hF hR b8'
  obtain ⟨m, P, fu, e1, k1⟩ := rsl_x hF hR b8' hw ha (iz (bc : Int)) sx sy sw (MO := MO) (G 0 + 1 - L 0).toNat FU (L 0) 0 (at3 PX PY PZ) (by omega) (by omega) (by unfold FU; omega) ⟨SS_none, fun v => ⟨fun ⟨i, hi, _⟩ => by omega, fun ⟨hv, hl⟩ => by
    obtain ⟨⟨q1, q2, q3⟩, _⟩ := hv
    unfold lx at hl
    dsimp only at hl
    omega⟩⟩
  rw [px_at, py_at, pz_at] at e1
  have hm2 : ∀ v, Mm m P v ↔ Sl f N ss s e be L G w a v := fun v => (k1.2 v).trans ⟨fun q => q.1, fun q => ⟨q, by
    obtain ⟨⟨q1, q2, q3⟩, _⟩ := q
    unfold lx
    dsimp only
    omega⟩⟩
  have mn : n = m := (seq_uni hp k1.1 fun v => (hm v).trans (hm2 v).symm).1
  have hsl : ∀ i, i < n → rc3 (p i) ∧ co (p i) w = a := fun i hi => Sl_rc hF ((hm (p i)).mp ⟨i, hi, rfl⟩)
  have n121 := sl_len hw hp hsl
  have fm : fX9_slice (iz (bc : Int)) po sx sy sw FI CO CR SI' SR MO BO PX PY PZ (iz (b : Int)) (iz (w : Int)) (iz a) = (if iz (m : Int) = 0 then (some ((-4), iz (bc : Int), iz (m : Int), sx, sy, sw, FI, CO, CR, SI', SR, MO, BO, px P, py P, pz P)) else (if iz (bc : Int) = 8 then (some ((-3), iz (bc : Int), iz (m : Int), sx, sy, sw, FI, CO, CR, SI', SR, MO, BO, px P, py P, pz P)) else (bd (fX9_made (iz (bc : Int)) (iz (m : Int)) sx sy sw FI CO CR SI' SR MO BO (px P) (py P) (pz P) (iz (m : Int))) (fun v_12 => (some (v_12.1, v_12.2.1, iz (m : Int), v_12.2.2.1, v_12.2.2.2.1, v_12.2.2.2.2.1, v_12.2.2.2.2.2.1, v_12.2.2.2.2.2.2.1, v_12.2.2.2.2.2.2.2.1, v_12.2.2.2.2.2.2.2.2.1, v_12.2.2.2.2.2.2.2.2.2.1, v_12.2.2.2.2.2.2.2.2.2.2.1, v_12.2.2.2.2.2.2.2.2.2.2.2, px P, py P, pz P)))))) := by
    have e1' : LX9_slice_35 FU (iz (b : Int)) (iz (w : Int)) (iz a) (iz (L 0)) (iz (bc : Int)) 0 sx sy sw FI CO CR SI' SR MO BO PX PY PZ = _ := e1
    unfold fX9_slice
    rw [is_i hb hbc, bd_some, if_neg n10, iz_lz (by omega) (by omega), show (0 : Int64) = lz 0 from rfl, show (2 : Int64) = lz 2 from rfl, in_z (by omega) (by omega) (by omega) (by omega) (by omega) (by omega), bd_some, if_pos (show 0 ≤ (w : Int) ∧ (w : Int) ≤ 2 by omega), if_neg n10, l0, bd_some, e1', LX9_slice_35, g0, bd_some, if_pos (by rw [iz_lt (by omega) (by omega) (by omega) (by omega)]; omega)]
  rw [fm]
  by_cases n0 : n = 0
  · left
    refine ⟨n0, ?_⟩
    rw [if_pos (show iz (m : Int) = 0 by rw [← mn, n0]; rfl)]
    exact ⟨_, _, _, _, rfl⟩
  · right
    rw [if_neg (show ¬ iz (m : Int) = 0 by rw [z0, iz_eq (by omega) (by omega) (by omega) (by omega)]; omega)]
    by_cases full : bc = 8
    · left
      refine ⟨by omega, full, ?_⟩
      rw [if_pos (by rw [full]; rfl)]
      exact ⟨_, _, _, _, rfl⟩
    · right
      have b8 : bc < 8 := by omega
      refine ⟨by omega, b8, ?_⟩
      obtain ⟨f', N', cs', c', ss', s', e', bd'', be', L', G', w1, w2, w3, w4, w5, w6, w7, w8, w9, w10, w11, w12, w13, w14, w15, w16, w17, w18, w19, w20, w21, w22, w23, w24, w25, w26, w27, sx', sy', sw', FI', CO', CR', SI'', SR', MO', BO', e1, hG, e2, k1', k2, k3⟩ := mk_both (n := n) (p := p) (by omega) n121 (fun v hv => (Sl_rc hF ((hm v).mp hv)).1) (fun k q hk hq hmem hrow => sl_cap hw hq (fun i hi => Sl_rc hF ((hm _).mp (hmem i hi))) hrow) (m := m) (by omega) k1.1 (fun v => (hm2 v).trans (hm v).symm) b8 fi ss0 bs0 SA SB SC SE BA BB BC BD l1 l2 l3 c1 c2 c3 r1 r2 r3 f1 f2 f3 sx sy sw FI CO CR SI' SR MO BO (iz (m : Int))
      refine ⟨f', N', cs', c', ss', s', e', bd'', be', L', G', w1, w2, w3, w4, w5, w6, w7, w8, w9, w10, w11, w12, w13, w14, w15, w16, w17, w18, w19, w20, w21, w22, w23, w24, w25, w26, w27, sx', sy', sw', FI', CO', CR', SI'', SR', MO', BO', iz (m : Int), px P, py P, pz P, e1, hG, ?_, k1', by rw [k2, mn], k3⟩
      rw [if_neg (ne8 b8), e2, bd_some]
theorem q_slice_C (h : GB f N cs c ss s e bd' be L G) (hR : RefB b f N cs c ss s e be FI CO CR SI' SR BO) (hb : b < bc) (hbc : bc ≤ 8) {w : Nat} (hw : w < 3) {a : Int} (ha : -2147483648 ≤ a ∧ a < 2147483648) {r : SCt} (hr : SwP f N ss s e be L G 1 r) (ps : Int32) (X Y Z : Nat → Int32) (fi ss0 bs0 : Int32) (SA SB SC SE BA BB BC BD : Nat → Int32) (l1 l2 l3 c1 c2 c3 r1 r2 r3 f1 f2 f3 : Int32) (po sx sy sw : Int32) (PX PY PZ : Nat → Int32) : (∃ rr t po' PX' PY' PZ', fX8_slice_Cno ss (nbd f) (iz (bc : Int)) fi ps X Y Z ss0 SA SB SC SE bs0 BA BB BC BD l1 l2 l3 c1 c2 c3 r1 r2 r3 f1 f2 f3 (iz (ss : Int)) (px s) (py s) (pz s) (pe e) (iz ((nbd f : Nat) : Int)) (px bd') (py bd') (pz bd') (pe be) r.fac r.lx r.gx r.ly r.gy r.lz r.gz r.lo r.hi (iz (b : Int)) (iz (w : Int)) (iz a) = some (rr, t) ∧ fX9_slice (iz (bc : Int)) po sx sy sw FI CO CR SI' SR MO BO PX PY PZ (iz (b : Int)) (iz (w : Int)) (iz a) = some (rr, iz (bc : Int), po', sx, sy, sw, FI, CO, CR, SI', SR, MO, BO, PX', PY', PZ')) ∨ (bc < 8 ∧ ∃ (n : Nat) (f' : Nat) (N' : V3) (cs' : Nat) (c' : Nat → V3) (ss' : Nat) (s' : Nat → V3) (e' : Nat → Int) (bd'' : Nat → V3) (be' L' G' : Nat → Int) (w1 w2 : Int32) (w3 w4 w5 : Nat → Int32) (w6 : Int32) (w7 w8 w9 w10 : Nat → Int32) (w11 : Int32) (w12 w13 w14 w15 : Nat → Int32) (w16 w17 w18 w19 w20 w21 w22 w23 w24 w25 w26 w27 : Int32) (sx' sy' sw' : Int32) (FI' CO' CR' SI'' SR' MO' BO' : Nat → Int32) (po' : Int32) (PX' PY' PZ' : Nat → Int32) (lo' hi' : Int32), fX8_slice_Cmk ss (nbd f) (iz (bc : Int)) fi ps X Y Z ss0 SA SB SC SE bs0 BA BB BC BD l1 l2 l3 c1 c2 c3 r1 r2 r3 f1 f2 f3 (iz (ss : Int)) (px s) (py s) (pz s) (pe e) (iz ((nbd f : Nat) : Int)) (px bd') (py bd') (pz bd') (pe be) r.fac r.lx r.gx r.ly r.gy r.lz r.gz r.lo r.hi (iz (b : Int)) (iz (w : Int)) (iz a) = some (iz (bc : Int), iz ((bc + 1 : Nat) : Int), w1, w2, w3, w4, w5, w6, w7, w8, w9, w10, w11, w12, w13, w14, w15, w16, w17, w18, w19, w20, w21, w22, w23, w24, w25, w26, w27, lo', hi', iz (f' : Int), iz (n : Int), iz (cs' : Int), iz (ss' : Int), iz ((nbd f' : Nat) : Int), pe L', pe G', px c', cs', py c', pz c', px s', ss', py s', pz s', pe e', px bd'', nbd f', py bd'', pz bd'', pe be') ∧ GB f' N' cs' c' ss' s' e' bd'' be' L' G' ∧ fX9_slice (iz (bc : Int)) po sx sy sw FI CO CR SI' SR MO BO PX PY PZ (iz (b : Int)) (iz (w : Int)) (iz a) = some (iz (bc : Int), iz ((bc + 1 : Nat) : Int), po', sx', sy', sw', FI', CO', CR', SI'', SR', MO', BO', PX', PY', PZ') ∧ RefB bc f' N' cs' c' ss' s' e' be' FI' CO' CR' SI'' SR' BO' ∧ MO' bc = iz (n : Int) ∧ RFr bc FI CO CR SI' SR MO BO FI' CO' CR' SI'' SR' MO' BO') := by
  have hF := GB_facts h
  obtain ⟨d1, d2, d3', d4, d5, d6, d7, d8, d9⟩ := hr
  have m1 : ∀ x : Int, x * 1 = x := Int.mul_one
  unfold bl at d3' d5 d7
  rw [m1] at d3' d4 d5 d6 d7 d8
  obtain ⟨n, p, lo', hi', q1, q2, q3⟩ := gather_i hF hw ha X Y Z r.lo r.hi
  rw [d2, d3', d4, d5, d6, d7, d8]
  have sc : fX0_swelling_C 1 = some () := by decide
  have wy : fX8_isWay (iz (w : Int)) = some 1 := by rw [way_i (by omega) (by omega), if_pos (by omega)]
  rcases slice_core h hR hb hbc hw ha q2 q3 fi ss0 bs0 SA SB SC SE BA BB BC BD l1 l2 l3 c1 c2 c3 r1 r2 r3 f1 f2 f3 po sx sy sw PX PY PZ with ⟨n0, po', PX', PY', PZ', e1⟩ | ⟨n1, full, po', PX', PY', PZ', e1⟩ | ⟨n1, b8, f', N', cs', c', ss', s', e', bd'', be', L', G', w1, w2, w3, w4, w5, w6, w7, w8, w9, w10, w11, w12, w13, w14, w15, w16, w17, w18, w19, w20, w21, w22, w23, w24, w25, w26, w27, sx', sy', sw', FI', CO', CR', SI'', SR', MO', BO', po', PX', PY', PZ', e1, hG, e2, k1, k2, k3⟩
  · left
    rw [e1]
    unfold fX8_slice_Cno fX3_begin
    rw [find_i hb hbc, bd_some, wy, bd_some, if_neg n10, bd_some, sc, bd_some, q1, bd_some]
    dsimp only
    rw [if_pos (show iz (n : Int) = 0 by rw [n0]; rfl)]
    exact ⟨_, _, _, _, _, _, rfl, rfl⟩
  · left
    have n121 := sl_len hw q2 fun i hi => Sl_rc hF ((q3 (p i)).mp ⟨i, hi, rfl⟩)
    rw [e1]
    unfold fX8_slice_Cno fX3_begin
    rw [find_i hb hbc, bd_some, wy, bd_some, if_neg n10, bd_some, sc, bd_some, q1, bd_some]
    dsimp only
    rw [if_neg (show ¬ iz (n : Int) = 0 by rw [z0, iz_eq (by omega) (by omega) (by omega) (by omega)]; omega)]
    unfold fX8_keepMade_full
    rw [if_neg (show ¬ iz (bc : Int) < 8 by rw [full]; decide), bd_some]
    exact ⟨_, _, _, _, _, _, rfl, rfl⟩
  · right
    have n121 := sl_len hw q2 fun i hi => Sl_rc hF ((q3 (p i)).mp ⟨i, hi, rfl⟩)
    refine ⟨b8, n, f', N', cs', c', ss', s', e', bd'', be', L', G', w1, w2, w3, w4, w5, w6, w7, w8, w9, w10, w11, w12, w13, w14, w15, w16, w17, w18, w19, w20, w21, w22, w23, w24, w25, w26, w27, sx', sy', sw', FI', CO', CR', SI'', SR', MO', BO', po', PX', PY', PZ', lo', hi', ?_, hG, e2, k1, k2, k3⟩
    unfold fX8_slice_Cmk fX3_begin
    rw [find_i hb hbc, bd_some, wy, bd_some, if_neg n10, bd_some, sc, bd_some, q1, bd_some]
    dsimp only
    rw [if_neg (show ¬ iz (n : Int) = 0 by rw [z0, iz_eq (by omega) (by omega) (by omega) (by omega)]; omega), e1, bd_some]
theorem q_slice_W (h : GB f N cs c ss s e bd' be L G) (hR : RefB b f N cs c ss s e be FI CO CR SI' SR BO) (hb : b < bc) (hbc : bc ≤ 8) {w : Nat} (hw : w < 3) {a : Int} (ha : -2147483648 ≤ a ∧ a < 2147483648) (ps : Int32) (X Y Z : Nat → Int32) (fi ss0 bs0 : Int32) (SA SB SC SE BA BB BC BD : Nat → Int32) (l1 l2 l3 c1 c2 c3 r1 r2 r3 f1 f2 f3 : Int32) (po sx sy sw : Int32) (PX PY PZ : Nat → Int32) : (∃ (rr : Int32) (w1 w2 : Int32) (w3 w4 w5 : Nat → Int32) (w6 : Int32) (w7 w8 w9 w10 : Nat → Int32) (w11 : Int32) (w12 w13 w14 w15 : Nat → Int32) (w16 w17 w18 w19 w20 w21 w22 w23 w24 w25 w26 w27 : Int32) (u : Int32 × Int32 × Int32 × Int32 × Int32 × Int32 × Int32 × Int32 × Int32 × (Nat → Int32) × Nat) (lo' hi' : Int32) (po' : Int32) (PX' PY' PZ' : Nat → Int32), SwP f N ss s e be L G 1 (mkS u) ∧ fX8_slice_Wno ss (nbd f) (iz (bc : Int)) fi ps X Y Z ss0 SA SB SC SE bs0 BA BB BC BD l1 l2 l3 c1 c2 c3 r1 r2 r3 f1 f2 f3 (iz (ss : Int)) (px s) (py s) (pz s) (pe e) (iz ((nbd f : Nat) : Int)) (px bd') (py bd') (pz bd') (pe be) (pe L) (pe G) (iz (b : Int)) (iz (w : Int)) (iz a) = some (rr, w1, w2, w3, w4, w5, w6, w7, w8, w9, w10, w11, w12, w13, w14, w15, w16, w17, w18, w19, w20, w21, w22, w23, w24, w25, w26, w27, u.1, u.2.1, u.2.2.1, u.2.2.2.1, u.2.2.2.2.1, u.2.2.2.2.2.1, u.2.2.2.2.2.2.1, lo', hi', u.2.2.2.2.2.2.2.2.2.1, u.2.2.2.2.2.2.2.2.2.2) ∧ fX9_slice (iz (bc : Int)) po sx sy sw FI CO CR SI' SR MO BO PX PY PZ (iz (b : Int)) (iz (w : Int)) (iz a) = some (rr, iz (bc : Int), po', sx, sy, sw, FI, CO, CR, SI', SR, MO, BO, PX', PY', PZ')) ∨ (bc < 8 ∧ ∃ (n : Nat) (f' : Nat) (N' : V3) (cs' : Nat) (c' : Nat → V3) (ss' : Nat) (s' : Nat → V3) (e' : Nat → Int) (bd'' : Nat → V3) (be' L' G' : Nat → Int) (w1 w2 : Int32) (w3 w4 w5 : Nat → Int32) (w6 : Int32) (w7 w8 w9 w10 : Nat → Int32) (w11 : Int32) (w12 w13 w14 w15 : Nat → Int32) (w16 w17 w18 w19 w20 w21 w22 w23 w24 w25 w26 w27 : Int32) (sx' sy' sw' : Int32) (FI' CO' CR' SI'' SR' MO' BO' : Nat → Int32) (po' : Int32) (PX' PY' PZ' : Nat → Int32) (u : Int32 × Int32 × Int32 × Int32 × Int32 × Int32 × Int32 × Int32 × Int32 × (Nat → Int32) × Nat) (lo' hi' : Int32), SwP f N ss s e be L G 1 (mkS u) ∧ fX8_slice_Wmk ss (nbd f) (iz (bc : Int)) fi ps X Y Z ss0 SA SB SC SE bs0 BA BB BC BD l1 l2 l3 c1 c2 c3 r1 r2 r3 f1 f2 f3 (iz (ss : Int)) (px s) (py s) (pz s) (pe e) (iz ((nbd f : Nat) : Int)) (px bd') (py bd') (pz bd') (pe be) (pe L) (pe G) (iz (b : Int)) (iz (w : Int)) (iz a) = some (iz (bc : Int), iz ((bc + 1 : Nat) : Int), w1, w2, w3, w4, w5, w6, w7, w8, w9, w10, w11, w12, w13, w14, w15, w16, w17, w18, w19, w20, w21, w22, w23, w24, w25, w26, w27, iz (f' : Int), iz (n : Int), u.1, u.2.1, u.2.2.1, u.2.2.2.1, u.2.2.2.2.1, u.2.2.2.2.2.1, u.2.2.2.2.2.2.1, lo', hi', iz (cs' : Int), iz (ss' : Int), iz ((nbd f' : Nat) : Int), pe L', pe G', u.2.2.2.2.2.2.2.2.2.1, u.2.2.2.2.2.2.2.2.2.2, px c', cs', py c', pz c', px s', ss', py s', pz s', pe e', px bd'', nbd f', py bd'', pz bd'', pe be') ∧ GB f' N' cs' c' ss' s' e' bd'' be' L' G' ∧ fX9_slice (iz (bc : Int)) po sx sy sw FI CO CR SI' SR MO BO PX PY PZ (iz (b : Int)) (iz (w : Int)) (iz a) = some (iz (bc : Int), iz ((bc + 1 : Nat) : Int), po', sx', sy', sw', FI', CO', CR', SI'', SR', MO', BO', PX', PY', PZ') ∧ RefB bc f' N' cs' c' ss' s' e' be' FI' CO' CR' SI'' SR' BO' ∧ MO' bc = iz (n : Int) ∧ RFr bc FI CO CR SI' SR MO BO FI' CO' CR' SI'' SR' MO' BO') := by
  have hF := GB_facts h
  obtain ⟨u, u1, hu⟩ := swellW_i hF (Q := 1) (by omega)
  have u1' : fX0_swelling_W ss (nbd f) (iz (ss : Int)) (px s) (py s) (pz s) (pe e) (iz ((nbd f : Nat) : Int)) (px bd') (py bd') (pz bd') (pe be) (pe L) (pe G) 1 = some u := u1
  have hu' := hu
  obtain ⟨d1, d2, d3', d4, d5, d6, d7, d8, d9⟩ := hu'
  have m1 : ∀ x : Int, x * 1 = x := Int.mul_one
  unfold bl at d3' d5 d7
  rw [m1] at d3' d4 d5 d6 d7 d8
  obtain ⟨n, p, lo', hi', q1, q2, q3⟩ := gather_i hF hw ha X Y Z u.2.2.2.2.2.2.2.1 u.2.2.2.2.2.2.2.2.1
  have q1' : fX7_gather ss (nbd f) 121 u.1 u.2.1 u.2.2.1 u.2.2.2.1 u.2.2.2.2.1 u.2.2.2.2.2.1 u.2.2.2.2.2.2.1 u.2.2.2.2.2.2.2.1 u.2.2.2.2.2.2.2.2.1 (iz (ss : Int)) (px s) (py s) (pz s) (pe e) (iz ((nbd f : Nat) : Int)) (px bd') (py bd') (pz bd') (pe be) 0 X Y Z (iz (w : Int)) (iz a) = some (lo', hi', iz (n : Int), px p, py p, pz p) := by
    have s2 : u.1 = iz 1 := d2
    have s3 : u.2.1 = iz (L 0) := d3'
    have s4 : u.2.2.1 = iz (G 0) := d4
    have s5 : u.2.2.2.1 = iz (L 1) := d5
    have s6 : u.2.2.2.2.1 = iz (G 1) := d6
    have s7 : u.2.2.2.2.2.1 = iz (L 2) := d7
    have s8 : u.2.2.2.2.2.2.1 = iz (G 2) := d8
    rw [s2, s3, s4, s5, s6, s7, s8]
    exact q1
  have wy : fX8_isWay (iz (w : Int)) = some 1 := by rw [way_i (by omega) (by omega), if_pos (by omega)]
  rcases slice_core h hR hb hbc hw ha q2 q3 fi ss0 bs0 SA SB SC SE BA BB BC BD l1 l2 l3 c1 c2 c3 r1 r2 r3 f1 f2 f3 po sx sy sw PX PY PZ with ⟨n0, po', PX', PY', PZ', e1⟩ | ⟨n1, full, po', PX', PY', PZ', e1⟩ | ⟨n1, b8, f', N', cs', c', ss', s', e', bd'', be', L', G', w1, w2, w3, w4, w5, w6, w7, w8, w9, w10, w11, w12, w13, w14, w15, w16, w17, w18, w19, w20, w21, w22, w23, w24, w25, w26, w27, sx', sy', sw', FI', CO', CR', SI'', SR', MO', BO', po', PX', PY', PZ', e1, hG, e2, k1, k2, k3⟩
  · left
    rw [e1]
    unfold fX8_slice_Wno fX3_begin
    rw [find_i hb hbc, bd_some, wy, bd_some, if_neg n10, bd_some, u1', bd_some, q1', bd_some]
    dsimp only
    rw [if_pos (show iz (n : Int) = 0 by rw [n0]; rfl)]
    refine ⟨-4, _, _, _, _, _, _, _, _, _, _, _, _, _, _, _, _, _, _, _, _, _, _, _, _, _, _, _, u, lo', hi', po', PX', PY', PZ', hu, rfl, rfl⟩
  · left
    have n121 := sl_len hw q2 fun i hi => Sl_rc hF ((q3 (p i)).mp ⟨i, hi, rfl⟩)
    rw [e1]
    unfold fX8_slice_Wno fX3_begin
    rw [find_i hb hbc, bd_some, wy, bd_some, if_neg n10, bd_some, u1', bd_some, q1', bd_some]
    dsimp only
    rw [if_neg (show ¬ iz (n : Int) = 0 by rw [z0, iz_eq (by omega) (by omega) (by omega) (by omega)]; omega)]
    unfold fX8_keepMade_full
    rw [if_neg (show ¬ iz (bc : Int) < 8 by rw [full]; decide), bd_some]
    refine ⟨-3, _, _, _, _, _, _, _, _, _, _, _, _, _, _, _, _, _, _, _, _, _, _, _, _, _, _, _, u, lo', hi', po', PX', PY', PZ', hu, rfl, rfl⟩
  · right
    have n121 := sl_len hw q2 fun i hi => Sl_rc hF ((q3 (p i)).mp ⟨i, hi, rfl⟩)
    refine ⟨b8, n, f', N', cs', c', ss', s', e', bd'', be', L', G', w1, w2, w3, w4, w5, w6, w7, w8, w9, w10, w11, w12, w13, w14, w15, w16, w17, w18, w19, w20, w21, w22, w23, w24, w25, w26, w27, sx', sy', sw', FI', CO', CR', SI'', SR', MO', BO', po', PX', PY', PZ', u, lo', hi', hu, ?_, hG, e2, k1, k2, k3⟩
    unfold fX8_slice_Wmk fX3_begin
    rw [find_i hb hbc, bd_some, wy, bd_some, if_neg n10, bd_some, u1', bd_some, q1', bd_some]
    dsimp only
    rw [if_neg (show ¬ iz (n : Int) = 0 by rw [z0, iz_eq (by omega) (by omega) (by omega) (by omega)]; omega), e1, bd_some]
theorem q_slice_bad (h : GF f N cs c ss s e bd' be L G) (hb : b < bc) (hbc : bc ≤ 8) {w : Int} (w1 : -2147483648 ≤ w) (w2 : w < 2147483648) (hw : ¬ (0 ≤ w ∧ w ≤ 2)) (p3 : Int32) (po sx sy sw : Int32) (PX PY PZ : Nat → Int32) : fX8_slice_B (iz (bc : Int)) (iz (b : Int)) (iz w) p3 = some (-1, ()) ∧ fX9_slice (iz (bc : Int)) po sx sy sw FI CO CR SI' SR MO BO PX PY PZ (iz (b : Int)) (iz w) p3 = some (-1, iz (bc : Int), po, sx, sy, sw, FI, CO, CR, SI', SR, MO, BO, PX, PY, PZ) := by
  unfold fX8_slice_B fX9_slice
  rw [find_i hb hbc, bd_some, way_i w1 w2, bd_some, if_neg hw, if_pos rfl, is_i hb hbc, bd_some, if_neg n10, iz_lz w1 w2, show (0 : Int64) = lz 0 from rfl, show (2 : Int64) = lz 2 from rfl, in_z (by omega) (by omega) (by omega) (by omega) (by omega) (by omega), bd_some, if_neg hw, if_pos rfl]
  exact ⟨rfl, rfl⟩
end
