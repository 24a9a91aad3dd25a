/-! taking points and making a body of them -/
theorem put121 {n : Nat} (hn : n < 121) (p : Nat → V3) (v : V3) : fX4_put 121 (iz (n : Int)) (px p) (py p) (pz p) (iz v.1) (iz v.2.1) (iz v.2.2) = some (iz ((n + 1 : Nat) : Int), px (ud p n v), py (ud p n v), pz (ud p n v)) := by
  unfold fX4_put
  rw [iz_nI, if_neg (fun q => by have := (ix_le (by omega) (by omega)).mp q; omega), ix_gd (by omega) (by omega), iz_cn (by omega), ix_s, upd_px, upd_py, upd_pz]
theorem takeAll_i {n2 m k : Nat} {q p : Nat → V3} (hm : m ≤ n2) (h2 : n2 < 1000) (hk : k + m ≤ 121) : ∃ p', fX3_takeAll n2 (iz (k : Int)) (px p) (py p) (pz p) (iz (m : Int)) (px q) (py q) (pz q) = some (iz ((k + m : Nat) : Int), px p', py p', pz p') ∧ (∀ j, j < k → p' j = p j) ∧ ∀ j, j < m → p' (k + j) = q j := by
  have loop : ∀ (d fuel i : Nat) (p : Nat → V3), i + d = m → d < fuel → ∃ p', LX3_takeAll_2 n2 (iz (m : Int)) (px q) (py q) (pz q) fuel (iz (i : Int)) (iz ((k + i : Nat) : Int)) (px p) (py p) (pz p) = some (iz ((k + m : Nat) : Int), px p', py p', pz p') ∧ (∀ j, j < k + i → p' j = p j) ∧ ∀ j, i ≤ j → j < m → p' (k + j) = q j := by
    intro d
    induction d with
    | zero =>
      intro fuel i p h1 h3
      obtain ⟨fuel, rfl⟩ : ∃ q, fuel = q + 1 := ⟨fuel - 1, by omega⟩
      refine ⟨p, ?_, fun _ _ => rfl, fun j _ _ => by omega⟩
      rw [LX3_takeAll_2, if_pos ((ix_le (by omega) (by omega)).mpr (by omega)), show i = m by omega]
    | succ d ih =>
      intro fuel i p h1 h3
      obtain ⟨fuel, rfl⟩ : ∃ q, fuel = q + 1 := ⟨fuel - 1, by omega⟩
      obtain ⟨p', q1, q2, q3⟩ := ih fuel (i + 1) (ud p (k + i) (q i)) (by omega) (by omega)
      refine ⟨p', ?_, fun j hj => ?_, fun j h4 h5 => ?_⟩
      · rw [LX3_takeAll_2, if_neg (fun q => by have := (ix_le (by omega) (by omega)).mp q; omega), ix_gd (by omega) (by omega), iz_cn (by omega), px_i, py_i, pz_i, put121 (by omega), bd_some, ix_s]
        exact q1
      · rw [q2 j (by omega)]
        unfold ud
        rw [if_neg (by omega)]
      · by_cases c : j = i
        · rw [c, q2 (k + i) (by omega)]
          unfold ud
          rw [if_pos rfl]
        · exact q3 j (by omega) h5
  obtain ⟨p', q1, q2, q3⟩ := loop m FU 0 p (by omega) (by unfold FU; omega)
  exact ⟨p', q1, q2, fun j hj => q3 j (by omega) hj⟩
/-- what the reference keeps of the other bodies -/
def RFr (b : Nat) (FI CO CR SI SR MO BO FI' CO' CR' SI' SR' MO' BO' : Nat → Int32) : Prop := (∀ x, x ≠ b → FI' x = FI x ∧ CO' x = CO x ∧ SI' x = SI x ∧ MO' x = MO x) ∧ (∀ x, (x < 120 * b ∨ 120 * b + 120 ≤ x) → CR' x = CR x) ∧ (∀ x, (x < 360 * b ∨ 360 * b + 360 ≤ x) → SR' x = SR x) ∧ (∀ x, (x < 4 * b ∨ 4 * b + 4 ≤ x) → BO' x = BO x)
theorem mk_both {n : Nat} {p : Nat → V3} (hn : 1 ≤ n) (hn2 : n ≤ 121) (hr : ∀ v, Mm n p v → rc3 v) (hcap : ∀ k q, k ≤ n → SS k q → (∀ a, a < k → Mm n p (q a)) → (∀ a, a + 2 < k → ¬ row3 (q a) (q (a + 1)) (q (a + 2))) → k ≤ 40) {m : Nat} {P : Nat → V3} (hm : m ≤ 140) (hP : SS m P) (hmem : ∀ v, Mm m P v ↔ Mm n p v) {bc : Nat} (hbc : bc < 8) (fi ss0 bs0 : Int32) (SA SB SC SE BA BB BC BD : Nat → Int32) (l1 l2 l3 c1 c2 c3 r1 r2 r3 f1 f2 f3 : Int32) (sx sy sw : Int32) (FI CO CR SI SR MO BO : Nat → Int32) (many : Int32) : ∃ (f : Nat) (N : V3) (cs : Nat) (c : Nat → V3) (ss : Nat) (s : Nat → V3) (e : Nat → Int) (bd' : Nat → V3) (be L G : Nat → Int) (w1 w2 : Int32) (w3 w4 w5 : Nat → Int32) (w6 : Int32) (w7 w8 w9 w10 : Nat → Int32) (w11 : Int32) (w12 w13 w14 w15 : Nat → Int32) (w16 w17 w18 w19 w20 w21 w22 w23 w24 w25 w26 w27 : Int32) (sx' sy' sw' : Int32) (FI' CO' CR' SI' SR' MO' BO' : Nat → Int32), fX8_keepMade_mk (iz (bc : Int)) fi (iz (n : Int)) (px p) (py p) (pz p) ss0 SA SB SC SE bs0 BA BB BC BD l1 l2 l3 c1 c2 c3 r1 r2 r3 f1 f2 f3 = some (iz (bc : Int), iz ((bc + 1 : Nat) : Int), w1, w2, w3, w4, w5, w6, w7, w8, w9, w10, w11, w12, w13, w14, w15, w16, w17, w18, w19, w20, w21, w22, w23, w24, w25, w26, w27, iz (f : Int), iz (n : Int), iz (cs : Int), iz (ss : Int), iz ((nbd f : Nat) : Int), pe L, pe G, px c, cs, py c, pz c, px s, ss, py s, pz s, pe e, px bd', nbd f, py bd', pz bd', pe be) ∧ GB f N cs c ss s e bd' be L G ∧ fX9_made (iz (bc : Int)) (iz (m : Int)) sx sy sw FI CO CR SI SR MO BO (px P) (py P) (pz P) many = some (iz (bc : Int), iz ((bc + 1 : Nat) : Int), sx', sy', sw', FI', CO', CR', SI', SR', MO', BO') ∧ RefB bc f N cs c ss s e be FI' CO' CR' SI' SR' BO' ∧ MO' bc = many ∧ RFr bc FI CO CR SI SR MO BO FI' CO' CR' SI' SR' MO' BO' := by
  obtain ⟨f, N, cs, c, ss, s, e, bd', be, L, G, w1, w2, w3, w4, w5, w6, w7, w8, w9, w10, w11, w12, w13, w14, w15, w16, w17, w18, w19, w20, w21, w22, w23, w24, w25, w26, w27, e1, hB⟩ := make_i hn hn2 hr hcap fi ss0 bs0 SA SB SC SE BA BB BC BD l1 l2 l3 c1 c2 c3 r1 r2 r3 f1 f2 f3
  have hm1 : 1 ≤ m := by
    obtain ⟨i, hi, _⟩ := (hmem (p 0)).mpr ⟨0, by omega, rfl⟩
    omega
  obtain ⟨sx', sy', sw', FI', CO', CR', SI', SR', MO', BO', e2, k1, k2, k3, k4, k5, k6⟩ := made_same hB hmem hm hm1 (fun i hi => hr _ ((hmem _).mp ⟨i, hi, rfl⟩)) hP hbc sx sy sw FI CO CR SI SR MO BO many
  refine ⟨f, N, cs, c, ss, s, e, bd', be, L, G, w1, w2, w3, w4, w5, w6, w7, w8, w9, w10, w11, w12, w13, w14, w15, w16, w17, w18, w19, w20, w21, w22, w23, w24, w25, w26, w27, sx', sy', sw', FI', CO', CR', SI', SR', MO', BO', ?_, ⟨n, p, hn, hr, hB⟩, e2, k1, k2, k3, k4, k5, k6⟩
  unfold fX8_keepMade_mk
  rw [if_pos (show iz (bc : Int) < 8 by rw [show (8 : Int32) = iz ((8 : Nat) : Int) from rfl, ix_lt (by omega) (by omega)]; exact hbc), e1, bd_some, ix_gd (by omega) (by omega), ix_s, ix_p]
/-- the reference takes the draft -/
theorem rtake_i {d : Nat} (hd : d ≤ 12) {D : Nat → V3} (hr : ∀ i, i < d → rc3 (D i)) {DR : Nat → Int32} (hD : ∀ i, i < d → DR (3 * i) = iz (D i).1 ∧ DR (3 * i + 1) = iz (D i).2.1 ∧ DR (3 * i + 2) = iz (D i).2.2) (bo sx sy sw : Int32) (FI CO CR SI SR MO BO : Nat → Int32) : ∀ (q fuel i m : Nat) (P : Nat → V3), i + q = d → q < fuel → m ≤ i → SS m P → (∀ v, Mm m P v ↔ Mm i D v) → ∃ (m' : Nat) (P' : Nat → V3) (fu : Nat), m' ≤ d ∧ SS m' P' ∧ (∀ v, Mm m' P' v ↔ Mm d D v) ∧ LX9_body_29 DR fuel (iz (i : Int)) (iz (d : Int)) bo (iz (m : Int)) sx sy sw FI CO CR SI SR MO BO (px P) (py P) (pz P) = LX9_body_29 DR (fu + 1) (iz (d : Int)) (iz (d : Int)) bo (iz (m' : Int)) sx sy sw FI CO CR SI SR MO BO (px P') (py P') (pz P') := by
  intro q
  induction q with
  | zero =>
    intro fuel i m P h1 h2 h3 h4 h5
    obtain ⟨fuel, rfl⟩ : ∃ q, fuel = q + 1 := ⟨fuel - 1, by omega⟩
    obtain rfl : i = d := by omega
    exact ⟨m, P, fuel, h3, h4, h5, rfl⟩
  | succ q ih =>
    intro fuel i m P h1 h2 h3 h4 h5
    obtain ⟨fuel, rfl⟩ : ∃ q, fuel = q + 1 := ⟨fuel - 1, by omega⟩
    obtain ⟨d1, d2, d3'⟩ := hD i (by omega)
    have hrP : ∀ a, a < m → rc3 (P a) := fun a ha => by
      obtain ⟨j, hj, ej⟩ := (h5 _).mp ⟨a, ha, rfl⟩
      rw [← ej]
      exact hr j (by omega)
    obtain ⟨m1, P1, e1, l1, s1, k1⟩ := point_i (hr i (by omega)) (n := m) (by omega) h4 hrP
    obtain ⟨m', P', fu, g1, g2, g3, g4⟩ := ih fuel (i + 1) m1 P1 (by omega) (by omega) (by omega) s1 (fun v => by
      rw [k1, h5]
      constructor
      · rintro (⟨j, hj, ej⟩ | ev)
        · exact ⟨j, by omega, ej⟩
        · exact ⟨i, by omega, ev.symm⟩
      · rintro ⟨j, hj, ej⟩
        by_cases c : j = i
        · right; rw [← ej, c]
        · left; exact ⟨j, by omega, ej⟩)
    refine ⟨m', P', fu, g1, g2, g3, ?_⟩
    rw [← g4, LX9_body_29, if_neg (fun q => by have := (ix_le (by omega) (by omega)).mp q; omega), ix3, ix_s, ix_2, ix_s, ix_gd (by omega) (by omega), ix_gd (by omega) (by omega), ix_gd (by omega) (by omega), iz_cn (by omega), iz_cn (by omega), iz_cn (by omega), d1, d2, d3', e1, bd_some]
theorem q_body {d : Nat} (hd : 1 ≤ d) (hd2 : d ≤ 12) {DX DY DZ DR : Nat → Int32} (hD : DRel (iz (d : Int)) DX DY DZ DR) {bc : Nat} (hbc : bc < 8) (ps : Int32) (X Y Z : Nat → Int32) (fi ss0 bs0 : Int32) (SA SB SC SE BA BB BC BD : Nat → Int32) (l1 l2 l3 c1 c2 c3 r1 r2 r3 f1 f2 f3 : Int32) (po sx sy sw : Int32) (FI CO CR SI SR MO BO PX PY PZ : Nat → Int32) : ∃ (n : Nat) (f : Nat) (N : V3) (cs : Nat) (c : Nat → V3) (ss : Nat) (s : Nat → V3) (e : Nat → Int) (bd' : Nat → V3) (be L G : Nat → Int) (w1 w2 : Int32) (w3 w4 w5 : Nat → Int32) (w6 : Int32) (w7 w8 w9 w10 : Nat → Int32) (w11 : Int32) (w12 w13 w14 w15 : Nat → Int32) (w16 w17 w18 w19 w20 w21 w22 w23 w24 w25 w26 w27 : Int32) (sx' sy' sw' : Int32) (FI' CO' CR' SI' SR' MO' BO' : Nat → Int32) (po' : Int32) (PX' PY' PZ' : Nat → Int32), fX8_body_mk (iz (bc : Int)) (iz (d : Int)) DX DY DZ fi ps X Y Z ss0 SA SB SC SE bs0 BA BB BC BD l1 l2 l3 c1 c2 c3 r1 r2 r3 f1 f2 f3 = some (iz (bc : Int), iz ((bc + 1 : Nat) : Int), 0, w1, w2, w3, w4, w5, w6, w7, w8, w9, w10, w11, w12, w13, w14, w15, w16, w17, w18, w19, w20, w21, w22, w23, w24, w25, w26, w27, iz (f : Int), iz (n : Int), iz (cs : Int), iz (ss : Int), iz ((nbd f : Nat) : Int), pe L, pe G, px c, cs, py c, pz c, px s, ss, py s, pz s, pe e, px bd', nbd f, py bd', pz bd', pe be) ∧ GB f N cs c ss s e bd' be L G ∧ fX9_body (iz (d : Int)) (iz (bc : Int)) po sx sy sw DR FI CO CR SI SR MO BO PX PY PZ = some (iz (bc : Int), 0, iz ((bc + 1 : Nat) : Int), po', sx', sy', sw', FI', CO', CR', SI', SR', MO', BO', PX', PY', PZ') ∧ RefB bc f N cs c ss s e be FI' CO' CR' SI' SR' BO' ∧ MO' bc = iz (n : Int) ∧ RFr bc FI CO CR SI SR MO BO FI' CO' CR' SI' SR' MO' BO' := by
  rw [DRel_i hd2] at hD
  have hr : ∀ i, i < d → rc3 (at3 DX DY DZ i) := fun i hi => (hD i hi).2
  obtain ⟨m, P, fu, g1, g2, g3, g4⟩ := rtake_i hd2 hr (DR := DR) (fun i hi => by
    obtain ⟨⟨a1, a2, a3⟩, _⟩ := hD i hi
    unfold at3
    dsimp only
    rw [iz_t, iz_t, iz_t]
    exact ⟨a1, a2, a3⟩) (iz (bc : Int)) sx sy sw FI CO CR SI SR MO BO d FU 0 0 (at3 PX PY PZ) (by omega) (by unfold FU; omega) (by omega) (fun a b _ hb => by omega) (fun v => ⟨fun ⟨i, hi, _⟩ => by omega, fun ⟨i, hi, _⟩ => by omega⟩)
  obtain ⟨p, t1, _, t3⟩ := takeAll_i (n2 := 12) (m := d) (k := 0) (q := at3 DX DY DZ) (p := at3 X Y Z) hd2 (by omega) (by omega)
  rw [px_at, py_at, pz_at, px_at, py_at, pz_at, Nat.zero_add] at t1
  rw [px_at, py_at, pz_at] at g4
  have hmem : ∀ v, Mm m P v ↔ Mm d p v := fun v => by
    rw [g3]
    constructor
    · rintro ⟨j, hj, ej⟩
      exact ⟨j, hj, by have := t3 j hj; rw [Nat.zero_add] at this; rw [this]; exact ej⟩
    · rintro ⟨j, hj, ej⟩
      exact ⟨j, hj, by have := t3 j hj; rw [Nat.zero_add] at this; rw [← this]; exact ej⟩
  obtain ⟨f, N, cs, c, ss, s, e, bd', be, L, G, w1, w2, w3, w4, w5, w6, w7, w8, w9, w10, w11, w12, w13, w14, w15, w16, w17, w18, w19, w20, w21, w22, w23, w24, w25, w26, w27, sx', sy', sw', FI', CO', CR', SI', SR', MO', BO', e1, hG, e2, k1, k2, k3⟩ := mk_both hd (by omega) (fun v ⟨j, hj, ej⟩ => by rw [← ej]; have := t3 j hj; rw [Nat.zero_add] at this; rw [this]; exact hr j hj) (fun k q hk _ _ _ => by omega) (by omega) g2 hmem hbc fi ss0 bs0 SA SB SC SE BA BB BC BD l1 l2 l3 c1 c2 c3 r1 r2 r3 f1 f2 f3 sx sy sw FI CO CR SI SR MO BO (iz (d : Int))
  refine ⟨d, f, N, cs, c, ss, s, e, bd', be, L, G, w1, w2, w3, w4, w5, w6, w7, w8, w9, w10, w11, w12, w13, w14, w15, w16, w17, w18, w19, w20, w21, w22, w23, w24, w25, w26, w27, sx', sy', sw', FI', CO', CR', SI', SR', MO', BO', iz (m : Int), px P, py P, pz P, ?_, hG, ?_, k1, k2, k3⟩
  · unfold fX8_body_mk fX3_begin
    rw [if_neg (show ¬ iz (d : Int) = 0 by rw [z0, iz_eq (by omega) (by omega) (by omega) (by omega)]; omega), if_pos (show iz (bc : Int) < 8 by rw [show (8 : Int32) = iz ((8 : Nat) : Int) from rfl, ix_lt (by omega) (by omega)]; exact hbc), bd_some, y0, t1, bd_some]
    dsimp only
    rw [e1, bd_some]
  · unfold fX9_body
    rw [if_neg (show ¬ iz (d : Int) = 0 by rw [z0, iz_eq (by omega) (by omega) (by omega) (by omega)]; omega), if_neg (show ¬ iz (bc : Int) = 8 by rw [show (8 : Int32) = iz 8 from rfl, iz_eq (by omega) (by omega) (by omega) (by omega)]; omega), y0, g4, LX9_body_29, if_pos ((ix_le (by omega) (by omega)).mpr (by omega)), e2, bd_some]
    rfl
