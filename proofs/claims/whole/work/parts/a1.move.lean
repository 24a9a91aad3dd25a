/-! move alike: the whole of it -/
theorem first_bad {Q : Nat → Prop} {n : Nat} (h : ¬ ∀ i, i < n → Q i) : ∃ j, j < n ∧ ¬ Q j ∧ ∀ i, i < j → Q i := by
  induction n with
  | zero => exact (h fun i hi => by omega).elim
  | succ n ih =>
    by_cases c : ∀ i, i < n → Q i
    · refine ⟨n, by omega, fun q => h fun i hi => ?_, c⟩
      by_cases e : i = n
      · rw [e]; exact q
      · exact c i (by omega)
    · obtain ⟨j, h1, h2, h3⟩ := ih c
      exact ⟨j, by omega, h2, h3⟩
theorem pstep {D : Nat → V3} {i m : Nat} {P : Nat → V3} (hm : m ≤ i) (hi : i < 140) (hP : SS m P) (hmem : ∀ v, Mm m P v ↔ Mm i D v) (hr : ∀ j, j ≤ i → rc3 (D j)) : ∃ (m' : Nat) (P' : Nat → V3), fX9_point (iz (m : Int)) (px P) (py P) (pz P) (iz (D i).1) (iz (D i).2.1) (iz (D i).2.2) = some (iz (m' : Int), px P', py P', pz P') ∧ m' ≤ i + 1 ∧ SS m' P' ∧ ∀ v, Mm m' P' v ↔ Mm (i + 1) D v := by
  have hrP : ∀ a, a < m → rc3 (P a) := fun a ha => by
    obtain ⟨j, hj, ej⟩ := (hmem _).mp ⟨a, ha, rfl⟩
    rw [← ej]
    exact hr j (by omega)
  obtain ⟨m1, P1, e1, l1, s1, k1⟩ := point_i (hr i (Nat.le_refl _)) (n := m) (by omega) hP hrP
  refine ⟨m1, P1, e1, by omega, s1, fun v => ?_⟩
  rw [k1, hmem]
  constructor
  · rintro (⟨j, hj, ej⟩ | ev)
    · exact ⟨j, by omega, ej⟩
    · exact ⟨i, by omega, ev.symm⟩
  · rintro ⟨j, hj, ej⟩
    by_cases c : j = i
    · right; rw [← ej, c]
    · left; exact ⟨j, by omega, ej⟩
theorem Mm_none {D P : Nat → V3} (v : V3) : Mm 0 P v ↔ Mm 0 D v := ⟨fun ⟨i, hi, _⟩ => by omega, fun ⟨i, hi, _⟩ => by omega⟩
theorem SS_none {P : Nat → V3} : SS 0 P := fun a b _ hb => by omega
theorem ix120 (b i : Nat) : 120 * iz (b : Int) + 3 * iz (i : Int) = iz ((120 * b + 3 * i : Nat) : Int) := by rw [y120, ix_m, ix3, ix_a]
theorem lt8 {n : Nat} (h : n < 8) : iz (n : Int) < 8 := by rw [show (8 : Int32) = iz ((8 : Nat) : Int) from rfl, ix_lt (by omega) (by omega)]; exact h
theorem ne8 {n : Nat} (h : n < 8) : ¬ iz (n : Int) = 8 := by rw [show (8 : Int32) = iz 8 from rfl, iz_eq (by omega) (by omega) (by omega) (by omega)]; omega
section
variable {f : Nat} {N : V3} {cs : Nat} {c : Nat → V3} {ss : Nat} {s : Nat → V3} {e : Nat → Int} {bd' : Nat → V3} {be L G : Nat → Int} {b bc : Nat} {FI CO CR SI' SR MO BO : Nat → Int32}
theorem rmv_i (hcs : cs ≤ 40) (hb : b < 8) (r2 : CO b = iz (cs : Int)) (r3 : RC CR b cs c) {v : V3} (hok : ∀ i, i < cs → rc3 (pl1 (c i) v)) (bo sx sy sw : Int32) : ∀ (q fuel i m : Nat) (P : Nat → V3), i + q = cs → q < fuel → m ≤ i → SS m P → (∀ w, Mm m P w ↔ Mm i (fun j => pl1 (c j) v) w) → ∃ (m' : Nat) (P' : Nat → V3) (fu : Nat), m' ≤ cs ∧ SS m' P' ∧ (∀ w, Mm m' P' w ↔ Mm cs (fun j => pl1 (c j) v) w) ∧ LX9_move_42 fuel (iz (b : Int)) (iz v.1) (iz v.2.1) (iz v.2.2) (iz (i : Int)) bo (iz (m : Int)) sx sy sw FI CO CR SI' SR MO BO (px P) (py P) (pz P) = LX9_move_42 (fu + 1) (iz (b : Int)) (iz v.1) (iz v.2.1) (iz v.2.2) (iz (cs : Int)) bo (iz (m' : Int)) sx sy sw FI CO CR SI' SR MO BO (px P') (py P') (pz P') := by
  intro q
  induction q with
  | zero =>
    intro fuel i m P h1 h2 h3 h4 h5
    obtain ⟨fuel, rfl⟩ : ∃ q, fuel = q + 1 := ⟨fuel - 1, by omega⟩
    obtain rfl : i = cs := by omega
    exact ⟨m, P, fuel, h3, h4, h5, rfl⟩
  | succ q ih =>
    intro fuel i m P h1 h2 h3 h4 h5
    obtain ⟨fuel, rfl⟩ : ∃ q, fuel = q + 1 := ⟨fuel - 1, by omega⟩
    obtain ⟨d1, d2, d3'⟩ := r3 i (by omega)
    obtain ⟨m1, P1, e1, l1, s1, k1⟩ := pstep (D := fun j => pl1 (c j) v) h3 (by omega) h4 h5 (fun j hj => hok j (by omega))
    obtain ⟨m', P', fu, g1, g2, g3, g4⟩ := ih fuel (i + 1) m1 P1 (by omega) (by omega) l1 s1 k1
    refine ⟨m', P', fu, g1, g2, g3, ?_⟩
    rw [← g4, LX9_move_42, ix_gd hb (by omega), iz_cn (by omega), r2, if_neg (fun q => by have := (ix_le (by omega) (by omega)).mp q; omega), ix120, ix_s, ix_2, ix_s, ix_gd (by omega) (by omega), ix_gd (by omega) (by omega), ix_gd (by omega) (by omega), iz_cn (by omega), iz_cn (by omega), iz_cn (by omega), d1, d2, d3', iz_add, iz_add, iz_add]
    have e1' : fX9_point (iz (m : Int)) (px P) (py P) (pz P) (iz ((c i).1 + v.1)) (iz ((c i).2.1 + v.2.1)) (iz ((c i).2.2 + v.2.2)) = some (iz (m1 : Int), px P1, py P1, pz P1) := e1
    rw [e1', bd_some]
theorem q_move (h : GB f N cs c ss s e bd' be L G) (hR : RefB b f N cs c ss s e be FI CO CR SI' SR BO) (hb : b < bc) (hbc : bc ≤ 8) (p2 p3 p4 : Int32) (ps : Int32) (X Y Z : Nat → Int32) (fi ss0 bs0 : Int32) (SA SB SC SE BA BB BC BD : Nat → Int32) (l1 l2 l3 c1 c2 c3 r1 r2 r3 f1 f2 f3 : Int32) (po sx sy sw : Int32) (PX PY PZ : Nat → Int32) : (∃ r t, fX8_move_no cs (iz (bc : Int)) fi ps X Y Z ss0 SA SB SC SE bs0 BA BB BC BD l1 l2 l3 c1 c2 c3 r1 r2 r3 f1 f2 f3 (iz (cs : Int)) (px c) (py c) (pz c) (iz (b : Int)) p2 p3 p4 = some (r, t) ∧ fX9_move (iz (bc : Int)) po sx sy sw FI CO CR SI' SR MO BO PX PY PZ (iz (b : Int)) p2 p3 p4 = some (r, iz (bc : Int), po, sx, sy, sw, FI, CO, CR, SI', SR, MO, BO, PX, PY, PZ)) ∨ (bc < 8 ∧ ∃ (n : Nat) (f' : Nat) (N' : V3) (cs' : Nat) (c' : Nat → V3) (ss' : Nat) (s' : Nat → V3) (e' : Nat → Int) (bd'' : Nat → V3) (be' L' G' : Nat → Int) (w1 w2 : Int32) (w3 w4 w5 : Nat → Int32) (w6 : Int32) (w7 w8 w9 w10 : Nat → Int32) (w11 : Int32) (w12 w13 w14 w15 : Nat → Int32) (w16 w17 w18 w19 w20 w21 w22 w23 w24 w25 w26 w27 : Int32) (sx' sy' sw' : Int32) (FI' CO' CR' SI'' SR' MO' BO' : Nat → Int32) (po' : Int32) (PX' PY' PZ' : Nat → Int32), fX8_move_mk cs (iz (bc : Int)) fi ps X Y Z ss0 SA SB SC SE bs0 BA BB BC BD l1 l2 l3 c1 c2 c3 r1 r2 r3 f1 f2 f3 (iz (cs : Int)) (px c) (py c) (pz c) (iz (b : Int)) p2 p3 p4 = some (iz (bc : Int), iz ((bc + 1 : Nat) : Int), w1, w2, w3, w4, w5, w6, w7, w8, w9, w10, w11, w12, w13, w14, w15, w16, w17, w18, w19, w20, w21, w22, w23, w24, w25, w26, w27, iz (f' : Int), iz (n : Int), iz (cs' : Int), iz (ss' : Int), iz ((nbd f' : Nat) : Int), pe L', pe G', px c', cs', py c', pz c', px s', ss', py s', pz s', pe e', px bd'', nbd f', py bd'', pz bd'', pe be') ∧ GB f' N' cs' c' ss' s' e' bd'' be' L' G' ∧ fX9_move (iz (bc : Int)) po sx sy sw FI CO CR SI' SR MO BO PX PY PZ (iz (b : Int)) p2 p3 p4 = some (iz (bc : Int), iz ((bc + 1 : Nat) : Int), po', sx', sy', sw', FI', CO', CR', SI'', SR', MO', BO', PX', PY', PZ') ∧ RefB bc f' N' cs' c' ss' s' e' be' FI' CO' CR' SI'' SR' BO' ∧ MO' bc = iz (n : Int) ∧ RFr bc FI CO CR SI' SR MO BO FI' CO' CR' SI'' SR' MO' BO') := by
  have hF := GB_facts h
  obtain ⟨f3', k1, k40, s80, hs, hN, hbd, hbe, h0, hcr, hLG⟩ := hF
  obtain ⟨g1, g2, g3, g4, g5, g6, g7⟩ := hR
  obtain ⟨x, rfl, x1, x2⟩ := some_iz p2
  obtain ⟨y, rfl, y1', y2'⟩ := some_iz p3
  obtain ⟨z, rfl, z1', z2'⟩ := some_iz p4
  have hv : bdv 2147483648 (x, y, z) := ⟨by dsimp only; omega, by dsimp only; omega, by dsimp only; omega⟩
  obtain ⟨r, q1, q2, q3⟩ := small_i k40 k1 hcr hLG (show b < 8 by omega) g2 g3 hv x2 y2' z2'
  have q1' : fX9_isSmall CO CR (iz (b : Int)) (iz x) (iz y) (iz z) = some r := q1
  have fm : ∀ r', r = r' → fX9_move (iz (bc : Int)) po sx sy sw FI CO CR SI' SR MO BO PX PY PZ (iz (b : Int)) (iz x) (iz y) (iz z) = (if r' = 0 then (some ((-1), iz (bc : Int), po, sx, sy, sw, FI, CO, CR, SI', SR, MO, BO, PX, PY, PZ)) else (if iz (bc : Int) = 8 then (some ((-3), iz (bc : Int), po, sx, sy, sw, FI, CO, CR, SI', SR, MO, BO, PX, PY, PZ)) else (LX9_move_42 FU (iz (b : Int)) (iz x) (iz y) (iz z) 0 (iz (bc : Int)) 0 sx sy sw FI CO CR SI' SR MO BO PX PY PZ))) := fun r' er => by
    unfold fX9_move
    rw [is_i hb hbc, bd_some, if_neg n10, q1', bd_some, er]
  by_cases ok : ∀ i, i < cs → rc3 (pl1 (c i) (x, y, z))
  · have ro := q3.mpr ok
    by_cases full : bc = 8
    · left
      obtain ⟨p', fu, t1, t2⟩ := mv_no k40 hcr hv x2 y2' z2' (iz (bc : Int)) fi ss0 bs0 SA SB SC SE BA BB BC BD l1 l2 l3 c1 c2 c3 r1 r2 r3 f1 f2 f3 (Nat.le_refl cs) ok cs FU 0 (at3 X Y Z) (by omega) (by unfold FU; omega) (fun a ha => by omega)
      rw [px_at, py_at, pz_at] at t2
      rw [fm 1 ro, if_neg n10, if_pos (by rw [full]; rfl)]
      unfold fX8_move_no fX3_begin
      rw [find_i hb hbc, bd_some, bd_some]
      have t2' : LX8_move_no_24 cs (iz (bc : Int)) (iz (cs : Int)) (px c) (py c) (pz c) FU (iz x) (iz y) (iz z) 0 fi 0 X Y Z ss0 SA SB SC SE bs0 BA BB BC BD l1 l2 l3 c1 c2 c3 r1 r2 r3 f1 f2 f3 = _ := t2
      rw [t2', LX8_move_no_24, if_pos ((ix_le (by omega) (by omega)).mpr (Nat.le_refl _))]
      unfold fX8_keepMade_full
      rw [if_neg (show ¬ iz (bc : Int) < 8 by rw [full]; decide), bd_some]
      exact ⟨_, _, rfl, rfl⟩
    · right
      have b8 : bc < 8 := by omega
      refine ⟨b8, ?_⟩
      obtain ⟨p', fu, t1, t2⟩ := mv_mk k40 hcr hv x2 y2' z2' (iz (bc : Int)) fi ss0 bs0 SA SB SC SE BA BB BC BD l1 l2 l3 c1 c2 c3 r1 r2 r3 f1 f2 f3 (Nat.le_refl cs) ok cs FU 0 (at3 X Y Z) (by omega) (by unfold FU; omega) (fun a ha => by omega)
      rw [px_at, py_at, pz_at] at t2
      obtain ⟨m, P, fu2, a1, a2, a3, a4⟩ := rmv_i (FI := FI) (SI' := SI') (SR := SR) (MO := MO) (BO := BO) k40 (show b < 8 by omega) g2 g3 ok (iz (bc : Int)) sx sy sw cs FU 0 0 (at3 PX PY PZ) (by omega) (by unfold FU; omega) (by omega) SS_none (fun v => Mm_none v)
      rw [px_at, py_at, pz_at] at a4
      have hmem : ∀ v, Mm m P v ↔ Mm cs p' v := fun v => by
        rw [a3]
        exact ⟨fun ⟨j, hj, ej⟩ => ⟨j, hj, by rw [t1 j hj]; exact ej⟩, fun ⟨j, hj, ej⟩ => ⟨j, hj, by show pl1 (c j) (x, y, z) = v; rw [← t1 j hj]; exact ej⟩⟩
      obtain ⟨f', N', cs', c', ss', s', e', bd'', be', L', G', w1, w2, w3, w4, w5, w6, w7, w8, w9, w10, w11, w12, w13, w14, w15, w16, w17, w18, w19, w20, w21, w22, w23, w24, w25, w26, w27, sx', sy', sw', FI', CO', CR', SI'', SR', MO', BO', e1, hG, e2, k1', k2, k3⟩ := mk_both k1 (by omega) (fun v ⟨j, hj, ej⟩ => by rw [← ej, t1 j hj]; exact ok j hj) (fun k q hk _ _ _ => by omega) (by omega) a2 hmem b8 fi ss0 bs0 SA SB SC SE BA BB BC BD l1 l2 l3 c1 c2 c3 r1 r2 r3 f1 f2 f3 sx sy sw FI CO CR SI' SR MO BO (iz (cs : Int))
      refine ⟨cs, f', N', cs', c', ss', s', e', bd'', be', L', G', w1, w2, w3, w4, w5, w6, w7, w8, w9, w10, w11, w12, w13, w14, w15, w16, w17, w18, w19, w20, w21, w22, w23, w24, w25, w26, w27, sx', sy', sw', FI', CO', CR', SI'', SR', MO', BO', iz (m : Int), px P, py P, pz P, ?_, hG, ?_, k1', k2, k3⟩
      · unfold fX8_move_mk fX3_begin
        rw [find_i hb hbc, bd_some, bd_some]
        have t2' : LX8_move_mk_24 cs (iz (bc : Int)) (iz (cs : Int)) (px c) (py c) (pz c) FU (iz x) (iz y) (iz z) 0 fi 0 X Y Z ss0 SA SB SC SE bs0 BA BB BC BD l1 l2 l3 c1 c2 c3 r1 r2 r3 f1 f2 f3 = _ := t2
        rw [t2', LX8_move_mk_24, if_pos ((ix_le (by omega) (by omega)).mpr (Nat.le_refl _)), e1, bd_some]
      · have a4' : LX9_move_42 FU (iz (b : Int)) (iz x) (iz y) (iz z) 0 (iz (bc : Int)) 0 sx sy sw FI CO CR SI' SR MO BO PX PY PZ = _ := a4
        rw [fm 1 ro, if_neg n10, if_neg (ne8 b8), a4', LX9_move_42, ix_gd (by omega) (by omega), iz_cn (by omega), g2, if_pos ((ix_le (by omega) (by omega)).mpr (Nat.le_refl _)), e2, bd_some]
  · left
    have r0 : r = 0 := by
      rcases q2 with q | q
      · exact q
      · exact (ok (q3.mp q)).elim
    obtain ⟨j, hj, hbad, hgood⟩ := first_bad ok
    obtain ⟨p', fu, t1, t2⟩ := mv_no k40 hcr hv x2 y2' z2' (iz (bc : Int)) fi ss0 bs0 SA SB SC SE BA BB BC BD l1 l2 l3 c1 c2 c3 r1 r2 r3 f1 f2 f3 (show j ≤ cs by omega) hgood j FU 0 (at3 X Y Z) (by omega) (by unfold FU; omega) (fun a ha => by omega)
    rw [px_at, py_at, pz_at] at t2
    obtain ⟨u1, u2, u3, u4⟩ := mv_step hcr hv hj x2 y2' z2'
    have u1' : (px c j).toInt64 + (iz x).toInt64 = lz (pl1 (c j) (x, y, z)).1 := u1
    have u2' : (py c j).toInt64 + (iz y).toInt64 = lz (pl1 (c j) (x, y, z)).2.1 := u2
    have u3' : (pz c j).toInt64 + (iz z).toInt64 = lz (pl1 (c j) (x, y, z)).2.2 := u3
    rw [fm 0 r0, if_pos rfl]
    unfold fX8_move_no fX3_begin
    rw [find_i hb hbc, bd_some, bd_some]
    have t2' : LX8_move_no_24 cs (iz (bc : Int)) (iz (cs : Int)) (px c) (py c) (pz c) FU (iz x) (iz y) (iz z) 0 fi 0 X Y Z ss0 SA SB SC SE bs0 BA BB BC BD l1 l2 l3 c1 c2 c3 r1 r2 r3 f1 f2 f3 = _ := t2
    rw [t2', LX8_move_no_24, if_neg (fun q => by have := (ix_le (by omega) (by omega)).mp q; omega), ix_gd (by omega) (by omega), iz_cn (by omega)]
    unfold cut
    dsimp only
    rw [u1', u2', u3', tir_no (n := j) p' hbad u4, bd_some, if_pos rfl]
    exact ⟨_, _, rfl, rfl⟩
end
