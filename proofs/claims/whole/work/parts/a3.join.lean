/-! join alike -/
def jn (cs : Nat) (c cq : Nat → V3) (i : Nat) : V3 := if i < cs then c i else cq (i - cs)
section
variable {f : Nat} {N : V3} {cs : Nat} {c : Nat → V3} {ss : Nat} {s : Nat → V3} {e : Nat → Int} {bd' : Nat → V3} {be L G : Nat → Int} {b bc : Nat} {FI CO CR SI' SR MO BO : Nat → Int32}
variable {fq : Nat} {Nq : V3} {csq : Nat} {cq : Nat → V3} {ssq : Nat} {sq : Nat → V3} {eq' : Nat → Int} {bdq : Nat → V3} {beq Lq Gq : Nat → Int} {b2 : Nat}
theorem rjn_i (hb : b < 8) (hb2 : b2 < 8) (hcs : cs + csq ≤ 40) (r2 : CO b = iz (cs : Int)) (r3 : RC CR b cs c) (r2q : CO b2 = iz (csq : Int)) (r3q : RC CR b2 csq cq) (hc : ∀ i, i < cs → rc3 (c i)) (hcq : ∀ i, i < csq → rc3 (cq i)) (bo sx sy sw : Int32) : ∀ (q fuel i m : Nat) (P : Nat → V3), i + q = cs + csq → q < fuel → m ≤ i → SS m P → (∀ w, Mm m P w ↔ Mm i (jn cs c cq) w) → ∃ (m' : Nat) (P' : Nat → V3) (fu : Nat), m' ≤ cs + csq ∧ SS m' P' ∧ (∀ w, Mm m' P' w ↔ Mm (cs + csq) (jn cs c cq) w) ∧ LX9_join_55 fuel (iz (b : Int)) (iz (b2 : Int)) (iz (i : Int)) bo (iz (m : Int)) sx sy sw FI CO CR SI' SR MO BO (px P) (py P) (pz P) = LX9_join_55 (fu + 1) (iz (b : Int)) (iz (b2 : Int)) (iz ((cs + csq : Nat) : Int)) bo (iz (m' : Int)) sx sy sw FI CO CR SI' SR MO BO (px P') (py P') (pz P') := by
  intro q
  induction q with
  | zero =>
    intro fuel i m P h1 h2 h3 h4 h5
    obtain ⟨fuel, rfl⟩ : ∃ q, fuel = q + 1 := ⟨fuel - 1, by omega⟩
    obtain rfl : i = cs + csq := by omega
    exact ⟨m, P, fuel, h3, h4, h5, rfl⟩
  | succ q ih =>
    intro fuel i m P h1 h2 h3 h4 h5
    obtain ⟨fuel, rfl⟩ : ∃ q, fuel = q + 1 := ⟨fuel - 1, by omega⟩
    obtain ⟨m1, P1, e1, l1, s1, k1⟩ := pstep (D := jn cs c cq) h3 (by omega) h4 h5 (fun a ha => by
      unfold jn
      by_cases ca : a < cs
      · rw [if_pos ca]; exact hc a ca
      · rw [if_neg ca]; exact hcq _ (by omega))
    obtain ⟨m', P', fu, g1, g2, g3, g4⟩ := ih fuel (i + 1) m1 P1 (by omega) (by omega) l1 s1 k1
    refine ⟨m', P', fu, g1, g2, g3, ?_⟩
    rw [← g4, LX9_join_55, ix_gd hb (by omega), ix_gd hb2 (by omega), iz_cn (by omega), iz_cn (by omega), r2, r2q, ix_a, if_neg (fun q => by have := (ix_le (by omega) (by omega)).mp q; omega)]
    unfold JX9_join_108
    unfold jn at e1
    by_cases ci : i < cs
    · obtain ⟨d1, d2, d3'⟩ := r3 i ci
      rw [if_pos ci] at e1
      rw [if_neg (fun q => by have := (ix_le (by omega) (by omega)).mp q; omega), ix120, ix_s, ix_2, ix_gd (by omega) (by omega), ix_gd (by omega) (by omega), ix_gd (by omega) (by omega), iz_cn (by omega), iz_cn (by omega), iz_cn (by omega), d1, d2, d3', e1, bd_some, ix_s]
    · obtain ⟨d1, d2, d3'⟩ := r3q (i - cs) (by omega)
      rw [if_neg ci] at e1
      have es : iz (i : Int) - iz (cs : Int) = iz ((i - cs : Nat) : Int) := by rw [iz_sub]; congr 1; omega
      rw [if_pos ((ix_le (by omega) (by omega)).mpr (by omega)), es, ix120, ix_s, ix_2, ix_gd (by omega) (by omega), ix_gd (by omega) (by omega), ix_gd (by omega) (by omega), iz_cn (by omega), iz_cn (by omega), iz_cn (by omega), d1, d2, d3', e1, bd_some, ix_s]
theorem q_join_d (h : GB f N cs c ss s e bd' be L G) (hq : GB fq Nq csq cq ssq sq eq' bdq beq Lq Gq) (hR : RefB b f N cs c ss s e be FI CO CR SI' SR BO) (hRq : RefB b2 fq Nq csq cq ssq sq eq' beq FI CO CR SI' SR BO) (hb : b < bc) (hb2 : b2 < bc) (hbc : bc ≤ 8) (ps : Int32) (X Y Z : Nat → Int32) (fi ss0 bs0 : Int32) (SA SB SC SE BA BB BC BD : Nat → Int32) (l1 l2 l3 c1 c2 c3 r1 r2 r3 f1 f2 f3 : Int32) (po sx sy sw : Int32) (PX PY PZ : Nat → Int32) : (∃ r t, fX8_join_dno cs csq (iz (bc : Int)) fi ps X Y Z ss0 SA SB SC SE bs0 BA BB BC BD l1 l2 l3 c1 c2 c3 r1 r2 r3 f1 f2 f3 (iz (cs : Int)) (px c) (py c) (pz c) (iz (csq : Int)) (px cq) (py cq) (pz cq) (iz (b : Int)) (iz (b2 : Int)) = some (r, t) ∧ fX9_join (iz (bc : Int)) po sx sy sw FI CO CR SI' SR MO BO PX PY PZ (iz (b : Int)) (iz (b2 : Int)) = some (r, iz (bc : Int), po, sx, sy, sw, FI, CO, CR, SI', SR, MO, BO, PX, PY, PZ)) ∨ (bc < 8 ∧ ∃ (n : Nat) (f' : Nat) (N' : V3) (cs' : Nat) (c' : Nat → V3) (ss' : Nat) (s' : Nat → V3) (e' : Nat → Int) (bd'' : Nat → V3) (be' L' G' : Nat → Int) (w1 w2 : Int32) (w3 w4 w5 : Nat → Int32) (w6 : Int32) (w7 w8 w9 w10 : Nat → Int32) (w11 : Int32) (w12 w13 w14 w15 : Nat → Int32) (w16 w17 w18 w19 w20 w21 w22 w23 w24 w25 w26 w27 : Int32) (sx' sy' sw' : Int32) (FI' CO' CR' SI'' SR' MO' BO' : Nat → Int32) (po' : Int32) (PX' PY' PZ' : Nat → Int32), fX8_join_dmk cs csq (iz (bc : Int)) fi ps X Y Z ss0 SA SB SC SE bs0 BA BB BC BD l1 l2 l3 c1 c2 c3 r1 r2 r3 f1 f2 f3 (iz (cs : Int)) (px c) (py c) (pz c) (iz (csq : Int)) (px cq) (py cq) (pz cq) (iz (b : Int)) (iz (b2 : Int)) = some (iz (bc : Int), iz ((bc + 1 : Nat) : Int), w1, w2, w3, w4, w5, w6, w7, w8, w9, w10, w11, w12, w13, w14, w15, w16, w17, w18, w19, w20, w21, w22, w23, w24, w25, w26, w27, iz (f' : Int), iz (n : Int), iz (cs' : Int), iz (ss' : Int), iz ((nbd f' : Nat) : Int), pe L', pe G', px c', cs', py c', pz c', px s', ss', py s', pz s', pe e', px bd'', nbd f', py bd'', pz bd'', pe be') ∧ GB f' N' cs' c' ss' s' e' bd'' be' L' G' ∧ fX9_join (iz (bc : Int)) po sx sy sw FI CO CR SI' SR MO BO PX PY PZ (iz (b : Int)) (iz (b2 : Int)) = some (iz (bc : Int), iz ((bc + 1 : Nat) : Int), po', sx', sy', sw', FI', CO', CR', SI'', SR', MO', BO', PX', PY', PZ') ∧ RefB bc f' N' cs' c' ss' s' e' be' FI' CO' CR' SI'' SR' BO' ∧ MO' bc = iz (n : Int) ∧ RFr bc FI CO CR SI' SR MO BO FI' CO' CR' SI'' SR' MO' BO') := by
  obtain ⟨_, k1, k40, _, _, _, _, _, _, hcr, _⟩ := GB_facts h
  obtain ⟨_, k1q, k40q, _, _, _, _, _, _, hcrq, _⟩ := GB_facts hq
  obtain ⟨g1, g2, g3, g4, g5, g6, g7⟩ := hR
  obtain ⟨g1q, g2q, g3q, g4q, g5q, g6q, g7q⟩ := hRq
  have b8' : b < 8 := by omega
  have b8q : b2 < 8 := by omega
  have z40 : (40 : Int32) = iz ((40 : Nat) : Int) := rfl
  have fm : fX9_join (iz (bc : Int)) po sx sy sw FI CO CR SI' SR MO BO PX PY PZ (iz (b : Int)) (iz (b2 : Int)) = (if iz (bc : Int) = 8 then (some ((-3), iz (bc : Int), po, sx, sy, sw, FI, CO, CR, SI', SR, MO, BO, PX, PY, PZ)) else (if iz ((cs + csq : Nat) : Int) ≤ 40 then (LX9_join_55 FU (iz (b : Int)) (iz (b2 : Int)) 0 (iz (bc : Int)) 0 sx sy sw FI CO CR SI' SR MO BO PX PY PZ) else (some ((-3), iz (bc : Int), po, sx, sy, sw, FI, CO, CR, SI', SR, MO, BO, PX, PY, PZ)))) := by
    unfold fX9_join
    rw [is_i hb hbc, bd_some, if_neg n10, is_i hb2 hbc, bd_some, if_neg n10, ix_gd b8' (by omega), ix_gd b8q (by omega), iz_cn (by omega), iz_cn (by omega), g2, g2q, ix_a]
  rw [fm]
  by_cases c40 : cs + csq ≤ 40
  · have l40 : iz ((cs + csq : Nat) : Int) ≤ 40 := by rw [z40]; exact (ix_le (by omega) (by omega)).mpr c40
    obtain ⟨p1, t1, _, t3⟩ := takeAll_i (n2 := cs) (m := cs) (k := 0) (q := c) (p := at3 X Y Z) (Nat.le_refl _) (by omega) (by omega)
    rw [px_at, py_at, pz_at, Nat.zero_add] at t1
    have t1' : fX3_takeAll cs 0 X Y Z (iz (cs : Int)) (px c) (py c) (pz c) = _ := t1
    obtain ⟨p2, u1, u2, u3⟩ := takeAll_i (n2 := csq) (m := csq) (k := cs) (q := cq) (p := p1) (Nat.le_refl _) (by omega) (by omega)
    have hp : ∀ j, j < cs + csq → p2 j = jn cs c cq j := fun j hj => by
      unfold jn
      by_cases cj : j < cs
      · rw [if_pos cj, u2 j cj]
        have := t3 j cj
        rw [Nat.zero_add] at this
        exact this
      · rw [if_neg cj]
        have := u3 (j - cs) (by omega)
        rw [show cs + (j - cs) = j by omega] at this
        exact this
    by_cases full : bc = 8
    · left
      rw [if_pos (by rw [full]; rfl)]
      unfold fX8_join_dno fX3_begin
      rw [find_i hb hbc, bd_some, find_i hb2 hbc, bd_some, ix_a, if_pos l40, bd_some, t1', bd_some]
      dsimp only
      rw [u1, bd_some]
      unfold fX8_keepMade_full
      rw [if_neg (show ¬ iz (bc : Int) < 8 by rw [full]; decide), bd_some]
      exact ⟨_, _, rfl, rfl⟩
    · right
      have b8 : bc < 8 := by omega
      refine ⟨b8, ?_⟩
      obtain ⟨m, P, fu2, a1, a2, a3, a4⟩ := rjn_i (FI := FI) (SI' := SI') (SR := SR) (MO := MO) (BO := BO) b8' b8q c40 g2 g3 g2q g3q hcr hcrq (iz (bc : Int)) sx sy sw (cs + csq) FU 0 0 (at3 PX PY PZ) (by omega) (by unfold FU; omega) (by omega) SS_none (fun v => Mm_none v)
      rw [px_at, py_at, pz_at] at a4
      have a4' : LX9_join_55 FU (iz (b : Int)) (iz (b2 : Int)) 0 (iz (bc : Int)) 0 sx sy sw FI CO CR SI' SR MO BO PX PY PZ = _ := a4
      have hmem : ∀ v, Mm m P v ↔ Mm (cs + csq) p2 v := fun v => by
        rw [a3]
        exact ⟨fun ⟨j, hj, ej⟩ => ⟨j, hj, by rw [hp j hj]; exact ej⟩, fun ⟨j, hj, ej⟩ => ⟨j, hj, by rw [← hp j hj]; exact ej⟩⟩
      obtain ⟨f', N', cs', c', ss', s', e', bd'', be', L', G', w1, w2, w3, w4, w5, w6, w7, w8, w9, w10, w11, w12, w13, w14, w15, w16, w17, w18, w19, w20, w21, w22, w23, w24, w25, w26, w27, sx', sy', sw', FI', CO', CR', SI'', SR', MO', BO', e1, hG, e2, k1', k2, k3⟩ := mk_both (n := cs + csq) (by omega) (by omega) (fun v ⟨j, hj, ej⟩ => by
        rw [← ej, hp j hj]
        unfold jn
        by_cases cj : j < cs
        · rw [if_pos cj]; exact hcr j cj
        · rw [if_neg cj]; exact hcrq _ (by omega)) (fun k q hk _ _ _ => by omega) (by omega) a2 hmem b8 fi ss0 bs0 SA SB SC SE BA BB BC BD l1 l2 l3 c1 c2 c3 r1 r2 r3 f1 f2 f3 sx sy sw FI CO CR SI' SR MO BO (iz ((cs + csq : Nat) : Int))
      refine ⟨cs + csq, f', N', cs', c', ss', s', e', bd'', be', L', G', w1, w2, w3, w4, w5, w6, w7, w8, w9, w10, w11, w12, w13, w14, w15, w16, w17, w18, w19, w20, w21, w22, w23, w24, w25, w26, w27, sx', sy', sw', FI', CO', CR', SI'', SR', MO', BO', iz (m : Int), px P, py P, pz P, ?_, hG, ?_, k1', k2, k3⟩
      · unfold fX8_join_dmk fX3_begin
        rw [find_i hb hbc, bd_some, find_i hb2 hbc, bd_some, ix_a, if_pos l40, bd_some, t1', bd_some]
        dsimp only
        rw [u1, bd_some]
        dsimp only
        rw [e1, bd_some]
      · rw [if_neg (ne8 b8), if_pos l40, a4', LX9_join_55, ix_gd b8' (by omega), ix_gd b8q (by omega), iz_cn (by omega), iz_cn (by omega), g2, g2q, ix_a, if_pos ((ix_le (by omega) (by omega)).mpr (Nat.le_refl _)), e2, bd_some]
  · left
    have l40 : ¬ iz ((cs + csq : Nat) : Int) ≤ 40 := by rw [z40]; exact fun q => c40 ((ix_le (by omega) (by omega)).mp q)
    rw [if_neg l40, ite_self]
    unfold fX8_join_dno
    rw [find_i hb hbc, bd_some, find_i hb2 hbc, bd_some, ix_a, if_neg l40]
    exact ⟨_, _, rfl, rfl⟩
theorem q_join_s (h : GB f N cs c ss s e bd' be L G) (hR : RefB b f N cs c ss s e be FI CO CR SI' SR BO) (hb : b < bc) (hbc : bc ≤ 8) (ps : Int32) (X Y Z : Nat → Int32) (fi ss0 bs0 : Int32) (SA SB SC SE BA BB BC BD : Nat → Int32) (l1 l2 l3 c1 c2 c3 r1 r2 r3 f1 f2 f3 : Int32) (po sx sy sw : Int32) (PX PY PZ : Nat → Int32) : (∃ r t, fX8_join_sno cs (iz (bc : Int)) fi ps X Y Z ss0 SA SB SC SE bs0 BA BB BC BD l1 l2 l3 c1 c2 c3 r1 r2 r3 f1 f2 f3 (iz (cs : Int)) (px c) (py c) (pz c) (iz (b : Int)) (iz (b : Int)) = some (r, t) ∧ fX9_join (iz (bc : Int)) po sx sy sw FI CO CR SI' SR MO BO PX PY PZ (iz (b : Int)) (iz (b : Int)) = some (r, iz (bc : Int), po, sx, sy, sw, FI, CO, CR, SI', SR, MO, BO, PX, PY, PZ)) ∨ (bc < 8 ∧ ∃ (n : Nat) (f' : Nat) (N' : V3) (cs' : Nat) (c' : Nat → V3) (ss' : Nat) (s' : Nat → V3) (e' : Nat → Int) (bd'' : Nat → V3) (be' L' G' : Nat → Int) (w1 w2 : Int32) (w3 w4 w5 : Nat → Int32) (w6 : Int32) (w7 w8 w9 w10 : Nat → Int32) (w11 : Int32) (w12 w13 w14 w15 : Nat → Int32) (w16 w17 w18 w19 w20 w21 w22 w23 w24 w25 w26 w27 : Int32) (sx' sy' sw' : Int32) (FI' CO' CR' SI'' SR' MO' BO' : Nat → Int32) (po' : Int32) (PX' PY' PZ' : Nat → Int32), fX8_join_smk cs (iz (bc : Int)) fi ps X Y Z ss0 SA SB SC SE bs0 BA BB BC BD l1 l2 l3 c1 c2 c3 r1 r2 r3 f1 f2 f3 (iz (cs : Int)) (px c) (py c) (pz c) (iz (b : Int)) (iz (b : Int)) = some (iz (bc : Int), iz ((bc + 1 : Nat) : Int), w1, w2, w3, w4, w5, w6, w7, w8, w9, w10, w11, w12, w13, w14, w15, w16, w17, w18, w19, w20, w21, w22, w23, w24, w25, w26, w27, iz (f' : Int), iz (n : Int), iz (cs' : Int), iz (ss' : Int), iz ((nbd f' : Nat) : Int), pe L', pe G', px c', cs', py c', pz c', px s', ss', py s', pz s', pe e', px bd'', nbd f', py bd'', pz bd'', pe be') ∧ GB f' N' cs' c' ss' s' e' bd'' be' L' G' ∧ fX9_join (iz (bc : Int)) po sx sy sw FI CO CR SI' SR MO BO PX PY PZ (iz (b : Int)) (iz (b : Int)) = some (iz (bc : Int), iz ((bc + 1 : Nat) : Int), po', sx', sy', sw', FI', CO', CR', SI'', SR', MO', BO', PX', PY', PZ') ∧ RefB bc f' N' cs' c' ss' s' e' be' FI' CO' CR' SI'' SR' BO' ∧ MO' bc = iz (n : Int) ∧ RFr bc FI CO CR SI' SR MO BO FI' CO' CR' SI'' SR' MO' BO') := by
  have hq := h
  have hRq := hR
  have hb2 := hb
  obtain ⟨_, k1, k40, _, _, _, _, _, _, hcr, _⟩ := GB_facts h
  obtain ⟨_, k1q, k40q, _, _, _, _, _, _, hcrq, _⟩ := GB_facts hq
  obtain ⟨g1, g2, g3, g4, g5, g6, g7⟩ := hR
  obtain ⟨g1q, g2q, g3q, g4q, g5q, g6q, g7q⟩ := hRq
  have b8' : b < 8 := by omega
  have b8q : b < 8 := by omega
  have z40 : (40 : Int32) = iz ((40 : Nat) : Int) := rfl
  have fm : fX9_join (iz (bc : Int)) po sx sy sw FI CO CR SI' SR MO BO PX PY PZ (iz (b : Int)) (iz (b : Int)) = (if iz (bc : Int) = 8 then (some ((-3), iz (bc : Int), po, sx, sy, sw, FI, CO, CR, SI', SR, MO, BO, PX, PY, PZ)) else (if iz ((cs + cs : Nat) : Int) ≤ 40 then (LX9_join_55 FU (iz (b : Int)) (iz (b : Int)) 0 (iz (bc : Int)) 0 sx sy sw FI CO CR SI' SR MO BO PX PY PZ) else (some ((-3), iz (bc : Int), po, sx, sy, sw, FI, CO, CR, SI', SR, MO, BO, PX, PY, PZ)))) := by
    unfold fX9_join
    rw [is_i hb hbc, bd_some, if_neg n10, bd_some, if_neg n10, ix_gd b8' (by omega), ix_gd b8q (by omega), iz_cn (by omega), g2, ix_a]
  rw [fm]
  by_cases c40 : cs + cs ≤ 40
  · have l40 : iz ((cs + cs : Nat) : Int) ≤ 40 := by rw [z40]; exact (ix_le (by omega) (by omega)).mpr c40
    obtain ⟨p1, t1, _, t3⟩ := takeAll_i (n2 := cs) (m := cs) (k := 0) (q := c) (p := at3 X Y Z) (Nat.le_refl _) (by omega) (by omega)
    rw [px_at, py_at, pz_at, Nat.zero_add] at t1
    have t1' : fX3_takeAll cs 0 X Y Z (iz (cs : Int)) (px c) (py c) (pz c) = _ := t1
    obtain ⟨p2, u1, u2, u3⟩ := takeAll_i (n2 := cs) (m := cs) (k := cs) (q := c) (p := p1) (Nat.le_refl _) (by omega) (by omega)
    have hp : ∀ j, j < cs + cs → p2 j = jn cs c c j := fun j hj => by
      unfold jn
      by_cases cj : j < cs
      · rw [if_pos cj, u2 j cj]
        have := t3 j cj
        rw [Nat.zero_add] at this
        exact this
      · rw [if_neg cj]
        have := u3 (j - cs) (by omega)
        rw [show cs + (j - cs) = j by omega] at this
        exact this
    by_cases full : bc = 8
    · left
      rw [if_pos (by rw [full]; rfl)]
      unfold fX8_join_sno fX3_begin
      rw [find_i hb hbc, bd_some, bd_some, ix_a, if_pos l40, bd_some, t1', bd_some]
      dsimp only
      rw [u1, bd_some]
      unfold fX8_keepMade_full
      rw [if_neg (show ¬ iz (bc : Int) < 8 by rw [full]; decide), bd_some]
      exact ⟨_, _, rfl, rfl⟩
    · right
      have b8 : bc < 8 := by omega
      refine ⟨b8, ?_⟩
      obtain ⟨m, P, fu2, a1, a2, a3, a4⟩ := rjn_i (FI := FI) (SI' := SI') (SR := SR) (MO := MO) (BO := BO) b8' b8q c40 g2 g3 g2q g3q hcr hcrq (iz (bc : Int)) sx sy sw (cs + cs) FU 0 0 (at3 PX PY PZ) (by omega) (by unfold FU; omega) (by omega) SS_none (fun v => Mm_none v)
      rw [px_at, py_at, pz_at] at a4
      have a4' : LX9_join_55 FU (iz (b : Int)) (iz (b : Int)) 0 (iz (bc : Int)) 0 sx sy sw FI CO CR SI' SR MO BO PX PY PZ = _ := a4
      have hmem : ∀ v, Mm m P v ↔ Mm (cs + cs) p2 v := fun v => by
        rw [a3]
        exact ⟨fun ⟨j, hj, ej⟩ => ⟨j, hj, by rw [hp j hj]; exact ej⟩, fun ⟨j, hj, ej⟩ => ⟨j, hj, by rw [← hp j hj]; exact ej⟩⟩
      obtain ⟨f', N', cs', c', ss', s', e', bd'', be', L', G', w1, w2, w3, w4, w5, w6, w7, w8, w9, w10, w11, w12, w13, w14, w15, w16, w17, w18, w19, w20, w21, w22, w23, w24, w25, w26, w27, sx', sy', sw', FI', CO', CR', SI'', SR', MO', BO', e1, hG, e2, k1', k2, k3⟩ := mk_both (n := cs + cs) (by omega) (by omega) (fun v ⟨j, hj, ej⟩ => by
        rw [← ej, hp j hj]
        unfold jn
        by_cases cj : j < cs
        · rw [if_pos cj]; exact hcr j cj
        · rw [if_neg cj]; exact hcrq _ (by omega)) (fun k q hk _ _ _ => by omega) (by omega) a2 hmem b8 fi ss0 bs0 SA SB SC SE BA BB BC BD l1 l2 l3 c1 c2 c3 r1 r2 r3 f1 f2 f3 sx sy sw FI CO CR SI' SR MO BO (iz ((cs + cs : Nat) : Int))
      refine ⟨cs + cs, f', N', cs', c', ss', s', e', bd'', be', L', G', w1, w2, w3, w4, w5, w6, w7, w8, w9, w10, w11, w12, w13, w14, w15, w16, w17, w18, w19, w20, w21, w22, w23, w24, w25, w26, w27, sx', sy', sw', FI', CO', CR', SI'', SR', MO', BO', iz (m : Int), px P, py P, pz P, ?_, hG, ?_, k1', k2, k3⟩
      · unfold fX8_join_smk fX3_begin
        rw [find_i hb hbc, bd_some, bd_some, ix_a, if_pos l40, bd_some, t1', bd_some]
        dsimp only
        rw [u1, bd_some]
        dsimp only
        rw [e1, bd_some]
      · rw [if_neg (ne8 b8), if_pos l40, a4', LX9_join_55, ix_gd b8' (by omega), ix_gd b8q (by omega), iz_cn (by omega), g2, ix_a, if_pos ((ix_le (by omega) (by omega)).mpr (Nat.le_refl _)), e2, bd_some]
  · left
    have l40 : ¬ iz ((cs + cs : Nat) : Int) ≤ 40 := by rw [z40]; exact fun q => c40 ((ix_le (by omega) (by omega)).mp q)
    rw [if_neg l40, ite_self]
    unfold fX8_join_sno
    rw [find_i hb hbc, bd_some, bd_some, ix_a, if_neg l40]
    exact ⟨_, _, rfl, rfl⟩
end
