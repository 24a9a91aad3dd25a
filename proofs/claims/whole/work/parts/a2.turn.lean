/-! turn alike -/
def tn (k : Nat) (v : V3) : V3 := if k = 0 then (v.2.1, v.1, v.2.2) else if k = 1 then (v.1, v.2.2, v.2.1) else if k = 2 then (- v.1, v.2.1, v.2.2) else if k = 3 then (v.1 + v.2.1, v.2.1, v.2.2) else (v.1, v.2.1, v.2.2 - v.1)
theorem tn_bd {k : Nat} {v : V3} (hv : rc3 v) : rch (tn k v).2.1 ∧ bdv 10 (tn k v) := by
  obtain ⟨⟨a1, a2⟩, ⟨b1, b2⟩, c1, c2⟩ := hv
  unfold tn
  split
  · exact ⟨⟨a1, a2⟩, by dsimp only; omega, by dsimp only; omega, by dsimp only; omega⟩
  · split
    · exact ⟨⟨c1, c2⟩, by dsimp only; omega, by dsimp only; omega, by dsimp only; omega⟩
    · split
      · exact ⟨⟨b1, b2⟩, by dsimp only; omega, by dsimp only; omega, by dsimp only; omega⟩
      · split
        · exact ⟨⟨b1, b2⟩, by dsimp only; omega, by dsimp only; omega, by dsimp only; omega⟩
        · exact ⟨⟨b1, b2⟩, by dsimp only; omega, by dsimp only; omega, by dsimp only; omega⟩
theorem bd_eta5 {α β γ δ ε : Type} (o : Option (α × β × γ × δ × ε)) : bd o (fun v => some (v.1, v.2.1, v.2.2.1, v.2.2.2.1, v.2.2.2.2)) = o := by cases o <;> rfl
theorem tt_i (ps : Int32) (X Y Z : Nat → Int32) {v : V3} (hv : rc3 v) {k : Nat} (hk : k ≤ 4) : fX8_takeTurned ps X Y Z (iz v.1) (iz v.2.1) (iz v.2.2) (iz (k : Int)) = fX8_takeInReach ps X Y Z (lz (tn k v).1) (lz (tn k v).2.1) (lz (tn k v).2.2) := by
  obtain ⟨⟨a1, a2⟩, ⟨b1, b2⟩, d1, d2⟩ := hv
  unfold fX8_takeTurned
  simp only [bd_eta5]
  rw [iz_neg, iz_add, iz_sub, iz_lz (a := v.1) (by omega) (by omega), iz_lz (a := v.2.1) (by omega) (by omega), iz_lz (a := v.2.2) (by omega) (by omega), iz_lz (by omega) (by omega), iz_lz (by omega) (by omega), iz_lz (by omega) (by omega)]
  rcases (show k = 0 ∨ k = 1 ∨ k = 2 ∨ k = 3 ∨ k = 4 by omega) with rfl | rfl | rfl | rfl | rfl
  · rw [if_pos (by decide)]; rfl
  · rw [if_neg (by decide), if_pos (by decide)]; rfl
  · rw [if_neg (by decide), if_neg (by decide), if_pos (by decide)]; rfl
  · rw [if_neg (by decide), if_neg (by decide), if_neg (by decide), if_pos (by decide)]; rfl
  · rw [if_neg (by decide), if_neg (by decide), if_neg (by decide), if_neg (by decide), if_pos (by decide)]; rfl
section
variable (K : Int32 → Int32 → Int32 → Int32 → Int32 → Int32 → Int32 → Int32 → Int32 → (Nat → Int32) → (Nat → Int32) → (Nat → Int32) → (Nat → Int32) → (Nat → Int32) → (Nat → Int32) → (Nat → Int32) → (Nat → Int32) → (Nat → Int32) → (Nat → Int32) → Option (Int32 × Int32 × Int32 × Int32 × Int32 × Int32 × (Nat → Int32) × (Nat → Int32) × (Nat → Int32) × (Nat → Int32) × (Nat → Int32) × (Nat → Int32) × (Nat → Int32) × (Nat → Int32) × (Nat → Int32) × (Nat → Int32))) (a1 a2 a4 mbo mpo msx msy msw : Int32) (mFI mCO mCR mSI mSR mMO mBO mPX mPY mPZ : Nat → Int32)
theorem rl_lz {x : Int} (h : -100 ≤ x ∧ x ≤ 100) : rl ((iz x).toInt64) ↔ rch x := by
  rw [iz_lz (by omega) (by omega)]
  unfold rl rch
  rw [lz_i (by omega) (by omega)]
theorem j170_ok {t : V3} (ht : rc3 t) : JX9_turn_170 K a1 a2 1 a4 (iz t.1) (iz t.2.1) (iz t.2.2) mbo mpo msx msy msw mFI mCO mCR mSI mSR mMO mBO mPX mPY mPZ = JX9_turn_211 K a1 a2 a4 (iz t.1) (iz t.2.1) (iz t.2.2) 1 mbo mpo msx msy msw mFI mCO mCR mSI mSR mMO mBO mPX mPY mPZ := by
  obtain ⟨h1, h2, h3⟩ := ht
  unfold JX9_turn_170
  rw [if_neg n10, rin, bd_some, if_pos ((rl_lz (by unfold rch at h1; omega)).mpr h1), if_neg n10, rin, bd_some, if_pos ((rl_lz (by unfold rch at h3; omega)).mpr h3), if_neg n10]
theorem j170_no {t : V3} {a3 : Int32} (ht : a3 = 0 ∨ (a3 = 1 ∧ ¬ rc3 t)) (h2 : rch t.2.1) (hb : bdv 10 t) : JX9_turn_170 K a1 a2 a3 a4 (iz t.1) (iz t.2.1) (iz t.2.2) mbo mpo msx msy msw mFI mCO mCR mSI mSR mMO mBO mPX mPY mPZ = JX9_turn_211 K a1 a2 a4 (iz t.1) (iz t.2.1) (iz t.2.2) 0 mbo mpo msx msy msw mFI mCO mCR mSI mSR mMO mBO mPX mPY mPZ := by
  obtain ⟨q1, q2, q3⟩ := hb
  unfold JX9_turn_170
  rcases ht with e | ⟨e, ht⟩
  · rw [if_pos e]; rfl
  · rw [e, if_neg n10, rin, bd_some]
    by_cases h1 : rch t.1
    · have h3 : ¬ rch t.2.2 := fun h3 => ht ⟨h1, h2, h3⟩
      rw [if_pos ((rl_lz (by omega)).mpr h1), if_neg n10, rin, bd_some, if_neg (fun q => h3 ((rl_lz (by omega)).mp q)), if_pos rfl]; rfl
    · rw [if_neg (fun q => h1 ((rl_lz (by omega)).mp q)), if_pos rfl]; rfl
theorem j120 {v : V3} (a3 : Int32) {k : Nat} (hk : k ≤ 4) : (if iz (k : Int) = 0 then (JX9_turn_120 K a1 (iz (k : Int)) a3 a4 (iz v.1) (iz v.2.1) (iz v.2.2) (iz v.2.1) mbo mpo msx msy msw mFI mCO mCR mSI mSR mMO mBO mPX mPY mPZ) else (if iz (k : Int) = 2 then (JX9_turn_120 K a1 (iz (k : Int)) a3 a4 (iz v.1) (iz v.2.1) (iz v.2.2) (-iz v.1) mbo mpo msx msy msw mFI mCO mCR mSI mSR mMO mBO mPX mPY mPZ) else (if iz (k : Int) = 3 then (JX9_turn_120 K a1 (iz (k : Int)) a3 a4 (iz v.1) (iz v.2.1) (iz v.2.2) (iz v.1 + iz v.2.1) mbo mpo msx msy msw mFI mCO mCR mSI mSR mMO mBO mPX mPY mPZ) else (JX9_turn_120 K a1 (iz (k : Int)) a3 a4 (iz v.1) (iz v.2.1) (iz v.2.2) (iz v.1) mbo mpo msx msy msw mFI mCO mCR mSI mSR mMO mBO mPX mPY mPZ)))) = JX9_turn_170 K a1 (iz (k : Int)) a3 a4 (iz (tn k v).1) (iz (tn k v).2.1) (iz (tn k v).2.2) mbo mpo msx msy msw mFI mCO mCR mSI mSR mMO mBO mPX mPY mPZ := by
  unfold JX9_turn_120 JX9_turn_143
  rw [iz_neg, iz_add, iz_sub]
  rcases (show k = 0 ∨ k = 1 ∨ k = 2 ∨ k = 3 ∨ k = 4 by omega) with rfl | rfl | rfl | rfl | rfl
  · rw [if_pos (by decide), if_pos (by decide), if_neg (by decide), if_neg (by decide)]; rfl
  · rw [if_neg (by decide), if_neg (by decide), if_neg (by decide), if_neg (by decide), if_pos (by decide), if_pos (by decide)]; rfl
  · rw [if_neg (by decide), if_pos (by decide), if_neg (by decide), if_neg (by decide), if_neg (by decide), if_neg (by decide)]; rfl
  · rw [if_neg (by decide), if_neg (by decide), if_pos (by decide), if_neg (by decide), if_neg (by decide), if_neg (by decide), if_neg (by decide)]; rfl
  · rw [if_neg (by decide), if_neg (by decide), if_neg (by decide), if_neg (by decide), if_neg (by decide), if_neg (by decide), if_pos (by decide)]; rfl
end
section
variable {f : Nat} {N : V3} {cs : Nat} {c : Nat → V3} {ss : Nat} {s : Nat → V3} {e : Nat → Int} {bd' : Nat → V3} {be L G : Nat → Int} {b bc : Nat} {FI CO CR SI' SR MO BO : Nat → Int32}
theorem tu_no (hcs : cs ≤ 40) (hc : ∀ i, i < cs → rc3 (c i)) {k : Nat} (hk : k ≤ 4) (bc_ : Int32) (fi ss0 bs0 : Int32) (SA SB SC SE BA BB BC BD : Nat → Int32) (l1 l2 l3 c1 c2 c3 r1 r2 r3 f1 f2 f3 : Int32) {j : Nat} (hj : j ≤ cs) (hok : ∀ i, i < j → rc3 (tn k (c i))) : ∀ (q fuel i : Nat) (p : Nat → V3), i + q = j → q < fuel → (∀ a, a < i → p a = tn k (c a)) → ∃ (p' : Nat → V3) (fu : Nat), (∀ a, a < j → p' a = tn k (c a)) ∧ LX8_turn_no_31 cs bc_ (iz (cs : Int)) (px c) (py c) (pz c) fuel (iz (k : Int)) (iz (i : Int)) fi (iz (i : Int)) (px p) (py p) (pz p) ss0 SA SB SC SE bs0 BA BB BC BD l1 l2 l3 c1 c2 c3 r1 r2 r3 f1 f2 f3 = LX8_turn_no_31 cs bc_ (iz (cs : Int)) (px c) (py c) (pz c) (fu + 1) (iz (k : Int)) (iz (j : Int)) fi (iz (j : Int)) (px p') (py p') (pz p') ss0 SA SB SC SE bs0 BA BB BC BD l1 l2 l3 c1 c2 c3 r1 r2 r3 f1 f2 f3 := by
  intro q
  induction q with
  | zero =>
    intro fuel i p k1 k2 k3
    obtain ⟨fuel, rfl⟩ : ∃ q, fuel = q + 1 := ⟨fuel - 1, by omega⟩
    obtain rfl : i = j := by omega
    exact ⟨p, fuel, k3, rfl⟩
  | succ q ih =>
    intro fuel i p k1 k2 k3
    obtain ⟨fuel, rfl⟩ : ∃ q, fuel = q + 1 := ⟨fuel - 1, by omega⟩
    obtain ⟨p', fu, g1, g2⟩ := ih fuel (i + 1) (ud p i (tn k (c i))) (by omega) (by omega) (fun a ha => by
      unfold ud
      by_cases ca : a = i
      · rw [if_pos ca, ca]
      · rw [if_neg ca]; exact k3 a (by omega))
    refine ⟨p', fu, g1, ?_⟩
    rw [← g2, LX8_turn_no_31, if_neg (fun q => by have := (ix_le (by omega) (by omega)).mp q; omega), ix_gd (by omega) (by omega), iz_cn (by omega), px_i, py_i, pz_i, tt_i _ _ _ _ (hc i (by omega)) hk, tir_ok (n := i) (by omega) p (hok i (by omega)), bd_some, if_neg n10, ix_s]
theorem tu_mk (hcs : cs ≤ 40) (hc : ∀ i, i < cs → rc3 (c i)) {k : Nat} (hk : k ≤ 4) (bc_ : Int32) (fi ss0 bs0 : Int32) (SA SB SC SE BA BB BC BD : Nat → Int32) (l1 l2 l3 c1 c2 c3 r1 r2 r3 f1 f2 f3 : Int32) {j : Nat} (hj : j ≤ cs) (hok : ∀ i, i < j → rc3 (tn k (c i))) : ∀ (q fuel i : Nat) (p : Nat → V3), i + q = j → q < fuel → (∀ a, a < i → p a = tn k (c a)) → ∃ (p' : Nat → V3) (fu : Nat), (∀ a, a < j → p' a = tn k (c a)) ∧ LX8_turn_mk_31 cs bc_ (iz (cs : Int)) (px c) (py c) (pz c) fuel (iz (k : Int)) (iz (i : Int)) fi (iz (i : Int)) (px p) (py p) (pz p) ss0 SA SB SC SE bs0 BA BB BC BD l1 l2 l3 c1 c2 c3 r1 r2 r3 f1 f2 f3 = LX8_turn_mk_31 cs bc_ (iz (cs : Int)) (px c) (py c) (pz c) (fu + 1) (iz (k : Int)) (iz (j : Int)) fi (iz (j : Int)) (px p') (py p') (pz p') ss0 SA SB SC SE bs0 BA BB BC BD l1 l2 l3 c1 c2 c3 r1 r2 r3 f1 f2 f3 := by
  intro q
  induction q with
  | zero =>
    intro fuel i p k1 k2 k3
    obtain ⟨fuel, rfl⟩ : ∃ q, fuel = q + 1 := ⟨fuel - 1, by omega⟩
    obtain rfl : i = j := by omega
    exact ⟨p, fuel, k3, rfl⟩
  | succ q ih =>
    intro fuel i p k1 k2 k3
    obtain ⟨fuel, rfl⟩ : ∃ q, fuel = q + 1 := ⟨fuel - 1, by omega⟩
    obtain ⟨p', fu, g1, g2⟩ := ih fuel (i + 1) (ud p i (tn k (c i))) (by omega) (by omega) (fun a ha => by
      unfold ud
      by_cases ca : a = i
      · rw [if_pos ca, ca]
      · rw [if_neg ca]; exact k3 a (by omega))
    refine ⟨p', fu, g1, ?_⟩
    rw [← g2, LX8_turn_mk_31, if_neg (fun q => by have := (ix_le (by omega) (by omega)).mp q; omega), ix_gd (by omega) (by omega), iz_cn (by omega), px_i, py_i, pz_i, tt_i _ _ _ _ (hc i (by omega)) hk, tir_ok (n := i) (by omega) p (hok i (by omega)), bd_some, if_neg n10, ix_s]
theorem rtu_step (hb : b < 8) (hcs : cs ≤ 40) (r2 : CO b = iz (cs : Int)) (r3 : RC CR b cs c) {k : Nat} (hk : k ≤ 4) {i : Nat} (hi : i < cs) (fu : Nat) (a3 bo po sx sy sw : Int32) (PX PY PZ : Nat → Int32) : LX9_turn_32 (fu + 1) (iz (b : Int)) (iz (k : Int)) a3 (iz (i : Int)) bo po sx sy sw FI CO CR SI' SR MO BO PX PY PZ = JX9_turn_170 (LX9_turn_32 fu) (iz (b : Int)) (iz (k : Int)) a3 (iz (i : Int)) (iz (tn k (c i)).1) (iz (tn k (c i)).2.1) (iz (tn k (c i)).2.2) bo po sx sy sw FI CO CR SI' SR MO BO PX PY PZ := by
  obtain ⟨d1, d2, d3'⟩ := r3 i hi
  rw [← j120 _ _ _ _ _ _ _ _ _ _ _ _ _ _ _ _ _ _ _ hk, LX9_turn_32, ix_gd hb (by omega), iz_cn (by omega), r2, if_neg (fun q => by have := (ix_le (by omega) (by omega)).mp q; omega), ix120, ix_s, ix_2]
  unfold cut
  rw [ix_gd (by omega) (by omega)]
  dsimp only
  rw [ix_gd (by omega) (by omega), ix_gd (by omega) (by omega), iz_cn (by omega), iz_cn (by omega), iz_cn (by omega), d1, d2, d3']
theorem rtu_bad (hb : b < 8) (hcs : cs ≤ 40) (r2 : CO b = iz (cs : Int)) (r3 : RC CR b cs c) (hc : ∀ i, i < cs → rc3 (c i)) {k : Nat} (hk : k ≤ 4) (bo sx sy sw : Int32) : ∀ (q fuel i m : Nat) (PX PY PZ : Nat → Int32), i + q = cs → q < fuel → m ≤ i → ∃ (po' : Int32) (PX' PY' PZ' : Nat → Int32), LX9_turn_32 fuel (iz (b : Int)) (iz (k : Int)) 0 (iz (i : Int)) bo (iz (m : Int)) sx sy sw FI CO CR SI' SR MO BO PX PY PZ = some (-1, bo, po', sx, sy, sw, FI, CO, CR, SI', SR, MO, BO, PX', PY', PZ') := by
  intro q
  induction q with
  | zero =>
    intro fuel i m PX PY PZ h1 h2 h3
    obtain ⟨fuel, rfl⟩ : ∃ q, fuel = q + 1 := ⟨fuel - 1, by omega⟩
    rw [LX9_turn_32, ix_gd hb (by omega), iz_cn (by omega), r2, if_pos ((ix_le (by omega) (by omega)).mpr (by omega)), if_pos rfl]
    exact ⟨_, _, _, _, rfl⟩
  | succ q ih =>
    intro fuel i m PX PY PZ h1 h2 h3
    obtain ⟨fuel, rfl⟩ : ∃ q, fuel = q + 1 := ⟨fuel - 1, by omega⟩
    obtain ⟨t1, t2⟩ := tn_bd (k := k) (hc i (by omega))
    obtain ⟨n', X', Y', Z', u1, u2⟩ := pt_any (n := m) (by omega) PX PY PZ (iz (tn k (c i)).1) (iz (tn k (c i)).2.1) (iz (tn k (c i)).2.2)
    rw [rtu_step hb hcs r2 r3 hk (by omega), j170_no _ _ _ _ _ _ _ _ _ _ _ _ _ _ _ _ _ _ _ (Or.inl rfl) t1 t2]
    unfold JX9_turn_211
    rw [u2, bd_some, ix_s]
    exact ih fuel (i + 1) n' _ _ _ (by omega) (by omega) (by omega)
theorem rtu_i (hb : b < 8) (hcs : cs ≤ 40) (r2 : CO b = iz (cs : Int)) (r3 : RC CR b cs c) {k : Nat} (hk : k ≤ 4) (bo sx sy sw : Int32) {j : Nat} (hj : j ≤ cs) (hok : ∀ i, i < j → rc3 (tn k (c i))) : ∀ (q fuel i m : Nat) (P : Nat → V3), i + q = j → q < fuel → m ≤ i → SS m P → (∀ w, Mm m P w ↔ Mm i (fun a => tn k (c a)) w) → ∃ (m' : Nat) (P' : Nat → V3) (fu : Nat), m' ≤ j ∧ SS m' P' ∧ (∀ w, Mm m' P' w ↔ Mm j (fun a => tn k (c a)) w) ∧ fuel ≤ fu + q + 1 ∧ LX9_turn_32 fuel (iz (b : Int)) (iz (k : Int)) 1 (iz (i : Int)) bo (iz (m : Int)) sx sy sw FI CO CR SI' SR MO BO (px P) (py P) (pz P) = LX9_turn_32 (fu + 1) (iz (b : Int)) (iz (k : Int)) 1 (iz (j : Int)) bo (iz (m' : Int)) sx sy sw FI CO CR SI' SR MO BO (px P') (py P') (pz P') := by
  intro q
  induction q with
  | zero =>
    intro fuel i m P h1 h2 h3 h4 h5
    obtain ⟨fuel, rfl⟩ : ∃ q, fuel = q + 1 := ⟨fuel - 1, by omega⟩
    obtain rfl : i = j := by omega
    exact ⟨m, P, fuel, h3, h4, h5, by omega, rfl⟩
  | succ q ih =>
    intro fuel i m P h1 h2 h3 h4 h5
    obtain ⟨fuel, rfl⟩ : ∃ q, fuel = q + 1 := ⟨fuel - 1, by omega⟩
    obtain ⟨m1, P1, e1, l1, s1, k1⟩ := pstep (D := fun a => tn k (c a)) h3 (by omega) h4 h5 (fun a ha => hok a (by omega))
    obtain ⟨m', P', fu, g1, g2, g3, g5, g4⟩ := ih fuel (i + 1) m1 P1 (by omega) (by omega) l1 s1 k1
    refine ⟨m', P', fu, g1, g2, g3, by omega, ?_⟩
    rw [← g4, rtu_step hb hcs r2 r3 hk (by omega), j170_ok _ _ _ _ _ _ _ _ _ _ _ _ _ _ _ _ _ _ _ (hok i (by omega))]
    unfold JX9_turn_211
    rw [e1, bd_some, ix_s]
theorem q_turn (h : GB f N cs c ss s e bd' be L G) (hR : RefB b f N cs c ss s e be FI CO CR SI' SR BO) (hb : b < bc) (hbc : bc ≤ 8) (p2 : Int32) (ps : Int32) (X Y Z : Nat → Int32) (fi ss0 bs0 : Int32) (SA SB SC SE BA BB BC BD : Nat → Int32) (l1 l2 l3 c1 c2 c3 r1 r2 r3 f1 f2 f3 : Int32) (po sx sy sw : Int32) (PX PY PZ : Nat → Int32) : (∃ r t po' PX' PY' PZ', fX8_turn_no cs (iz (bc : Int)) fi ps X Y Z ss0 SA SB SC SE bs0 BA BB BC BD l1 l2 l3 c1 c2 c3 r1 r2 r3 f1 f2 f3 (iz (cs : Int)) (px c) (py c) (pz c) (iz (b : Int)) p2 = some (r, t) ∧ fX9_turn (iz (bc : Int)) po sx sy sw FI CO CR SI' SR MO BO PX PY PZ (iz (b : Int)) p2 = some (r, iz (bc : Int), po', sx, sy, sw, FI, CO, CR, SI', SR, MO, BO, PX', PY', PZ')) ∨ (bc < 8 ∧ ∃ (n : Nat) (f' : Nat) (N' : V3) (cs' : Nat) (c' : Nat → V3) (ss' : Nat) (s' : Nat → V3) (e' : Nat → Int) (bd'' : Nat → V3) (be' L' G' : Nat → Int) (w1 w2 : Int32) (w3 w4 w5 : Nat → Int32) (w6 : Int32) (w7 w8 w9 w10 : Nat → Int32) (w11 : Int32) (w12 w13 w14 w15 : Nat → Int32) (w16 w17 w18 w19 w20 w21 w22 w23 w24 w25 w26 w27 : Int32) (sx' sy' sw' : Int32) (FI' CO' CR' SI'' SR' MO' BO' : Nat → Int32) (po' : Int32) (PX' PY' PZ' : Nat → Int32), fX8_turn_mk cs (iz (bc : Int)) fi ps X Y Z ss0 SA SB SC SE bs0 BA BB BC BD l1 l2 l3 c1 c2 c3 r1 r2 r3 f1 f2 f3 (iz (cs : Int)) (px c) (py c) (pz c) (iz (b : Int)) p2 = some (iz (bc : Int), iz ((bc + 1 : Nat) : Int), w1, w2, w3, w4, w5, w6, w7, w8, w9, w10, w11, w12, w13, w14, w15, w16, w17, w18, w19, w20, w21, w22, w23, w24, w25, w26, w27, iz (f' : Int), iz (n : Int), iz (cs' : Int), iz (ss' : Int), iz ((nbd f' : Nat) : Int), pe L', pe G', px c', cs', py c', pz c', px s', ss', py s', pz s', pe e', px bd'', nbd f', py bd'', pz bd'', pe be') ∧ GB f' N' cs' c' ss' s' e' bd'' be' L' G' ∧ fX9_turn (iz (bc : Int)) po sx sy sw FI CO CR SI' SR MO BO PX PY PZ (iz (b : Int)) p2 = some (iz (bc : Int), iz ((bc + 1 : Nat) : Int), po', sx', sy', sw', FI', CO', CR', SI'', SR', MO', BO', PX', PY', PZ') ∧ RefB bc f' N' cs' c' ss' s' e' be' FI' CO' CR' SI'' SR' BO' ∧ MO' bc = iz (n : Int) ∧ RFr bc FI CO CR SI' SR MO BO FI' CO' CR' SI'' SR' MO' BO') := by
  have hF := GB_facts h
  obtain ⟨f3', k1, k40, s80, hs, hN, hbd, hbe, h0, hcr, hLG⟩ := hF
  obtain ⟨g1, g2, g3, g4, g5, g6, g7⟩ := hR
  have b8' : b < 8 := by omega
  obtain ⟨k, rfl, x1, x2⟩ := some_iz p2
  have fm : fX9_turn (iz (bc : Int)) po sx sy sw FI CO CR SI' SR MO BO PX PY PZ (iz (b : Int)) (iz k) = (if (if 0 ≤ k ∧ k ≤ 4 then (1 : Int32) else 0) = 0 then (some ((-1), iz (bc : Int), po, sx, sy, sw, FI, CO, CR, SI', SR, MO, BO, PX, PY, PZ)) else (LX9_turn_32 FU (iz (b : Int)) (iz k) 1 0 (iz (bc : Int)) 0 sx sy sw FI CO CR SI' SR MO BO PX PY PZ)) := by
    unfold fX9_turn
    rw [is_i hb hbc, bd_some, if_neg n10, iz_lz x1 x2, show (0 : Int64) = lz 0 from rfl, show (4 : Int64) = lz 4 from rfl, in_z (by omega) (by omega) (by omega) (by omega) (by omega) (by omega), bd_some]
  rw [fm]
  by_cases c0 : k < 0
  · left
    rw [if_neg (show ¬ (0 ≤ k ∧ k ≤ 4) by omega), if_pos rfl]
    unfold fX8_turn_no
    rw [find_i hb hbc, bd_some, if_pos ((lt0 x1 x2).mpr c0)]
    exact ⟨_, _, _, _, _, _, rfl, rfl⟩
  · by_cases c4 : k ≤ 4
    · have l4 : iz k ≤ 4 := by rw [show (4 : Int32) = iz 4 from rfl, iz_le (by omega) (by omega) (by omega) (by omega)]; exact c4
      have n0 : ¬ iz k < 0 := fun q => c0 ((lt0 x1 x2).mp q)
      rw [if_pos (show 0 ≤ k ∧ k ≤ 4 by omega), if_neg n10]
      obtain ⟨k, rfl⟩ := nat_of (show 0 ≤ k by omega)
      have hk : k ≤ 4 := by omega
      by_cases ok : ∀ i, i < cs → rc3 (tn k (c i))
      · obtain ⟨m, P, fu2, a1, a2, a3, _, a4⟩ := rtu_i (FI := FI) (SI' := SI') (SR := SR) (MO := MO) (BO := BO) b8' k40 g2 g3 hk (iz (bc : Int)) sx sy sw (Nat.le_refl cs) ok cs FU 0 0 (at3 PX PY PZ) (by omega) (by unfold FU; omega) (by omega) SS_none (fun v => Mm_none v)
        rw [px_at, py_at, pz_at] at a4
        have a4' : LX9_turn_32 FU (iz (b : Int)) (iz (k : Int)) 1 0 (iz (bc : Int)) 0 sx sy sw FI CO CR SI' SR MO BO PX PY PZ = _ := a4
        rw [a4', LX9_turn_32, ix_gd b8' (by omega), iz_cn (by omega), g2, if_pos ((ix_le (by omega) (by omega)).mpr (Nat.le_refl _)), if_neg n10]
        by_cases full : bc = 8
        · left
          obtain ⟨p', fu, t1, t2⟩ := tu_no k40 hcr hk (iz (bc : Int)) fi ss0 bs0 SA SB SC SE BA BB BC BD l1 l2 l3 c1 c2 c3 r1 r2 r3 f1 f2 f3 (Nat.le_refl cs) ok cs FU 0 (at3 X Y Z) (by omega) (by unfold FU; omega) (fun a ha => by omega)
          rw [px_at, py_at, pz_at] at t2
          rw [if_pos (by rw [full]; rfl)]
          unfold fX8_turn_no fX3_begin
          rw [find_i hb hbc, bd_some, if_neg n0, if_pos l4, bd_some]
          have t2' : LX8_turn_no_31 cs (iz (bc : Int)) (iz (cs : Int)) (px c) (py c) (pz c) FU (iz (k : Int)) 0 fi 0 X Y Z ss0 SA SB SC SE bs0 BA BB BC BD l1 l2 l3 c1 c2 c3 r1 r2 r3 f1 f2 f3 = _ := t2
          rw [t2', LX8_turn_no_31, if_pos ((ix_le (by omega) (by omega)).mpr (Nat.le_refl _))]
          unfold fX8_keepMade_full
          rw [if_neg (show ¬ iz (bc : Int) < 8 by rw [full]; decide), bd_some]
          exact ⟨_, _, _, _, _, _, rfl, rfl⟩
        · right
          have b8 : bc < 8 := by omega
          refine ⟨b8, ?_⟩
          obtain ⟨p', fu, t1, t2⟩ := tu_mk k40 hcr hk (iz (bc : Int)) fi ss0 bs0 SA SB SC SE BA BB BC BD l1 l2 l3 c1 c2 c3 r1 r2 r3 f1 f2 f3 (Nat.le_refl cs) ok cs FU 0 (at3 X Y Z) (by omega) (by unfold FU; omega) (fun a ha => by omega)
          rw [px_at, py_at, pz_at] at t2
          have hmem : ∀ v, Mm m P v ↔ Mm cs p' v := fun v => by
            rw [a3]
            exact ⟨fun ⟨j, hj, ej⟩ => ⟨j, hj, by rw [t1 j hj]; exact ej⟩, fun ⟨j, hj, ej⟩ => ⟨j, hj, by show tn k (c j) = v; rw [← t1 j hj]; exact ej⟩⟩
          obtain ⟨f', N', cs', c', ss', s', e', bd'', be', L', G', w1, w2, w3, w4, w5, w6, w7, w8, w9, w10, w11, w12, w13, w14, w15, w16, w17, w18, w19, w20, w21, w22, w23, w24, w25, w26, w27, sx', sy', sw', FI', CO', CR', SI'', SR', MO', BO', e1, hG, e2, k1', k2, k3⟩ := mk_both k1 (by omega) (fun v ⟨j, hj, ej⟩ => by rw [← ej, t1 j hj]; exact ok j hj) (fun k q hk _ _ _ => by omega) (by omega) a2 hmem b8 fi ss0 bs0 SA SB SC SE BA BB BC BD l1 l2 l3 c1 c2 c3 r1 r2 r3 f1 f2 f3 sx sy sw FI CO CR SI' SR MO BO (iz (cs : Int))
          refine ⟨cs, f', N', cs', c', ss', s', e', bd'', be', L', G', w1, w2, w3, w4, w5, w6, w7, w8, w9, w10, w11, w12, w13, w14, w15, w16, w17, w18, w19, w20, w21, w22, w23, w24, w25, w26, w27, sx', sy', sw', FI', CO', CR', SI'', SR', MO', BO', iz (m : Int), px P, py P, pz P, ?_, hG, ?_, k1', k2, k3⟩
          · unfold fX8_turn_mk fX3_begin
            rw [find_i hb hbc, bd_some, if_neg n0, if_pos l4, bd_some]
            have t2' : LX8_turn_mk_31 cs (iz (bc : Int)) (iz (cs : Int)) (px c) (py c) (pz c) FU (iz (k : Int)) 0 fi 0 X Y Z ss0 SA SB SC SE bs0 BA BB BC BD l1 l2 l3 c1 c2 c3 r1 r2 r3 f1 f2 f3 = _ := t2
            rw [t2', LX8_turn_mk_31, if_pos ((ix_le (by omega) (by omega)).mpr (Nat.le_refl _)), e1, bd_some]
          · rw [if_neg (ne8 b8), e2, bd_some]
      · left
        obtain ⟨j, hj, hbad, hgood⟩ := first_bad ok
        obtain ⟨t1', t2''⟩ := tn_bd (k := k) (hcr j hj)
        obtain ⟨m, P, fu2, a1, a2, a3, a5, a4⟩ := rtu_i (FI := FI) (SI' := SI') (SR := SR) (MO := MO) (BO := BO) b8' k40 g2 g3 hk (iz (bc : Int)) sx sy sw (show j ≤ cs by omega) hgood j FU 0 0 (at3 PX PY PZ) (by omega) (by unfold FU; omega) (by omega) SS_none (fun v => Mm_none v)
        rw [px_at, py_at, pz_at] at a4
        have a4' : LX9_turn_32 FU (iz (b : Int)) (iz (k : Int)) 1 0 (iz (bc : Int)) 0 sx sy sw FI CO CR SI' SR MO BO PX PY PZ = _ := a4
        obtain ⟨n', X', Y', Z', u1, u2⟩ := pt_any (n := m) (by omega) (px P) (py P) (pz P) (iz (tn k (c j)).1) (iz (tn k (c j)).2.1) (iz (tn k (c j)).2.2)
        obtain ⟨po', PX', PY', PZ', v1⟩ := rtu_bad (FI := FI) (SI' := SI') (SR := SR) (MO := MO) (BO := BO) b8' k40 g2 g3 hcr hk (iz (bc : Int)) sx sy sw (cs - (j + 1)) fu2 (j + 1) n' X' Y' Z' (by omega) (by unfold FU at a5; omega) (by omega)
        have e3 : LX9_turn_32 FU (iz (b : Int)) (iz (k : Int)) 1 0 (iz (bc : Int)) 0 sx sy sw FI CO CR SI' SR MO BO PX PY PZ = some (-1, iz (bc : Int), po', sx, sy, sw, FI, CO, CR, SI', SR, MO, BO, PX', PY', PZ') := by
          rw [a4', rtu_step b8' k40 g2 g3 hk hj, j170_no _ _ _ _ _ _ _ _ _ _ _ _ _ _ _ _ _ _ _ (Or.inr ⟨rfl, hbad⟩) t1' t2'']
          unfold JX9_turn_211
          rw [u2, bd_some, ix_s]
          exact v1
        obtain ⟨p', fu, t1, t2⟩ := tu_no k40 hcr hk (iz (bc : Int)) fi ss0 bs0 SA SB SC SE BA BB BC BD l1 l2 l3 c1 c2 c3 r1 r2 r3 f1 f2 f3 (show j ≤ cs by omega) hgood j FU 0 (at3 X Y Z) (by omega) (by unfold FU; omega) (fun a ha => by omega)
        rw [px_at, py_at, pz_at] at t2
        rw [e3]
        unfold fX8_turn_no fX3_begin
        rw [find_i hb hbc, bd_some, if_neg n0, if_pos l4, bd_some]
        have t2' : LX8_turn_no_31 cs (iz (bc : Int)) (iz (cs : Int)) (px c) (py c) (pz c) FU (iz (k : Int)) 0 fi 0 X Y Z ss0 SA SB SC SE bs0 BA BB BC BD l1 l2 l3 c1 c2 c3 r1 r2 r3 f1 f2 f3 = _ := t2
        rw [t2', LX8_turn_no_31, if_neg (fun q => by have := (ix_le (by omega) (by omega)).mp q; omega), ix_gd (by omega) (by omega), iz_cn (by omega), px_i, py_i, pz_i, tt_i _ _ _ _ (hcr j hj) hk, tir_no (n := j) p' hbad (by obtain ⟨w1, w2, w3⟩ := t2''; exact ⟨by omega, by omega, by omega⟩), bd_some, if_pos rfl]
        exact ⟨_, _, _, _, _, _, rfl, rfl⟩
    · left
      rw [if_neg (show ¬ (0 ≤ k ∧ k ≤ 4) by omega), if_pos rfl]
      unfold fX8_turn_no
      rw [find_i hb hbc, bd_some, if_neg (fun q => c0 ((lt0 x1 x2).mp q)), if_neg (show ¬ iz k ≤ 4 by rw [show (4 : Int32) = iz 4 from rfl, iz_le (by omega) (by omega) (by omega) (by omega)]; exact c4)]
      exact ⟨_, _, _, _, _, _, rfl, rfl⟩
end
