/-! move alike -/
theorem pt_any {n : Nat} (hn : n < 140) (X Y Z : Nat → Int32) (x y z : Int32) : ∃ (n' : Nat) (X' Y' Z' : Nat → Int32), n' ≤ n + 1 ∧ fX9_point (iz (n : Int)) X Y Z x y z = some (iz (n' : Int), X', Y', Z') := by
  have mv : ∀ (k m fuel i : Nat) (X Y Z : Nat → Int32), i = k + m → i ≤ n → m < fuel → ∃ (X' Y' Z' : Nat → Int32), LX9_point_82 fuel x y z (iz (k : Int)) (iz (i : Int)) (iz (n : Int)) X Y Z = some (iz ((n + 1 : Nat) : Int), X', Y', Z') := by
    intro k m
    induction m with
    | zero =>
      intro fuel i X Y Z h1 h2 h3
      obtain ⟨fuel, rfl⟩ : ∃ q, fuel = q + 1 := ⟨fuel - 1, by omega⟩
      rw [LX9_point_82, if_pos ((ix_le (by omega) (by omega)).mpr (by omega)), ix_gd (by omega) (by omega), ix_s]
      exact ⟨_, _, _, rfl⟩
    | succ m ih =>
      intro fuel i X Y Z h1 h2 h3
      obtain ⟨fuel, rfl⟩ : ∃ q, fuel = q + 1 := ⟨fuel - 1, by omega⟩
      rw [LX9_point_82, if_neg (fun h => by have := (ix_le (by omega) (by omega)).mp h; omega), ix_m1 (by omega), ix_mn (by omega), ix_gd (by omega) (by omega), ix_gd (by omega) (by omega)]
      exact ih fuel (i - 1) _ _ _ (by omega) (by omega) (by omega)
  have fin : ∀ k, k ≤ n → ∃ (n' : Nat) (X' Y' Z' : Nat → Int32), n' ≤ n + 1 ∧ JX9_point_76 x y z (iz (k : Int)) (iz (n : Int)) X Y Z = some (iz (n' : Int), X', Y', Z') := fun k hk => by
    obtain ⟨X', Y', Z', q⟩ := mv k (n - k) FU n X Y Z (by omega) (by omega) (by unfold FU; omega)
    exact ⟨n + 1, X', Y', Z', Nat.le_refl _, q⟩
  have af : ∀ k : Nat, k < 140 → ∃ r : Int32, fX9_isAfter X Y Z (iz (k : Int)) x y z = some r := fun k hk => by
    unfold fX9_isAfter
    rw [ix_gd hk (by omega)]
    split
    · split
      · split
        · exact ⟨_, rfl⟩
        · exact ⟨_, rfl⟩
      · split
        · exact ⟨_, rfl⟩
        · exact ⟨_, rfl⟩
    · split
      · exact ⟨_, rfl⟩
      · exact ⟨_, rfl⟩
  have j31 : ∀ k, k ≤ n → ∃ (n' : Nat) (X' Y' Z' : Nat → Int32), n' ≤ n + 1 ∧ JX9_point_31 x y z (iz (k : Int)) (iz (n : Int)) X Y Z = some (iz (n' : Int), X', Y', Z') := fun k hk => by
    unfold JX9_point_31
    by_cases k0 : k = 0
    · rw [if_pos ((ix_z (by omega)).mpr k0)]
      exact fin k hk
    · rw [if_neg (fun h => k0 ((ix_z (by omega)).mp h)), ix_m1 (by omega), ix_gd (by omega) (by omega)]
      split
      · split
        · split
          · exact ⟨n, X, Y, Z, by omega, rfl⟩
          · exact fin k hk
        · exact fin k hk
      · exact fin k hk
  have lp : ∀ (k fuel : Nat), k ≤ n → k < fuel → ∃ (n' : Nat) (X' Y' Z' : Nat → Int32), n' ≤ n + 1 ∧ LX9_point_6 fuel x y z (iz (k : Int)) (iz (n : Int)) X Y Z = some (iz (n' : Int), X', Y', Z') := by
    intro k
    induction k with
    | zero =>
      intro fuel h1 h2
      obtain ⟨fuel, rfl⟩ : ∃ q, fuel = q + 1 := ⟨fuel - 1, by omega⟩
      rw [LX9_point_6, if_pos ((ix_z (by omega)).mpr rfl)]
      exact j31 0 h1
    | succ k ih =>
      intro fuel h1 h2
      obtain ⟨fuel, rfl⟩ : ∃ q, fuel = q + 1 := ⟨fuel - 1, by omega⟩
      obtain ⟨r, q⟩ := af k (by omega)
      rw [LX9_point_6, if_neg (fun h => by have := (ix_z (by omega)).mp h; omega), ix_p, q, bd_some, ix_n]
      split
      · exact j31 (k + 1) h1
      · exact ih fuel (by omega) (by omega)
  exact lp n FU (Nat.le_refl _) (by unfold FU; omega)
def pl1 (v w : V3) : V3 := (v.1 + w.1, v.2.1 + w.2.1, v.2.2 + w.2.2)
theorem tir_ok {n : Nat} (hn : n < 121) (p : Nat → V3) {w : V3} (hw : rc3 w) : fX8_takeInReach (iz (n : Int)) (px p) (py p) (pz p) (lz w.1) (lz w.2.1) (lz w.2.2) = some (1, iz ((n + 1 : Nat) : Int), px (ud p n w), py (ud p n w), pz (ud p n w)) := by
  have hw' := hw
  obtain ⟨h1, h2, h3⟩ := hw'
  unfold fX8_takeInReach
  rw [reach_i, lz_i (by omega) (by omega), lz_i (by omega) (by omega), lz_i (by omega) (by omega), if_pos (show (-5 ≤ w.1 ∧ w.1 ≤ 5) ∧ (-5 ≤ w.2.1 ∧ w.2.1 ≤ 5) ∧ (-5 ≤ w.2.2 ∧ w.2.2 ≤ 5) from hw), bd_some, if_neg n10, lz_32, lz_32, lz_32, put121 hn, bd_some]
theorem tir_no {n : Nat} (p : Nat → V3) {w : V3} (hw : ¬ rc3 w) (hb : bdv 3000000000 w) : fX8_takeInReach (iz (n : Int)) (px p) (py p) (pz p) (lz w.1) (lz w.2.1) (lz w.2.2) = some (0, iz (n : Int), px p, py p, pz p) := by
  obtain ⟨h1, h2, h3⟩ := hb
  unfold fX8_takeInReach
  rw [reach_i, lz_i (by omega) (by omega), lz_i (by omega) (by omega), lz_i (by omega) (by omega), if_neg (show ¬ ((-5 ≤ w.1 ∧ w.1 ≤ 5) ∧ (-5 ≤ w.2.1 ∧ w.2.1 ≤ 5) ∧ (-5 ≤ w.2.2 ∧ w.2.2 ≤ 5)) from hw), bd_some, if_pos rfl]
section
variable {f : Nat} {N : V3} {cs : Nat} {c : Nat → V3} {ss : Nat} {s : Nat → V3} {e : Nat → Int} {bd' : Nat → V3} {be L G : Nat → Int} {b bc : Nat} {FI CO CR SI' SR BO : Nat → Int32}
theorem mv_step (hc : ∀ i, i < cs → rc3 (c i)) {v : V3} (hv : bdv 2147483648 v) {i : Nat} (hi : i < cs) (h1 : v.1 < 2147483648) (h2 : v.2.1 < 2147483648) (h3 : v.2.2 < 2147483648) : (px c i).toInt64 + (iz v.1).toInt64 = lz (pl1 (c i) v).1 ∧ (py c i).toInt64 + (iz v.2.1).toInt64 = lz (pl1 (c i) v).2.1 ∧ (pz c i).toInt64 + (iz v.2.2).toInt64 = lz (pl1 (c i) v).2.2 ∧ bdv 3000000000 (pl1 (c i) v) := by
  obtain ⟨a1, a2, a3⟩ := hc i hi
  obtain ⟨b1, b2, b3⟩ := hv
  rw [px_i, py_i, pz_i, iz_lz (by omega) (by omega), iz_lz (by omega) (by omega), iz_lz (by omega) (by omega), iz_lz (by omega) (by omega), iz_lz (by omega) (by omega), iz_lz (by omega) (by omega), lz_add, lz_add, lz_add]
  exact ⟨rfl, rfl, rfl, by show _ ∧ _; unfold pl1; dsimp only; omega, by unfold pl1; dsimp only; omega, by unfold pl1; dsimp only; omega⟩
theorem mv_no (hcs : cs ≤ 40) (hc : ∀ i, i < cs → rc3 (c i)) {v : V3} (hv : bdv 2147483648 v) (h1 : v.1 < 2147483648) (h2 : v.2.1 < 2147483648) (h3 : v.2.2 < 2147483648) (bc_ : Int32) (fi ss0 bs0 : Int32) (SA SB SC SE BA BB BC BD : Nat → Int32) (l1 l2 l3 c1 c2 c3 r1 r2 r3 f1 f2 f3 : Int32) {j : Nat} (hj : j ≤ cs) (hok : ∀ i, i < j → rc3 (pl1 (c i) v)) : ∀ (q fuel i : Nat) (p : Nat → V3), i + q = j → q < fuel → (∀ a, a < i → p a = pl1 (c a) v) → ∃ (p' : Nat → V3) (fu : Nat), (∀ a, a < j → p' a = pl1 (c a) v) ∧ LX8_move_no_24 cs bc_ (iz (cs : Int)) (px c) (py c) (pz c) fuel (iz v.1) (iz v.2.1) (iz v.2.2) (iz (i : Int)) fi (iz (i : Int)) (px p) (py p) (pz p) ss0 SA SB SC SE bs0 BA BB BC BD l1 l2 l3 c1 c2 c3 r1 r2 r3 f1 f2 f3 = LX8_move_no_24 cs bc_ (iz (cs : Int)) (px c) (py c) (pz c) (fu + 1) (iz v.1) (iz v.2.1) (iz v.2.2) (iz (j : Int)) fi (iz (j : Int)) (px p') (py p') (pz p') ss0 SA SB SC SE bs0 BA BB BC BD l1 l2 l3 c1 c2 c3 r1 r2 r3 f1 f2 f3 := by
  intro q
  induction q with
  | zero =>
    intro fuel i p k1 k2 k3
    obtain ⟨fuel, rfl⟩ : ∃ q, fuel = q + 1 := ⟨fuel - 1, by omega⟩
    obtain rfl : i = j := by omega
    exact ⟨p, fuel, k3, rfl⟩
  | succ q ih =>
    intro fuel i p k1 k2 k3
    obtain ⟨fuel, rfl⟩ : ∃ q, fuel = q + 1 := ⟨fuel - 1, by omega⟩
    obtain ⟨p', fu, g1, g2⟩ := ih fuel (i + 1) (ud p i (pl1 (c i) v)) (by omega) (by omega) (fun a ha => by
      unfold ud
      by_cases ca : a = i
      · rw [if_pos ca, ca]
      · rw [if_neg ca]; exact k3 a (by omega))
    obtain ⟨e1, e2, e3, e4⟩ := mv_step hc hv (show i < cs by omega) h1 h2 h3
    refine ⟨p', fu, g1, ?_⟩
    rw [← g2, LX8_move_no_24, if_neg (fun q => by have := (ix_le (by omega) (by omega)).mp q; omega), ix_gd (by omega) (by omega), iz_cn (by omega)]
    unfold cut
    rw [e1, e2, e3]
    dsimp only
    rw [tir_ok (n := i) (by omega) p (hok i (by omega)), bd_some, if_neg n10, ix_s]
theorem mv_mk (hcs : cs ≤ 40) (hc : ∀ i, i < cs → rc3 (c i)) {v : V3} (hv : bdv 2147483648 v) (h1 : v.1 < 2147483648) (h2 : v.2.1 < 2147483648) (h3 : v.2.2 < 2147483648) (bc_ : Int32) (fi ss0 bs0 : Int32) (SA SB SC SE BA BB BC BD : Nat → Int32) (l1 l2 l3 c1 c2 c3 r1 r2 r3 f1 f2 f3 : Int32) {j : Nat} (hj : j ≤ cs) (hok : ∀ i, i < j → rc3 (pl1 (c i) v)) : ∀ (q fuel i : Nat) (p : Nat → V3), i + q = j → q < fuel → (∀ a, a < i → p a = pl1 (c a) v) → ∃ (p' : Nat → V3) (fu : Nat), (∀ a, a < j → p' a = pl1 (c a) v) ∧ LX8_move_mk_24 cs bc_ (iz (cs : Int)) (px c) (py c) (pz c) fuel (iz v.1) (iz v.2.1) (iz v.2.2) (iz (i : Int)) fi (iz (i : Int)) (px p) (py p) (pz p) ss0 SA SB SC SE bs0 BA BB BC BD l1 l2 l3 c1 c2 c3 r1 r2 r3 f1 f2 f3 = LX8_move_mk_24 cs bc_ (iz (cs : Int)) (px c) (py c) (pz c) (fu + 1) (iz v.1) (iz v.2.1) (iz v.2.2) (iz (j : Int)) fi (iz (j : Int)) (px p') (py p') (pz p') ss0 SA SB SC SE bs0 BA BB BC BD l1 l2 l3 c1 c2 c3 r1 r2 r3 f1 f2 f3 := by
  intro q
  induction q with
  | zero =>
    intro fuel i p k1 k2 k3
    obtain ⟨fuel, rfl⟩ : ∃ q, fuel = q + 1 := ⟨fuel - 1, by omega⟩
    obtain rfl : i = j := by omega
    exact ⟨p, fuel, k3, rfl⟩
  | succ q ih =>
    intro fuel i p k1 k2 k3
    obtain ⟨fuel, rfl⟩ : ∃ q, fuel = q + 1 := ⟨fuel - 1, by omega⟩
    obtain ⟨p', fu, g1, g2⟩ := ih fuel (i + 1) (ud p i (pl1 (c i) v)) (by omega) (by omega) (fun a ha => by
      unfold ud
      by_cases ca : a = i
      · rw [if_pos ca, ca]
      · rw [if_neg ca]; exact k3 a (by omega))
    obtain ⟨e1, e2, e3, e4⟩ := mv_step hc hv (show i < cs by omega) h1 h2 h3
    refine ⟨p', fu, g1, ?_⟩
    rw [← g2, LX8_move_mk_24, if_neg (fun q => by have := (ix_le (by omega) (by omega)).mp q; omega), ix_gd (by omega) (by omega), iz_cn (by omega)]
    unfold cut
    rw [e1, e2, e3]
    dsimp only
    rw [tir_ok (n := i) (by omega) p (hok i (by omega)), bd_some, if_neg n10, ix_s]
theorem small_i (hcs : cs ≤ 40) (hcs1 : 1 ≤ cs) (hc : ∀ i, i < cs → rc3 (c i)) (hLG : ∀ w, w < 3 → IsMn cs c w (L w) ∧ IsMx cs c w (G w)) (hb8 : b < 8) (r2 : CO b = iz (cs : Int)) (r3 : RC CR b cs c) {v : V3} (hv : bdv 2147483648 v) (h1 : v.1 < 2147483648) (h2 : v.2.1 < 2147483648) (h3 : v.2.2 < 2147483648) : ∃ r : Int32, fX9_isSmall CO CR (iz (b : Int)) (iz v.1) (iz v.2.1) (iz v.2.2) = some r ∧ (r = 0 ∨ r = 1) ∧ (r = 1 ↔ ∀ i, i < cs → rc3 (pl1 (c i) v)) := by
  have l0 := LG_bd hc hLG (show 0 < 3 by omega)
  have l1 := LG_bd hc hLG (show 1 < 3 by omega)
  have l2 := LG_bd hc hLG (show 2 < 3 by omega)
  have key : (∀ i, i < cs → rc3 (pl1 (c i) v)) ↔ ((-5 ≤ L 0 + v.1 ∧ L 0 + v.1 ≤ 5) ∧ (-5 ≤ G 0 + v.1 ∧ G 0 + v.1 ≤ 5)) ∧ ((-5 ≤ L 1 + v.2.1 ∧ L 1 + v.2.1 ≤ 5) ∧ (-5 ≤ G 1 + v.2.1 ∧ G 1 + v.2.1 ≤ 5)) ∧ ((-5 ≤ L 2 + v.2.2 ∧ L 2 + v.2.2 ≤ 5) ∧ (-5 ≤ G 2 + v.2.2 ∧ G 2 + v.2.2 ≤ 5)) := by
    obtain ⟨⟨m0, i0, hi0, e0⟩, M0, j0, hj0, E0⟩ := hLG 0 (by omega)
    obtain ⟨⟨m1, i1, hi1, e1⟩, M1, j1, hj1, E1⟩ := hLG 1 (by omega)
    obtain ⟨⟨m2, i2, hi2, e2⟩, M2, j2, hj2, E2⟩ := hLG 2 (by omega)
    change (c i0).1 = L 0 at e0
    change (c j0).1 = G 0 at E0
    change (c i1).2.1 = L 1 at e1
    change (c j1).2.1 = G 1 at E1
    change (c i2).2.2 = L 2 at e2
    change (c j2).2.2 = G 2 at E2
    constructor
    · intro h
      have a1 := (h i0 hi0).1
      have a2 := (h j0 hj0).1
      have a3 := (h i1 hi1).2.1
      have a4 := (h j1 hj1).2.1
      have a5 := (h i2 hi2).2.2
      have a6 := (h j2 hj2).2.2
      unfold pl1 at a1 a2 a3 a4 a5 a6
      dsimp only at a1 a2 a3 a4 a5 a6
      omega
    · intro h i hi
      have b0 := m0 i hi
      have b1 := M0 i hi
      have b2 := m1 i hi
      have b3 := M1 i hi
      have b4 := m2 i hi
      have b5 := M2 i hi
      change L 0 ≤ (c i).1 at b0
      change (c i).1 ≤ G 0 at b1
      change L 1 ≤ (c i).2.1 at b2
      change (c i).2.1 ≤ G 1 at b3
      change L 2 ≤ (c i).2.2 at b4
      change (c i).2.2 ≤ G 2 at b5
      unfold pl1
      exact ⟨by dsimp only; omega, by dsimp only; omega, by dsimp only; omega⟩
  obtain ⟨b1, b2, b3⟩ := hv
  have li := fun w (hw : w < 3) => least_i hcs hcs1 hc hb8 r2 r3 hw (hLG w hw).1
  have gi := fun w (hw : w < 3) => greatest_i hcs hcs1 hc hb8 r2 r3 hw (hLG w hw).2
  have su : ∀ a x : Int, -5 ≤ a → a ≤ 5 → -2147483648 ≤ x → x < 2147483648 → fX9_in ((iz a).toInt64 + (iz x).toInt64) (-5) 5 = some (if -5 ≤ a + x ∧ a + x ≤ 5 then 1 else 0) := fun a x q1 q2 q3 q4 => by
    rw [iz_lz (by omega) (by omega), iz_lz (by omega) (by omega), lz_add, rin]
    have : rl (lz (a + x)) ↔ -5 ≤ a + x ∧ a + x ≤ 5 := by
      unfold rl
      rw [lz_i (by omega) (by omega)]
    by_cases cc : rl (lz (a + x))
    · rw [if_pos cc, if_pos (this.mp cc)]
    · rw [if_neg cc, if_neg (fun q => cc (this.mpr q))]
  rw [key]
  unfold fX9_isSmall
  rw [y0, y1, y2, li 0 (by omega), bd_some, su _ _ (by omega) (by omega) (by omega) (by omega), bd_some, gi 0 (by omega), bd_some, su _ _ (by omega) (by omega) (by omega) (by omega), bd_some, li 1 (by omega), bd_some, su _ _ (by omega) (by omega) (by omega) (by omega), bd_some, gi 1 (by omega), bd_some, su _ _ (by omega) (by omega) (by omega) (by omega), bd_some, li 2 (by omega), bd_some, su _ _ (by omega) (by omega) (by omega) (by omega), bd_some, gi 2 (by omega), bd_some, su _ _ (by omega) (by omega) (by omega) (by omega), bd_some]
  rw [← y0, ← y1]
  by_cases q1 : -5 ≤ L 0 + v.1 ∧ L 0 + v.1 ≤ 5
  · rw [if_pos q1, if_neg n10]
    by_cases q2 : -5 ≤ G 0 + v.1 ∧ G 0 + v.1 ≤ 5
    · rw [if_pos q2, if_neg n10]
      by_cases q3 : -5 ≤ L 1 + v.2.1 ∧ L 1 + v.2.1 ≤ 5
      · rw [if_pos q3, if_neg n10]
        by_cases q4 : -5 ≤ G 1 + v.2.1 ∧ G 1 + v.2.1 ≤ 5
        · rw [if_pos q4, if_neg n10]
          by_cases q5 : -5 ≤ L 2 + v.2.2 ∧ L 2 + v.2.2 ≤ 5
          · rw [if_pos q5, if_neg n10]
            by_cases q6 : -5 ≤ G 2 + v.2.2 ∧ G 2 + v.2.2 ≤ 5
            · rw [if_pos q6, if_neg n10]
              exact ⟨1, rfl, Or.inr rfl, fun _ => ⟨⟨q1, q2⟩, ⟨q3, q4⟩, q5, q6⟩, fun _ => rfl⟩
            · rw [if_neg q6, if_pos rfl]
              exact ⟨0, rfl, Or.inl rfl, fun h => absurd h (by decide), fun h => (q6 h.2.2.2).elim⟩
          · rw [if_neg q5, if_pos rfl]
            exact ⟨0, rfl, Or.inl rfl, fun h => absurd h (by decide), fun h => (q5 h.2.2.1).elim⟩
        · rw [if_neg q4, if_pos rfl]
          exact ⟨0, rfl, Or.inl rfl, fun h => absurd h (by decide), fun h => (q4 h.2.1.2).elim⟩
      · rw [if_neg q3, if_pos rfl]
        exact ⟨0, rfl, Or.inl rfl, fun h => absurd h (by decide), fun h => (q3 h.2.1.1).elim⟩
    · rw [if_neg q2, if_pos rfl]
      exact ⟨0, rfl, Or.inl rfl, fun h => absurd h (by decide), fun h => (q2 h.1.2).elim⟩
  · rw [if_neg q1, if_pos rfl]
    exact ⟨0, rfl, Or.inl rfl, fun h => absurd h (by decide), fun h => (q1 h.1.1).elim⟩
end
