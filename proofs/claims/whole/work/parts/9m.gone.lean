/-! the reference counts and looks for points -/
def pS (f : Nat) (N : V3) (ss : Nat) (s : Nat → V3) (e be : Nat → Int) (Q so : Int) : Int → Int → Int → Bool := fun x y z => decide (so ≤ wh f N ss s e be (x, y, z) Q)
section
variable {f : Nat} {N : V3} {cs : Nat} {c : Nat → V3} {ss : Nat} {s : Nat → V3} {e : Nat → Int} {bd' : Nat → V3} {be L G : Nat → Int} {b bc : Nat} {FI CO CR SI' SR BO : Nat → Int32}
theorem where_c (h : GF f N cs c ss s e bd' be L G) (hR : RefB b f N cs c ss s e be FI CO CR SI' SR BO) (hb : b < 8) {Q x y z : Int} (hQ : 1 ≤ Q ∧ Q ≤ 5) (hx : -25 ≤ x ∧ x ≤ 25) (hy : -25 ≤ y ∧ y ≤ 25) (hz : -25 ≤ z ∧ z ≤ 25) : fX9_where FI CR SI' SR BO (iz (b : Int)) (iz x).toInt64 (iz y).toInt64 (iz z).toInt64 (iz Q).toInt64 = some (iz (wh f N ss s e be (x, y, z) Q)) := by
  obtain ⟨f3, c1, c40, s80, hs, hN, hbd, hbe, h0, hcr, hLG⟩ := h
  rw [iz_lz (by omega) (by omega), iz_lz (by omega) (by omega), iz_lz (by omega) (by omega), iz_lz (by omega) (by omega)]
  exact where_i f3 hb c1 s80 hs hN (hcr 0 (by omega)) hbe h0 hR (X := (x, y, z)) ⟨⟨by dsimp only; omega, by dsimp only; omega, by dsimp only; omega⟩, by omega, by omega⟩
theorem counted_i (h : GF f N cs c ss s e bd' be L G) (hR : RefB b f N cs c ss s e be FI CO CR SI' SR BO) (hb : b < 8) {Q so : Int} (hQ : 1 ≤ Q ∧ Q ≤ 5) (hso : 1 ≤ so ∧ so ≤ 2) : fX9_counted FI CO CR SI' SR BO (iz (b : Int)) (iz Q) (iz so) = some (iz ((cx (pS f N ss s e be Q so) (bl L Q 0) (bl L Q 1) (bn L G Q 1) (bl L Q 2) (bn L G Q 2) (bn L G Q 0) : Nat) : Int)) := by
  have b0 := box_bd h hQ (show 0 < 3 by omega)
  have b1 := box_bd h hQ (show 1 < 3 by omega)
  have b2 := box_bd h hQ (show 2 < 3 by omega)
  have h' := h
  obtain ⟨f3, c1, c40, s80, hs, hN, hbd, hbe, h0, hcr, hLG⟩ := h'
  obtain ⟨r1, r2, r3, r4, r5, r6, r7⟩ := hR
  have hR : RefB b f N cs c ss s e be FI CO CR SI' SR BO := ⟨r1, r2, r3, r4, r5, r6, r7⟩
  have l3 : ∀ (K : Int32 → Int32 → Int32 → Int32 → Int32 → Int32 → Int32 → Int32 → Int32 → Int32 → Int32 → Option Int32) (S : Nat) (x y : Int) (a5 a6 a7 a8 : Int32), -25 ≤ x ∧ x ≤ 25 → -25 ≤ y ∧ y ≤ 25 → ∀ (m fuel k : Nat), k + m = bn L G Q 2 → m < fuel → LX9_counted_85 FI CO CR SI' SR BO K fuel (iz (b : Int)) (iz Q) (iz so) (iz ((S + cz (pS f N ss s e be Q so) x y (bl L Q 2) k : Nat) : Int)) a5 a6 a7 a8 (iz (G 2 * Q)) (iz x) (iz y) (iz (bl L Q 2 + k)) = K (iz (b : Int)) (iz Q) (iz so) (iz ((S + cz (pS f N ss s e be Q so) x y (bl L Q 2) (bn L G Q 2) : Nat) : Int)) a5 a6 a7 a8 (iz (G 2 * Q)) (iz x) (iz y) := by
    intro K S x y a5 a6 a7 a8 hx hy m
    induction m with
    | zero =>
      intro fuel k k1 k2
      obtain ⟨fuel, rfl⟩ : ∃ q, fuel = q + 1 := ⟨fuel - 1, by omega⟩
      rw [LX9_counted_85, if_pos (by rw [iz_lt (by omega) (by omega) (by omega) (by omega)]; omega), show k = bn L G Q 2 by omega]
    | succ m ih =>
      intro fuel k k1 k2
      obtain ⟨fuel, rfl⟩ : ∃ q, fuel = q + 1 := ⟨fuel - 1, by omega⟩
      have wr := wh_rng f N ss s e be (x, y, bl L Q 2 + k) Q
      have := ih fuel (k + 1) (by omega) (by omega)
      rw [LX9_counted_85, if_neg (by rw [iz_lt (by omega) (by omega) (by omega) (by omega)]; omega), where_c h hR hb hQ hx hy (by omega), bd_some]
      unfold JX9_counted_119
      rw [z1, iz_add (bl L Q 2 + k), show bl L Q 2 + (k : Int) + 1 = bl L Q 2 + ((k + 1 : Nat) : Int) by omega]
      rw [cz] at this
      unfold pS at this ⊢
      by_cases cc : so ≤ wh f N ss s e be (x, y, bl L Q 2 + k) Q
      · rw [if_neg (by rw [iz_lt (by omega) (by omega) (by omega) (by omega)]; omega), ← z1, y1, ix_a]
        rw [if_pos (decide_eq_true cc)] at this
        rw [show S + cz (fun x y z => decide (so ≤ wh f N ss s e be (x, y, z) Q)) x y (bl L Q 2) k + 1 = S + (cz (fun x y z => decide (so ≤ wh f N ss s e be (x, y, z) Q)) x y (bl L Q 2) k + 1) by omega]
        exact this
      · rw [if_pos (by rw [iz_lt (by omega) (by omega) (by omega) (by omega)]; omega), y0, ix_a]
        rw [if_neg (by rw [decide_eq_true_iff]; exact cc)] at this
        exact this
  have l2 : ∀ (K : Int32 → Int32 → Int32 → Int32 → Int32 → Int32 → Int32 → Int32 → Int32 → Int32 → Option Int32) (S : Nat) (x : Int) (a5 a7 : Int32), -25 ≤ x ∧ x ≤ 25 → ∀ (m fuel k : Nat), k + m = bn L G Q 1 → m < fuel → LX9_counted_74 FI CO CR SI' SR BO K fuel (iz (b : Int)) (iz Q) (iz so) (iz ((S + cy (pS f N ss s e be Q so) x (bl L Q 1) (bl L Q 2) (bn L G Q 2) k : Nat) : Int)) a5 (iz (bl L Q 2)) a7 (iz (G 1 * Q)) (iz (G 2 * Q)) (iz x) (iz (bl L Q 1 + k)) = K (iz (b : Int)) (iz Q) (iz so) (iz ((S + cy (pS f N ss s e be Q so) x (bl L Q 1) (bl L Q 2) (bn L G Q 2) (bn L G Q 1) : Nat) : Int)) a5 (iz (bl L Q 2)) a7 (iz (G 1 * Q)) (iz (G 2 * Q)) (iz x) := by
    intro K S x a5 a7 hx m
    induction m with
    | zero =>
      intro fuel k k1 k2
      obtain ⟨fuel, rfl⟩ : ∃ q, fuel = q + 1 := ⟨fuel - 1, by omega⟩
      rw [LX9_counted_74, if_pos (by rw [iz_lt (by omega) (by omega) (by omega) (by omega)]; omega), show k = bn L G Q 1 by omega]
    | succ m ih =>
      intro fuel k k1 k2
      obtain ⟨fuel, rfl⟩ : ∃ q, fuel = q + 1 := ⟨fuel - 1, by omega⟩
      have := ih fuel (k + 1) (by omega) (by omega)
      have q := l3 (fun a1 a2 a3 a4 a5 a6 a7 a8 a9 a10 a11 => (LX9_counted_74 FI CO CR SI' SR BO K fuel a1 a2 a3 a4 a5 a6 a7 a8 a9 a10 (a11 + 1))) (S + cy (pS f N ss s e be Q so) x (bl L Q 1) (bl L Q 2) (bn L G Q 2) k) x (bl L Q 1 + k) a5 (iz (bl L Q 2)) a7 (iz (G 1 * Q)) hx (by omega) (bn L G Q 2) FU 0 (by omega) (by unfold FU; omega)
      rw [show bl L Q 2 + ((0 : Nat) : Int) = bl L Q 2 by omega, show cz (pS f N ss s e be Q so) x (bl L Q 1 + k) (bl L Q 2) 0 = 0 from rfl, Nat.add_zero] at q
      rw [LX9_counted_74, if_neg (by rw [iz_lt (by omega) (by omega) (by omega) (by omega)]; omega), q]
      rw [z1, iz_add, show bl L Q 1 + (k : Int) + 1 = bl L Q 1 + ((k + 1 : Nat) : Int) by omega]
      rw [cy] at this
      rw [Nat.add_assoc]
      exact this
  have l1 : ∀ (m fuel k : Nat), k + m = bn L G Q 0 → m < fuel → LX9_counted_63 FI CO CR SI' SR BO fuel (iz (b : Int)) (iz Q) (iz so) (iz ((cx (pS f N ss s e be Q so) (bl L Q 0) (bl L Q 1) (bn L G Q 1) (bl L Q 2) (bn L G Q 2) k : Nat) : Int)) (iz (bl L Q 1)) (iz (bl L Q 2)) (iz (G 0 * Q)) (iz (G 1 * Q)) (iz (G 2 * Q)) (iz (bl L Q 0 + k)) = some (iz ((cx (pS f N ss s e be Q so) (bl L Q 0) (bl L Q 1) (bn L G Q 1) (bl L Q 2) (bn L G Q 2) (bn L G Q 0) : Nat) : Int)) := by
    intro m
    induction m with
    | zero =>
      intro fuel k k1 k2
      obtain ⟨fuel, rfl⟩ : ∃ q, fuel = q + 1 := ⟨fuel - 1, by omega⟩
      rw [LX9_counted_63, if_pos (by rw [iz_lt (by omega) (by omega) (by omega) (by omega)]; omega), show k = bn L G Q 0 by omega]
    | succ m ih =>
      intro fuel k k1 k2
      obtain ⟨fuel, rfl⟩ : ∃ q, fuel = q + 1 := ⟨fuel - 1, by omega⟩
      have := ih fuel (k + 1) (by omega) (by omega)
      have q := l2 (fun a1 a2 a3 a4 a5 a6 a7 a8 a9 a10 => (LX9_counted_63 FI CO CR SI' SR BO fuel a1 a2 a3 a4 a5 a6 a7 a8 a9 (a10 + 1))) (cx (pS f N ss s e be Q so) (bl L Q 0) (bl L Q 1) (bn L G Q 1) (bl L Q 2) (bn L G Q 2) k) (bl L Q 0 + k) (iz (bl L Q 1)) (iz (G 0 * Q)) (by omega) (bn L G Q 1) FU 0 (by omega) (by unfold FU; omega)
      rw [show bl L Q 1 + ((0 : Nat) : Int) = bl L Q 1 by omega, show cy (pS f N ss s e be Q so) (bl L Q 0 + k) (bl L Q 1) (bl L Q 2) (bn L G Q 2) 0 = 0 from rfl, Nat.add_zero] at q
      rw [LX9_counted_63, if_neg (by rw [iz_lt (by omega) (by omega) (by omega) (by omega)]; omega), q]
      rw [z1, iz_add, show bl L Q 0 + (k : Int) + 1 = bl L Q 0 + ((k + 1 : Nat) : Int) by omega]
      rw [cx] at this
      exact this
  unfold fX9_counted
  rw [y0, y1, y2, least_i c40 c1 hcr hb r2 r3 (show 1 < 3 by omega) (hLG 1 (by omega)).1, bd_some, least_i c40 c1 hcr hb r2 r3 (show 2 < 3 by omega) (hLG 2 (by omega)).1, bd_some, greatest_i c40 c1 hcr hb r2 r3 (show 0 < 3 by omega) (hLG 0 (by omega)).2, bd_some, greatest_i c40 c1 hcr hb r2 r3 (show 1 < 3 by omega) (hLG 1 (by omega)).2, bd_some, greatest_i c40 c1 hcr hb r2 r3 (show 2 < 3 by omega) (hLG 2 (by omega)).2, bd_some, least_i c40 c1 hcr hb r2 r3 (show 0 < 3 by omega) (hLG 0 (by omega)).1, bd_some, iz_mul, iz_mul, iz_mul, iz_mul, iz_mul, iz_mul, Int.mul_comm Q (L 1), Int.mul_comm Q (L 2), Int.mul_comm Q (G 0), Int.mul_comm Q (G 1), Int.mul_comm Q (G 2), Int.mul_comm Q (L 0)]
  have := l1 (bn L G Q 0) FU 0 (by omega) (by unfold FU; omega)
  rw [show bl L Q 0 + ((0 : Nat) : Int) = bl L Q 0 by omega] at this
  exact this
theorem pS_pB (Q : Int) : pS f N ss s e be Q 1 = pB f N ss s e be Q := by
  funext x y z
  have := wh_rng f N ss s e be (x, y, z) Q
  unfold pS pB
  by_cases c : wh f N ss s e be (x, y, z) Q = 0
  · rw [decide_eq_false (by omega), decide_eq_false (by omega)]
  · rw [decide_eq_true (by omega), decide_eq_true c]
end
