/-! draw alike -/
abbrev rl (x : Int64) : Prop := -5 ≤ x.toInt ∧ x.toInt ≤ 5
def rf (d m : Nat) (R : Nat → Int64) (i : Nat) : Int32 := if 3 * i + 2 < m then (if rl (R (3 * i)) ∧ rl (R (3 * i + 1)) ∧ rl (R (3 * i + 2)) then (if d + i < 12 then 0 else -3) else -1) else -12
theorem rl_32 {x : Int64} (h : rl x) : rch (x.toInt32).toInt := by
  have e : x = lz x.toInt := (Int64.ofInt_toInt x).symm
  have : (x.toInt32).toInt = x.toInt := by
    obtain ⟨h1, h2⟩ := h
    rw [e, lz_32, lz_i (by omega) (by omega), iz_i (by omega) (by omega)]
  rw [this]
  exact h
theorem cell_i {m : Nat} (hm : m ≤ 36) (R : Nat → Int64) {j : Nat} (hj : j < m) : fX5_cell 36 (iz (m : Int)) R (iz (j : Int)) = some (R j) := by
  unfold fX5_cell
  rw [if_neg (fun q => by have := (lt0 (by omega) (by omega)).mp q; omega), if_neg (fun q => by have := (ix_le (by omega) (by omega)).mp q; omega), ix_gd (by omega) (by omega), iz_cn (by omega)]
theorem ix3 (i : Nat) : 3 * iz (i : Int) = iz ((3 * i : Nat) : Int) := by rw [z3, iz_mul]; congr 1
theorem ix_2 (j : Nat) : iz (j : Int) + 2 = iz ((j + 2 : Nat) : Int) := by rw [z2, iz_add]; congr 1
theorem ix36 (k i : Nat) : 36 * iz (k : Int) + iz ((3 * i : Nat) : Int) = iz ((36 * k + 3 * i : Nat) : Int) := by rw [show (36 : Int32) = iz 36 from rfl, iz_mul, iz_add]; congr 1
theorem refusal_i {d m i : Nat} (hd : d ≤ 12) (hm : m ≤ 36) (hi : i ≤ 12) (R : Nat → Int64) : fX8_refusalOf (iz (d : Int)) (iz (m : Int)) R (iz (i : Int)) = some (rf d m R i) := by
  unfold fX8_refusalOf rf
  have e3 : iz (m : Int) / 3 = iz ((m / 3 : Nat) : Int) := by
    rw [z3, iz_div (by omega) (by omega) (by omega) (by omega)]
    congr 1
  rw [e3]
  by_cases c1 : 3 * i + 2 < m
  · rw [if_pos ((ix_lt (by omega) (by omega)).mpr (by omega)), if_pos c1, ix3, ix_s, ix_2, cell_i hm R (by omega), bd_some, cell_i hm R (by omega), bd_some, cell_i hm R (by omega), bd_some, reach_i, bd_some]
    by_cases c2 : rl (R (3 * i)) ∧ rl (R (3 * i + 1)) ∧ rl (R (3 * i + 2))
    · rw [if_pos c2, if_pos (show (-5 ≤ (R (3 * i)).toInt ∧ (R (3 * i)).toInt ≤ 5) ∧ (-5 ≤ (R (3 * i + 1)).toInt ∧ (R (3 * i + 1)).toInt ≤ 5) ∧ (-5 ≤ (R (3 * i + 2)).toInt ∧ (R (3 * i + 2)).toInt ≤ 5) from c2), if_neg n10, show (12 : Int32) = iz ((12 : Nat) : Int) from rfl, ix_a]
      by_cases c3 : d + i < 12
      · rw [if_pos ((ix_lt (by omega) (by omega)).mpr c3), if_pos c3]
      · rw [if_neg (fun q => c3 ((ix_lt (by omega) (by omega)).mp q)), if_neg c3]
    · rw [if_neg c2, if_neg (show ¬ ((-5 ≤ (R (3 * i)).toInt ∧ (R (3 * i)).toInt ≤ 5) ∧ (-5 ≤ (R (3 * i + 1)).toInt ∧ (R (3 * i + 1)).toInt ≤ 5) ∧ (-5 ≤ (R (3 * i + 2)).toInt ∧ (R (3 * i + 2)).toInt ≤ 5)) from c2), if_pos rfl]
  · rw [if_neg (fun q => by have := (ix_lt (by omega) (by omega)).mp q; omega), if_neg c1]
def up3 (DR : Nat → Int32) (j : Nat) (x y z : Int32) : Nat → Int32 := upd (upd (upd DR (3 * j) x) (3 * j + 1) y) (3 * j + 2) z
theorem rput_i {d : Nat} (hd : d < 12) (DR : Nat → Int32) (x y z : Int32) : fX9_put (iz (d : Int)) DR x y z = some (iz ((d + 1 : Nat) : Int), up3 DR d x y z) := by
  unfold fX9_put
  rw [ix3, ix_s, ix_s, ix_2, ix_gd (by omega) (by omega), ix_gd (by omega) (by omega), ix_gd (by omega) (by omega), iz_cn (by omega), iz_cn (by omega), iz_cn (by omega)]
  rfl
theorem put_ok {d : Nat} (hd : d < 12) (X Y Z : Nat → Int32) (x y z : Int32) : fX4_put 12 (iz (d : Int)) X Y Z x y z = some (iz ((d + 1 : Nat) : Int), upd X d x, upd Y d y, upd Z d z) := by
  unfold fX4_put
  rw [iz_nI, if_neg (fun q => by have := (ix_le (by omega) (by omega)).mp q; omega), ix_gd (by omega) (by omega), iz_cn (by omega), ix_s]
theorem DRel_i {d : Nat} {X Y Z DR : Nat → Int32} (hd : d ≤ 12) : DRel (iz (d : Int)) X Y Z DR ↔ ∀ k : Nat, k < d → (DR (3 * k) = X k ∧ DR (3 * k + 1) = Y k ∧ DR (3 * k + 2) = Z k) ∧ rch (X k).toInt ∧ rch (Y k).toInt ∧ rch (Z k).toInt := by
  unfold DRel
  rw [iz_i (by omega) (by omega)]
  exact ⟨fun h k hk => h.2.2 k (by omega), fun h => ⟨by omega, by omega, fun k hk => h k (by omega)⟩⟩
theorem DRel_up {d : Nat} {X Y Z DR : Nat → Int32} (hd : d < 12) (h : DRel (iz (d : Int)) X Y Z DR) {x y z : Int32} (hx : rch x.toInt) (hy : rch y.toInt) (hz : rch z.toInt) : DRel (iz ((d + 1 : Nat) : Int)) (upd X d x) (upd Y d y) (upd Z d z) (up3 DR d x y z) := by
  rw [DRel_i (by omega)] at h ⊢
  intro k hk
  unfold up3 upd
  by_cases c : k = d
  · subst c
    rw [if_pos rfl, if_pos rfl, if_pos rfl, if_neg (by omega), if_neg (by omega), if_pos rfl, if_neg (by omega), if_pos rfl, if_pos rfl]
    exact ⟨⟨rfl, rfl, rfl⟩, hx, hy, hz⟩
  · rw [if_neg c, if_neg c, if_neg c, if_neg (by omega), if_neg (by omega), if_neg (by omega), if_neg (by omega), if_neg (by omega), if_neg (by omega), if_neg (by omega), if_neg (by omega), if_neg (by omega)]
    exact h k (by omega)
section
variable {d m k : Nat} {R CM : Nat → Int64} {LA LE : Nat → Int32}
theorem rf_0 {i : Nat} (h : rf d m R i = 0) : 3 * i + 2 < m ∧ (rl (R (3 * i)) ∧ rl (R (3 * i + 1)) ∧ rl (R (3 * i + 2))) ∧ d + i < 12 := by
  unfold rf at h
  by_cases c1 : 3 * i + 2 < m
  · rw [if_pos c1] at h
    by_cases c2 : rl (R (3 * i)) ∧ rl (R (3 * i + 1)) ∧ rl (R (3 * i + 2))
    · rw [if_pos c2] at h
      by_cases c3 : d + i < 12
      · exact ⟨c1, c2, c3⟩
      · rw [if_neg c3] at h; exact absurd h (by decide)
    · rw [if_neg c2] at h; exact absurd h (by decide)
  · rw [if_neg c1] at h; exact absurd h (by decide)
theorem rf_c (i : Nat) : rf d m R i = 0 ∨ rf d m R i = -3 ∨ rf d m R i = -1 ∨ rf d m R i = -12 := by
  unfold rf
  split
  · split
    · split
      · exact Or.inl rfl
      · exact Or.inr (Or.inl rfl)
    · exact Or.inr (Or.inr (Or.inl rfl))
  · exact Or.inr (Or.inr (Or.inr rfl))
theorem rin (x : Int64) : fX9_in x (-5) 5 = some (if rl x then 1 else 0) := by
  rw [in_i]
  by_cases c : rl x
  · rw [if_pos c, if_pos (show (-5 : Int64).toInt ≤ x.toInt ∧ x.toInt ≤ (5 : Int64).toInt from c)]
  · rw [if_neg c, if_neg (show ¬ ((-5 : Int64).toInt ≤ x.toInt ∧ x.toInt ≤ (5 : Int64).toInt) from c)]
theorem rstep (hk : k < 4) (hLE : LE k = iz (m : Int)) (hm : m ≤ 36) (hCM : ∀ i, i < 36 → CM (36 * k + i) = R i) {n : Int} (hn : n < 2147483648) {i : Nat} (hi : (i : Int) < n) (hi2 : i ≤ 12) (hd : d + i ≤ 12) (fu : Nat) (a4 : Int32) (DR : Nat → Int32) : LX9_draw_69 LA LE CM (fu + 1) (iz (k : Int)) (iz n) a4 0 (iz (i : Int)) (iz ((d + i : Nat) : Int)) DR = if rf d m R i = 0 then LX9_draw_69 LA LE CM fu (iz (k : Int)) (iz n) a4 0 (iz ((i + 1 : Nat) : Int)) (iz ((d + i + 1 : Nat) : Int)) (up3 DR (d + i) (R (3 * i)).toInt32 (R (3 * i + 1)).toInt32 (R (3 * i + 2)).toInt32) else LX9_draw_69 LA LE CM fu (iz (k : Int)) (iz n) a4 (rf d m R i) (iz ((i + 1 : Nat) : Int)) (iz ((d + i : Nat) : Int)) DR := by
  rw [LX9_draw_69, if_neg (by rw [iz_le (by omega) (by omega) (by omega) (by omega)]; omega), if_pos rfl, ix_gd (by omega) (by omega), iz_cn (by omega), hLE, ix3, ix_2, ix36, ix_s, ix_2]
  unfold JX9_draw_174 JX9_draw_228
  rw [ix_s]
  by_cases c1 : 3 * i + 2 < m
  · have C0 : CM (36 * k + 3 * i) = R (3 * i) := hCM _ (by omega)
    have C1 : CM (36 * k + 3 * i + 1) = R (3 * i + 1) := hCM (3 * i + 1) (by omega)
    have C2 : CM (36 * k + 3 * i + 2) = R (3 * i + 2) := hCM (3 * i + 2) (by omega)
    rw [if_pos ((ix_lt (by omega) (by omega)).mpr c1), ix_gd (by omega) (by omega), iz_cn (by omega), ix_gd (by omega) (by omega), iz_cn (by omega), ix_gd (by omega) (by omega), iz_cn (by omega), C0, C1, C2, rin, rin, rin, bd_some, bd_some, bd_some]
    by_cases r1 : rl (R (3 * i))
    · rw [if_pos r1, if_neg n10]
      by_cases r2 : rl (R (3 * i + 1))
      · rw [if_pos r2, if_neg n10]
        by_cases r3 : rl (R (3 * i + 2))
        · rw [if_pos r3, if_neg n10]
          by_cases c3 : d + i < 12
          · have e : rf d m R i = 0 := by unfold rf; rw [if_pos c1, if_pos ⟨r1, r2, r3⟩, if_pos c3]
            rw [if_pos e, if_neg (by rw [show (12 : Int32) = iz 12 from rfl, iz_eq (by omega) (by omega) (by omega) (by omega)]; omega), rput_i c3, bd_some]
          · have e : rf d m R i = -3 := by unfold rf; rw [if_pos c1, if_pos ⟨r1, r2, r3⟩, if_neg c3]
            rw [e, if_neg (show ¬ ((-3 : Int32) = 0) by decide), if_pos (by rw [show (12 : Int32) = iz 12 from rfl, iz_eq (by omega) (by omega) (by omega) (by omega)]; omega)]
        · have e : rf d m R i = -1 := by unfold rf; rw [if_pos c1, if_neg (fun q => r3 q.2.2)]
          rw [if_neg r3, if_pos rfl, e, if_neg (by decide)]
      · have e : rf d m R i = -1 := by unfold rf; rw [if_pos c1, if_neg (fun q => r2 q.2.1)]
        rw [if_neg r2, if_pos rfl, e, if_neg (by decide)]
    · have e : rf d m R i = -1 := by unfold rf; rw [if_pos c1, if_neg (fun q => r1 q.1)]
      rw [if_neg r1, if_pos rfl, e, if_neg (by decide)]
  · have e : rf d m R i = -12 := by unfold rf; rw [if_neg c1]
    rw [if_neg (fun q => c1 ((ix_lt (by omega) (by omega)).mp q)), e, if_neg (by decide)]
theorem rend {a5 : Int32} (h : a5 = -3 ∨ a5 = -1 ∨ a5 = -12) (fu : Nat) (a1 a3 a4 a6 dr : Int32) (DR : Nat → Int32) : LX9_draw_69 LA LE CM (fu + 1) a1 a3 a4 a5 a6 dr DR = some (a5, a4, DR) := by
  have e : JX9_draw_234 LA LE CM a4 a5 dr DR = some (a5, a4, DR) := by
    unfold JX9_draw_234 JX9_draw_249
    have : ¬ (0 : Int32) ≤ a5 := by rcases h with rfl | rfl | rfl <;> decide
    rw [if_neg this, if_neg this]
  have ne : ¬ a5 = 0 := by rcases h with rfl | rfl | rfl <;> decide
  rw [LX9_draw_69, e, if_neg ne, ite_self]
/-- a refusal: class -/
theorem c_fail (hd : d ≤ 12) (hm : m ≤ 36) {n : Int} (hn : n < 2147483648) {j : Nat} (hj : (j : Int) < n) (hj2 : j ≤ 12) (hz : ∀ i, i < j → rf d m R i = 0) (hne : rf d m R j ≠ 0) (la : Int32) (X Y Z : Nat → Int32) : ∀ (q fuel i : Nat), i + q = j → q < fuel → LX8_draw_55 la (iz (m : Int)) R fuel (iz n) (iz (i : Int)) (iz (d : Int)) X Y Z = some (rf d m R j, iz (d : Int), X, Y, Z) := by
  intro q
  induction q with
  | zero =>
    intro fuel i h1 h2
    obtain ⟨fuel, rfl⟩ : ∃ q, fuel = q + 1 := ⟨fuel - 1, by omega⟩
    obtain rfl : i = j := by omega
    rw [LX8_draw_55, if_neg (by rw [iz_le (by omega) (by omega) (by omega) (by omega)]; omega), refusal_i hd hm hj2, bd_some, if_neg hne]
  | succ q ih =>
    intro fuel i h1 h2
    obtain ⟨fuel, rfl⟩ : ∃ q, fuel = q + 1 := ⟨fuel - 1, by omega⟩
    rw [LX8_draw_55, if_neg (by rw [iz_le (by omega) (by omega) (by omega) (by omega)]; omega), refusal_i hd hm (by omega), bd_some, if_pos (hz i (by omega)), ix_s]
    exact ih fuel (i + 1) (by omega) (by omega)
theorem c_pass (hd : d ≤ 12) (hm : m ≤ 36) {n : Nat} (hn : n ≤ 12) (hz : ∀ i, i < n → rf d m R i = 0) (la : Int32) (X Y Z : Nat → Int32) : ∀ (q fuel i : Nat), i + q = n → q < fuel → LX8_draw_55 la (iz (m : Int)) R fuel (iz (n : Int)) (iz (i : Int)) (iz (d : Int)) X Y Z = LX8_draw_88 la (iz (m : Int)) R FU (iz (n : Int)) (iz ((0 : Nat) : Int)) (iz (d : Int)) X Y Z := by
  intro q
  induction q with
  | zero =>
    intro fuel i h1 h2
    obtain ⟨fuel, rfl⟩ : ∃ q, fuel = q + 1 := ⟨fuel - 1, by omega⟩
    rw [LX8_draw_55, if_pos ((ix_le (by omega) (by omega)).mpr (by omega))]
    rfl
  | succ q ih =>
    intro fuel i h1 h2
    obtain ⟨fuel, rfl⟩ : ∃ q, fuel = q + 1 := ⟨fuel - 1, by omega⟩
    rw [LX8_draw_55, if_neg (fun q => by have := (ix_le (by omega) (by omega)).mp q; omega), refusal_i hd hm (by omega), bd_some, if_pos (hz i (by omega)), ix_s]
    exact ih fuel (i + 1) (by omega) (by omega)
theorem r_fail (hk : k < 4) (hLE : LE k = iz (m : Int)) (hm : m ≤ 36) (hCM : ∀ i, i < 36 → CM (36 * k + i) = R i) (hd : d ≤ 12) {n : Int} (hn : n < 2147483648) {j : Nat} (hj : (j : Int) < n) (hz : ∀ i, i < j → rf d m R i = 0) (hne : rf d m R j ≠ 0) (hdj : d + j ≤ 12) : ∀ (q fuel i : Nat) (DR : Nat → Int32), i + q = j → q + 1 < fuel → ∃ DR', LX9_draw_69 LA LE CM fuel (iz (k : Int)) (iz n) (iz (d : Int)) 0 (iz (i : Int)) (iz ((d + i : Nat) : Int)) DR = some (rf d m R j, iz (d : Int), DR') ∧ ∀ x, x < 3 * d → DR' x = DR x := by
  intro q
  induction q with
  | zero =>
    intro fuel i DR h1 h2
    obtain ⟨fuel, rfl⟩ : ∃ q, fuel = q + 1 + 1 := ⟨fuel - 2, by omega⟩
    obtain rfl : i = j := by omega
    rw [rstep hk hLE hm hCM hn hj (by omega) hdj, if_neg hne, rend ((rf_c i).resolve_left hne)]
    exact ⟨_, rfl, fun _ _ => rfl⟩
  | succ q ih =>
    intro fuel i DR h1 h2
    obtain ⟨fuel, rfl⟩ : ∃ q, fuel = q + 1 := ⟨fuel - 1, by omega⟩
    rw [rstep hk hLE hm hCM hn (by omega) (by omega) (by omega), if_pos (hz i (by omega))]
    obtain ⟨DR', q1, q2⟩ := ih fuel (i + 1) (up3 DR (d + i) (R (3 * i)).toInt32 (R (3 * i + 1)).toInt32 (R (3 * i + 2)).toInt32) (by omega) (by omega)
    refine ⟨DR', q1, fun x hx => ?_⟩
    rw [q2 x hx]
    unfold up3 upd
    rw [if_neg (by omega), if_neg (by omega), if_neg (by omega)]
theorem b_pass (hk : k < 4) (hLE : LE k = iz (m : Int)) (hm : m ≤ 36) (hCM : ∀ i, i < 36 → CM (36 * k + i) = R i) {n : Nat} (hn : d + n ≤ 12) (hz : ∀ i, i < n → rf d m R i = 0) (la : Int32) : ∀ (q fuel fuel' i : Nat) (X Y Z DR : Nat → Int32), i + q = n → q < fuel → q < fuel' → DRel (iz ((d + i : Nat) : Int)) X Y Z DR → ∃ X' Y' Z' DR', LX8_draw_88 la (iz (m : Int)) R fuel (iz (n : Int)) (iz (i : Int)) (iz ((d + i : Nat) : Int)) X Y Z = some (iz ((d + n : Nat) : Int), iz ((d + n : Nat) : Int), X', Y', Z') ∧ LX9_draw_69 LA LE CM fuel' (iz (k : Int)) (iz (n : Int)) (iz (d : Int)) 0 (iz (i : Int)) (iz ((d + i : Nat) : Int)) DR = some (iz ((d + n : Nat) : Int), iz ((d + n : Nat) : Int), DR') ∧ DRel (iz ((d + n : Nat) : Int)) X' Y' Z' DR' := by
  intro q
  induction q with
  | zero =>
    intro fuel fuel' i X Y Z DR h1 h2 h3 h
    obtain ⟨fuel, rfl⟩ : ∃ q, fuel = q + 1 := ⟨fuel - 1, by omega⟩
    obtain ⟨fuel', rfl⟩ : ∃ q, fuel' = q + 1 := ⟨fuel' - 1, by omega⟩
    obtain rfl : i = n := by omega
    refine ⟨X, Y, Z, DR, ?_, ?_, h⟩
    · rw [LX8_draw_88, if_pos ((ix_le (by omega) (by omega)).mpr (by omega))]
    · rw [LX9_draw_69, if_pos ((ix_le (by omega) (by omega)).mpr (by omega))]
      rfl
  | succ q ih =>
    intro fuel fuel' i X Y Z DR h1 h2 h3 h
    obtain ⟨fuel, rfl⟩ : ∃ q, fuel = q + 1 := ⟨fuel - 1, by omega⟩
    obtain ⟨fuel', rfl⟩ : ∃ q, fuel' = q + 1 := ⟨fuel' - 1, by omega⟩
    have z := hz i (by omega)
    obtain ⟨z1', ⟨zx, zy, zz⟩, z3'⟩ := rf_0 z
    rw [rstep hk hLE hm hCM (by omega) (by omega) (by omega) (by omega), if_pos z, LX8_draw_88, if_neg (fun q => by have := (ix_le (by omega) (by omega)).mp q; omega), ix3, ix_s, ix_s, ix_2, cell_i hm R (by omega), bd_some, cell_i hm R (by omega), bd_some, cell_i hm R (by omega), bd_some, put_ok (by omega), bd_some]
    exact ih fuel fuel' (i + 1) _ _ _ _ (by omega) (by omega) (by omega) (DRel_up (by omega) h (rl_32 zx) (rl_32 zy) (rl_32 zz))
end
theorem c_draw {ds : Int32} {DX DY DZ DR : Nat → Int32} (hD : DRel ds DX DY DZ DR) {la si : Nat → Int32} {CE : Nat → Nat → Int64} {LA LE : Nat → Int32} {CM : Nat → Int64} (hS : SRel la si CE LA LE CM) (p1 p2 p3 : Int32) : ∃ (r ds' : Int32) (DX' DY' DZ' DR' : Nat → Int32), fX8_draw ds DX DY DZ (la (shI p1.toNatClampNeg)) (si (shI p1.toNatClampNeg)) (CE (shI p1.toNatClampNeg)) p1 p2 p3 = some (r, ds', DX', DY', DZ') ∧ fX9_draw ds DR LA LE CM p1 p2 p3 = some (r, ds', DR') ∧ DRel ds' DX' DY' DZ' DR' := by
  unfold fX8_draw fX9_draw
  rw [isSheaf_i, in_i, i64_i, isLane_i, in_i, i64_i, bd_some, bd_some, bd_some, bd_some, show (0 : Int64).toInt = 0 from rfl, show (3 : Int64).toInt = 3 from rfl, show (1 : Int64).toInt = 1 from rfl]
  by_cases c1 : 0 ≤ p1.toInt ∧ p1.toInt ≤ 3
  · rw [if_pos c1, if_neg n10, if_neg n10]
    by_cases c2 : 0 ≤ p2.toInt ∧ p2.toInt ≤ 1
    · rw [if_pos c2, if_neg n10, if_neg n10]
      by_cases c3 : 0 ≤ p3
      · rw [if_pos c3, if_pos c3, gd_ok c1.1 (by omega), gd_ok c1.1 (by omega)]
        obtain ⟨s1, s2⟩ := shI_i c1
        obtain ⟨q1, q2, q3, q4, q5⟩ := hS _ s2
        rw [s1, show p1.toNatClampNeg = p1.toInt.toNat from rfl]
        rcases q1 with ⟨g1, g2⟩ | ⟨g1, g2⟩
        · have ne : ¬ LA p1.toInt.toNat = p2 := by rw [g2]; rcases lane_c c2 with e | e <;> rw [e] <;> decide
          rw [if_pos g1, if_neg ne, if_pos g2]
          exact ⟨_, _, _, _, _, _, rfl, rfl, hD⟩
        · have n1 : ¬ la p1.toInt.toNat = -1 := by rcases g2 with g2 | g2 <;> rw [g2] <;> decide
          have n2 : ¬ LA p1.toInt.toNat = -4 := by rw [g1]; rcases g2 with g2 | g2 <;> rw [g2] <;> decide
          rw [if_neg n1, if_neg n2, g1]
          by_cases c4 : la p1.toInt.toNat = p2
          · rw [if_pos c4, if_pos c4]
            -- the loops
            have e1 : p1 = iz ((p1.toInt.toNat : Nat) : Int) := by rw [show ((p1.toInt.toNat : Nat) : Int) = p1.toInt by omega, iz_t]
            have e2 : si p1.toInt.toNat = iz (((si p1.toInt.toNat).toInt.toNat : Nat) : Int) := by rw [show (((si p1.toInt.toNat).toInt.toNat : Nat) : Int) = (si p1.toInt.toNat).toInt by omega, iz_t]
            have e3 : ds = iz ((ds.toInt.toNat : Nat) : Int) := by
              have := hD.1
              rw [show ((ds.toInt.toNat : Nat) : Int) = ds.toInt by omega, iz_t]
            have e4 : p3 = iz ((p3.toInt.toNat : Nat) : Int) := by
              have := le_i.mp c3
              rw [show (0 : Int32).toInt = 0 from rfl] at this
              rw [show ((p3.toInt.toNat : Nat) : Int) = p3.toInt by omega, iz_t]
            have r3 := rng_i p3
            have d12 : ds.toInt.toNat ≤ 12 := by have := hD.2.1; omega
            have m36 : (si p1.toInt.toNat).toInt.toNat ≤ 36 := by omega
            have n31 : p3.toInt.toNat < 2147483648 := by omega
            rw [e2] at q2 ⊢
            rw [e3] at hD ⊢
            rw [e4, e1]
            rw [← e1]
            generalize ds.toInt.toNat = d at *
            generalize (si p1.toInt.toNat).toInt.toNat = m at *
            generalize p3.toInt.toNat = n at *
            have e5 : p1 = iz ((p1.toInt.toNat : Nat) : Int) := e1
            generalize p1.toInt.toNat = k at *
            generalize CE k = R at *
            rw [e5, y0]
            by_cases all : ∀ i, i < n → rf d m R i = 0
            · have n12 : d + n ≤ 12 := by
                refine Classical.byContradiction fun hc => ?_
                have := (rf_0 (all (12 - d) (by omega))).2.2
                omega
              rw [c_pass d12 m36 (by omega) all _ DX DY DZ n FU 0 (by omega) (by unfold FU; omega)]
              obtain ⟨X', Y', Z', DR', k1, k2, k3⟩ := b_pass (LA := LA) (LE := LE) (CM := CM) s2 q2 m36 q5 n12 all (la k) n FU FU 0 DX DY DZ DR (by omega) (by unfold FU; omega) (by unfold FU; omega) hD
              exact ⟨_, _, X', Y', Z', DR', k1, k2, k3⟩
            · have ex : ∃ j, j < n ∧ rf d m R j ≠ 0 ∧ ∀ i, i < j → rf d m R i = 0 := by
                have st : ∀ t, (∃ j, j < t ∧ rf d m R j ≠ 0) → ∃ j, j < t ∧ rf d m R j ≠ 0 ∧ ∀ i, i < j → rf d m R i = 0 := by
                  intro t
                  induction t with
                  | zero => rintro ⟨j, hj, _⟩; omega
                  | succ t ih =>
                    rintro ⟨j, hj, hne⟩
                    by_cases c : ∃ j, j < t ∧ rf d m R j ≠ 0
                    · obtain ⟨j', h1, h2, h3⟩ := ih c
                      exact ⟨j', by omega, h2, h3⟩
                    · have : j = t := Classical.byContradiction fun h => c ⟨j, by omega, hne⟩
                      subst this
                      exact ⟨j, hj, hne, fun i hi => Classical.byContradiction fun h => c ⟨i, hi, h⟩⟩
                refine st n (Classical.byContradiction fun h => all fun i hi => Classical.byContradiction fun h2 => h ⟨i, hi, h2⟩)
              obtain ⟨j, hj, hne, hz⟩ := ex
              have dj : d + j ≤ 12 := by
                refine Classical.byContradiction fun hc => ?_
                have := (rf_0 (hz (12 - d) (by omega))).2.2
                omega
              rw [c_fail d12 m36 (n := (n : Int)) (by omega) (by omega) (by omega) hz hne _ DX DY DZ j FU 0 (by omega) (by unfold FU; omega)]
              obtain ⟨DR', k1, k2⟩ := r_fail (LA := LA) (LE := LE) (CM := CM) s2 q2 m36 q5 d12 (n := (n : Int)) (by omega) (by omega) hz hne dj j FU 0 DR (by omega) (by unfold FU; omega)
              refine ⟨_, _, DX, DY, DZ, DR', rfl, k1, ?_⟩
              rw [DRel_i d12] at hD ⊢
              intro x hx
              rw [k2 _ (by omega), k2 _ (by omega), k2 _ (by omega)]
              exact hD x hx
          · rw [if_neg c4, if_neg c4]
            exact ⟨_, _, _, _, _, _, rfl, rfl, hD⟩
      · rw [if_neg c3, if_neg c3]
        exact ⟨_, _, _, _, _, _, rfl, rfl, hD⟩
    · rw [if_neg c2, if_pos rfl, if_pos rfl]
      exact ⟨_, _, _, _, _, _, rfl, rfl, hD⟩
  · rw [if_neg c1, if_pos rfl, if_pos rfl]
    exact ⟨_, _, _, _, _, _, rfl, rfl, hD⟩
