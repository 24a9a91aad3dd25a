/-! about -/
section
variable {f : Nat} {N : V3} {cs : Nat} {c : Nat → V3} {ss : Nat} {s : Nat → V3} {e : Nat → Int} {bd' : Nat → V3} {be L G : Nat → Int} {b bc : Nat} {FI CO CR SI' SR BO MO : Nat → Int32}
theorem least_i (hcs : cs ≤ 40) (hcs1 : 1 ≤ cs) (hcr : ∀ i, i < cs → rc3 (c i)) (hb8 : b < 8) (r2 : CO b = iz (cs : Int)) (r3 : RC CR b cs c) {w : Nat} (hw : w < 3) {m : Int} (hm : IsMn cs c w m) : fX9_least CO CR (iz (b : Int)) (iz (w : Int)) = some (iz m) := by
  have loop : ∀ (n fuel k : Nat) (v : Int), k + n = cs → n < fuel → -5 ≤ v → v ≤ 1000 → (∀ j, j < k → v ≤ co (c j) w) → (1 ≤ k → ∃ j, j < k ∧ co (c j) w = v) → (k = 0 → v = 1000) → LX9_least_7 CO CR fuel (iz (b : Int)) (iz (w : Int)) (iz v) (iz (k : Int)) = some (iz m) := by
    intro n
    induction n with
    | zero =>
      intro fuel k v k1 k2 l1 l2 i1 i2 i3
      obtain ⟨fuel, rfl⟩ : ∃ q, fuel = q + 1 := ⟨fuel - 1, by omega⟩
      have ek : k = cs := by omega
      subst ek
      obtain ⟨j, hj, ej⟩ := i2 hcs1
      obtain ⟨a1, j', hj', ej'⟩ := hm
      have := a1 j hj
      have := i1 j' hj'
      have : v = m := by omega
      rw [LX9_least_7, ix_gd (by omega) (by omega), iz_cn (by omega), r2, if_pos ((ix_le (by omega) (by omega)).mpr (Nat.le_refl _)), this]
    | succ n ih =>
      intro fuel k v k1 k2 l1 l2 i1 i2 i3
      obtain ⟨fuel, rfl⟩ : ∃ q, fuel = q + 1 := ⟨fuel - 1, by omega⟩
      have hk := RC_k r3 (k := 3 * k + w) (by omega)
      rw [show (3 * k + w) / 3 = k by omega, show (3 * k + w) % 3 = w by omega, ← Nat.add_assoc] at hk
      have hb' := co_bd (hcr k (by omega)) w
      rw [LX9_least_7, ix_gd (by omega) (by omega), iz_cn (by omega), r2, if_neg (fun h => by have := (ix_le (by omega) (by omega)).mp h; omega), y120, ix_m, y3, ix_m, ix_a, ix_a, ix_gd (by omega) (by omega), iz_cn (by omega), hk]
      unfold cut JX9_least_48
      dsimp only
      rw [ix_s]
      by_cases cc : v ≤ co (c k) w
      · rw [if_pos (by rw [iz_le (by omega) (by omega) (by omega) (by omega)]; exact cc)]
        by_cases c0 : k = 0
        · have := i3 c0; omega
        · obtain ⟨j, hj, ej⟩ := i2 (by omega)
          refine ih fuel (k + 1) v (by omega) (by omega) l1 l2 (fun j hj => ?_) (fun _ => ⟨j, by omega, ej⟩) (fun h => by omega)
          by_cases cj : j = k
          · rw [cj]; exact cc
          · exact i1 j (by omega)
      · rw [if_neg (by rw [iz_le (by omega) (by omega) (by omega) (by omega)]; exact cc)]
        refine ih fuel (k + 1) _ (by omega) (by omega) (by omega) (by omega) (fun j hj => ?_) (fun _ => ⟨k, by omega, rfl⟩) (fun h => by omega)
        by_cases cj : j = k
        · rw [cj]; exact Int.le_refl _
        · have := i1 j (by omega); omega
  unfold fX9_least
  rw [show (1000 : Int32) = iz 1000 from rfl, y0]
  exact loop cs FU 0 1000 (by omega) (by unfold FU; omega) (by omega) (by omega) (fun j hj => by omega) (fun h => by omega) (fun _ => rfl)
theorem greatest_i (hcs : cs ≤ 40) (hcs1 : 1 ≤ cs) (hcr : ∀ i, i < cs → rc3 (c i)) (hb8 : b < 8) (r2 : CO b = iz (cs : Int)) (r3 : RC CR b cs c) {w : Nat} (hw : w < 3) {m : Int} (hm : IsMx cs c w m) : fX9_greatest CO CR (iz (b : Int)) (iz (w : Int)) = some (iz m) := by
  have loop : ∀ (n fuel k : Nat) (v : Int), k + n = cs → n < fuel → -1000 ≤ v → v ≤ 5 → (∀ j, j < k → co (c j) w ≤ v) → (1 ≤ k → ∃ j, j < k ∧ co (c j) w = v) → (k = 0 → v = -1000) → LX9_greatest_7 CO CR fuel (iz (b : Int)) (iz (w : Int)) (iz v) (iz (k : Int)) = some (iz m) := by
    intro n
    induction n with
    | zero =>
      intro fuel k v k1 k2 l1 l2 i1 i2 i3
      obtain ⟨fuel, rfl⟩ : ∃ q, fuel = q + 1 := ⟨fuel - 1, by omega⟩
      have ek : k = cs := by omega
      subst ek
      obtain ⟨j, hj, ej⟩ := i2 hcs1
      obtain ⟨a1, j', hj', ej'⟩ := hm
      have := a1 j hj
      have := i1 j' hj'
      have : v = m := by omega
      rw [LX9_greatest_7, ix_gd (by omega) (by omega), iz_cn (by omega), r2, if_pos ((ix_le (by omega) (by omega)).mpr (Nat.le_refl _)), this]
    | succ n ih =>
      intro fuel k v k1 k2 l1 l2 i1 i2 i3
      obtain ⟨fuel, rfl⟩ : ∃ q, fuel = q + 1 := ⟨fuel - 1, by omega⟩
      have hk := RC_k r3 (k := 3 * k + w) (by omega)
      rw [show (3 * k + w) / 3 = k by omega, show (3 * k + w) % 3 = w by omega, ← Nat.add_assoc] at hk
      have hb' := co_bd (hcr k (by omega)) w
      rw [LX9_greatest_7, ix_gd (by omega) (by omega), iz_cn (by omega), r2, if_neg (fun h => by have := (ix_le (by omega) (by omega)).mp h; omega), y120, ix_m, y3, ix_m, ix_a, ix_a, ix_gd (by omega) (by omega), iz_cn (by omega), hk]
      unfold cut JX9_greatest_48
      dsimp only
      rw [ix_s]
      by_cases cc : co (c k) w ≤ v
      · rw [if_pos (by rw [iz_le (by omega) (by omega) (by omega) (by omega)]; exact cc)]
        by_cases c0 : k = 0
        · have := i3 c0; omega
        · obtain ⟨j, hj, ej⟩ := i2 (by omega)
          refine ih fuel (k + 1) v (by omega) (by omega) l1 l2 (fun j hj => ?_) (fun _ => ⟨j, by omega, ej⟩) (fun h => by omega)
          by_cases cj : j = k
          · rw [cj]; exact cc
          · exact i1 j (by omega)
      · rw [if_neg (by rw [iz_le (by omega) (by omega) (by omega) (by omega)]; exact cc)]
        refine ih fuel (k + 1) _ (by omega) (by omega) (by omega) (by omega) (fun j hj => ?_) (fun _ => ⟨k, by omega, rfl⟩) (fun h => by omega)
        by_cases cj : j = k
        · rw [cj]; exact Int.le_refl _
        · have := i1 j (by omega); omega
  unfold fX9_greatest
  rw [show (-1000 : Int32) = iz (-1000) from by decide, y0]
  exact loop cs FU 0 (-1000) (by omega) (by unfold FU; omega) (by omega) (by omega) (fun j hj => by omega) (fun h => by omega) (fun _ => rfl)
end
def due (L G : Nat → Int) : Nat → Int
  | 0 => 1
  | w + 1 => due L G w * (if L w < G w then 2 else 1)
theorem due_rng (L G : Nat → Int) : ∀ w, w ≤ 3 → 1 ≤ due L G w ∧ due L G w ≤ 2 ^ w := by
  intro w
  induction w with
  | zero => intro _; show (1 : Int) ≤ 1 ∧ (1 : Int) ≤ 2 ^ 0; decide
  | succ w ih =>
    intro hw
    obtain ⟨h1, h2⟩ := ih (by omega)
    rw [due, Int.pow_succ]
    split <;> omega
def BrP (cs : Nat) (c : Nat → V3) (L G : Nat → Int) : Prop := (∀ w, w < 3 → ∀ i, i < cs → co (c i) w = L w ∨ co (c i) w = G w) ∧ (cs : Int) = due L G 3
section
variable {f : Nat} {N : V3} {cs : Nat} {c : Nat → V3} {ss : Nat} {s : Nat → V3} {e : Nat → Int} {bd' : Nat → V3} {be L G : Nat → Int} {b bc : Nat} {FI CO CR SI' SR BO MO : Nat → Int32}
theorem LG_bd (hcr : ∀ i, i < cs → rc3 (c i)) (hLG : ∀ w, w < 3 → IsMn cs c w (L w) ∧ IsMx cs c w (G w)) {w : Nat} (hw : w < 3) : -5 ≤ L w ∧ L w ≤ G w ∧ G w ≤ 5 := by
  obtain ⟨⟨a1, j, hj, ej⟩, b1, j', hj', ej'⟩ := hLG w hw
  have h1 := co_bd (hcr j hj) w
  have h2 := co_bd (hcr j' hj') w
  have h3 := a1 j' hj'
  omega
theorem brickC (hcs : cs ≤ 40) (hcs1 : 1 ≤ cs) (hcr : ∀ i, i < cs → rc3 (c i)) (hLG : ∀ w, w < 3 → IsMn cs c w (L w) ∧ IsMx cs c w (G w)) : ∃ r : Int, fX0_isBrick cs (iz (cs : Int)) (px c) (py c) (pz c) (pe L) (pe G) = some (iz r) ∧ (r = 0 ∨ r = 1) ∧ (r = 1 ↔ BrP cs c L G) := by
  have inn : ∀ (K : Int32 → Int32 → Option Int32) (d : Int32) (w : Nat), w < 3 → ∀ (n fuel k : Nat), k + n = cs → n < fuel → ((∀ i, k ≤ i → i < cs → co (c i) w = L w ∨ co (c i) w = G w) → LX0_isBrick_34 cs (iz (cs : Int)) (px c) (py c) (pz c) (pe L) (pe G) K fuel d (iz (w : Int)) (iz (k : Int)) = K d (iz (w : Int))) ∧ (¬ (∀ i, k ≤ i → i < cs → co (c i) w = L w ∨ co (c i) w = G w) → LX0_isBrick_34 cs (iz (cs : Int)) (px c) (py c) (pz c) (pe L) (pe G) K fuel d (iz (w : Int)) (iz (k : Int)) = some 0) := by
    intro K d w hw n
    have lg := LG_bd hcr hLG hw
    induction n with
    | zero =>
      intro fuel k k1 k2
      obtain ⟨fuel, rfl⟩ : ∃ q, fuel = q + 1 := ⟨fuel - 1, by omega⟩
      refine ⟨fun _ => ?_, fun h => (h (fun i h1 h2 => by omega)).elim⟩
      rw [LX0_isBrick_34, if_pos ((ix_le (by omega) (by omega)).mpr (by omega))]
    | succ n ih =>
      intro fuel k k1 k2
      obtain ⟨fuel, rfl⟩ : ∃ q, fuel = q + 1 := ⟨fuel - 1, by omega⟩
      obtain ⟨i1, i2⟩ := ih fuel (k + 1) (by omega) (by omega)
      have hb' := co_bd (hcr k (by omega)) w
      rw [LX0_isBrick_34, if_neg (fun h => by have := (ix_le (by omega) (by omega)).mp h; omega), part_i (by omega) (Nat.le_refl _) (by omega) hw, bd_some, ix_gd hw (by omega), iz_cn (by omega), pe_i, pe_i]
      unfold JX0_isBrick_80
      rw [ix_s]
      simp only [iz_eq (a := co (c k) w) (b := L w) (by omega) (by omega) (by omega) (by omega), iz_eq (a := co (c k) w) (b := G w) (by omega) (by omega) (by omega) (by omega)]
      have ex : (∀ i, k ≤ i → i < cs → co (c i) w = L w ∨ co (c i) w = G w) ↔ (co (c k) w = L w ∨ co (c k) w = G w) ∧ ∀ i, k + 1 ≤ i → i < cs → co (c i) w = L w ∨ co (c i) w = G w := by
        constructor
        · intro h
          exact ⟨h k (Nat.le_refl _) (by omega), fun i h1 h2 => h i (by omega) h2⟩
        · rintro ⟨h1, h2⟩ i h3 h4
          by_cases ci : i = k
          · rw [ci]; exact h1
          · exact h2 i (by omega) h4
      rw [ex]
      by_cases c1 : co (c k) w = L w
      · rw [if_pos c1]
        exact ⟨fun h => i1 h.2, fun h => i2 (fun h2 => h ⟨Or.inl c1, h2⟩)⟩
      · rw [if_neg c1]
        by_cases c2 : co (c k) w = G w
        · rw [if_pos c2]
          exact ⟨fun h => i1 h.2, fun h => i2 (fun h2 => h ⟨Or.inr c2, h2⟩)⟩
        · rw [if_neg c2]
          exact ⟨fun h => by rcases h.1 with q | q; exact (c1 q).elim; exact (c2 q).elim, fun _ => rfl⟩
  have out : ∀ (n fuel w : Nat), w + n = 3 → n < fuel → (∀ w', w' < w → ∀ i, i < cs → co (c i) w' = L w' ∨ co (c i) w' = G w') → ∃ r : Int, LX0_isBrick_4 cs (iz (cs : Int)) (px c) (py c) (pz c) (pe L) (pe G) fuel (iz (due L G w)) (iz (w : Int)) = some (iz r) ∧ (r = 0 ∨ r = 1) ∧ (r = 1 ↔ BrP cs c L G) := by
    intro n
    induction n with
    | zero =>
      intro fuel w k1 k2 inv
      obtain ⟨fuel, rfl⟩ : ∃ q, fuel = q + 1 := ⟨fuel - 1, by omega⟩
      have ew : w = 3 := by omega
      subst ew
      have dr := due_rng L G 3 (by omega)
      rw [LX0_isBrick_4, if_pos (by decide)]
      by_cases cc : (cs : Int) = due L G 3
      · rw [if_pos (by rw [cc])]
        exact ⟨1, rfl, Or.inr rfl, fun _ => ⟨inv, cc⟩, fun _ => rfl⟩
      · rw [if_neg (by rw [iz_eq (by omega) (by omega) (by omega) (by omega)]; exact cc)]
        exact ⟨0, rfl, Or.inl rfl, by omega, fun h => (cc h.2).elim⟩
    | succ n ih =>
      intro fuel w k1 k2 inv
      obtain ⟨fuel, rfl⟩ : ∃ q, fuel = q + 1 := ⟨fuel - 1, by omega⟩
      have lg := LG_bd hcr hLG (show w < 3 by omega)
      obtain ⟨i1, i2⟩ := inn (fun a1 a2 => (LX0_isBrick_4 cs (iz (cs : Int)) (px c) (py c) (pz c) (pe L) (pe G) fuel) a1 (a2 + 1)) (iz (due L G (w + 1))) w (by omega) cs FU 0 (by omega) (by unfold FU; omega)
      have key : ∃ r : Int, LX0_isBrick_34 cs (iz (cs : Int)) (px c) (py c) (pz c) (pe L) (pe G) (fun a1 a2 => (LX0_isBrick_4 cs (iz (cs : Int)) (px c) (py c) (pz c) (pe L) (pe G) fuel) a1 (a2 + 1)) FU (iz (due L G (w + 1))) (iz (w : Int)) 0 = some (iz r) ∧ (r = 0 ∨ r = 1) ∧ (r = 1 ↔ BrP cs c L G) := by
        by_cases cc : ∀ i, 0 ≤ i → i < cs → co (c i) w = L w ∨ co (c i) w = G w
        · obtain ⟨r, q1, q2, q3⟩ := ih fuel (w + 1) (by omega) (by omega) (fun w' hw' i hi => by
            by_cases cw : w' = w
            · rw [cw]; exact cc i (Nat.zero_le _) hi
            · exact inv w' (by omega) i hi)
          refine ⟨r, ?_, q2, q3⟩
          rw [y0]
          refine (i1 cc).trans ?_
          rw [ix_s]
          exact q1
        · refine ⟨0, ?_, Or.inl rfl, by omega, fun h => (cc (fun i _ hi => h.1 w (by omega) i hi)).elim⟩
          rw [y0]
          exact (i2 cc).trans rfl
      rw [LX0_isBrick_4, if_neg (by rw [z3, iz_le (by omega) (by omega) (by omega) (by omega)]; omega), ix_gd (by omega) (by omega), iz_cn (by omega), pe_i, pe_i]
      unfold JX0_isBrick_30
      rw [due] at key
      by_cases cg : L w < G w
      · rw [if_neg (by rw [iz_le (by omega) (by omega) (by omega) (by omega)]; omega), z2, iz_mul]
        rw [if_pos cg] at key
        exact key
      · rw [if_pos (by rw [iz_le (by omega) (by omega) (by omega) (by omega)]; omega), z1, iz_mul]
        rw [if_neg cg] at key
        exact key
  unfold fX0_isBrick
  exact out 3 FU 0 (by omega) (by decide) (fun w' hw' => by omega)
theorem brickR (hcs : cs ≤ 40) (hcs1 : 1 ≤ cs) (hcr : ∀ i, i < cs → rc3 (c i)) (hLG : ∀ w, w < 3 → IsMn cs c w (L w) ∧ IsMx cs c w (G w)) (hb8 : b < 8) (r2 : CO b = iz (cs : Int)) (r3 : RC CR b cs c) : ∃ r : Int, fX9_isBrick CO CR (iz (b : Int)) = some (iz r) ∧ (r = 0 ∨ r = 1) ∧ (r = 1 ↔ BrP cs c L G) := by
  have inn : ∀ (n fuel k : Nat) (t : Int), k + n = 3 * cs → n < fuel → (t = 0 ∨ t = 1) → (t = 1 ↔ (cs : Int) = due L G 3 ∧ ∀ j, j < k → co (c (j / 3)) (j % 3) = L (j % 3) ∨ co (c (j / 3)) (j % 3) = G (j % 3)) → ∃ r : Int, LX9_isBrick_57 CO CR fuel (iz (b : Int)) (iz t) (iz (k : Int)) = some (iz r) ∧ (r = 0 ∨ r = 1) ∧ (r = 1 ↔ BrP cs c L G) := by
    intro n
    induction n with
    | zero =>
      intro fuel k t k1 k2 ht inv
      obtain ⟨fuel, rfl⟩ : ∃ q, fuel = q + 1 := ⟨fuel - 1, by omega⟩
      have ek : k = 3 * cs := by omega
      subst ek
      rw [LX9_isBrick_57, ix_gd (by omega) (by omega), iz_cn (by omega), r2, y3, ix_m, if_pos ((ix_le (by omega) (by omega)).mpr (Nat.le_refl _))]
      unfold gd_b
      rw [if_pos (by rcases ht with rfl | rfl; exact Or.inl rfl; exact Or.inr rfl)]
      refine ⟨t, rfl, ht, inv.trans ⟨fun h => ⟨fun w hw i hi => ?_, h.1⟩, fun h => ⟨h.2, fun j hj => h.1 (j % 3) (by omega) (j / 3) (by omega)⟩⟩⟩
      have := h.2 (3 * i + w) (by omega)
      rw [show (3 * i + w) / 3 = i by omega, show (3 * i + w) % 3 = w by omega] at this
      exact this
    | succ n ih =>
      intro fuel k t k1 k2 ht inv
      obtain ⟨fuel, rfl⟩ : ∃ q, fuel = q + 1 := ⟨fuel - 1, by omega⟩
      have hk := RC_k r3 (k := k) (by omega)
      have hb' := co_bd (hcr (k / 3) (by omega)) (k % 3)
      have lg := LG_bd hcr hLG (show k % 3 < 3 by omega)
      rw [LX9_isBrick_57, ix_gd (by omega) (by omega), iz_cn (by omega), r2, y3, ix_m, if_neg (fun h => by have := (ix_le (by omega) (by omega)).mp h; omega), y120, ix_m, ix_a, ix_gd (by omega) (by omega), ← y3, mod3_i (by omega), least_i hcs hcs1 hcr hb8 r2 r3 (show k % 3 < 3 by omega) (hLG _ (by omega)).1, greatest_i hcs hcs1 hcr hb8 r2 r3 (show k % 3 < 3 by omega) (hLG _ (by omega)).2, bd_some, bd_some, iz_cn (by omega), hk]
      unfold JX9_isBrick_120 JX9_isBrick_116 JX9_isBrick_121
      rw [ix_s]
      simp only [iz_eq (a := co (c (k / 3)) (k % 3)) (b := L (k % 3)) (by omega) (by omega) (by omega) (by omega), iz_eq (a := co (c (k / 3)) (k % 3)) (b := G (k % 3)) (by omega) (by omega) (by omega) (by omega)]
      have ex : (∀ j, j < k + 1 → co (c (j / 3)) (j % 3) = L (j % 3) ∨ co (c (j / 3)) (j % 3) = G (j % 3)) ↔ (∀ j, j < k → co (c (j / 3)) (j % 3) = L (j % 3) ∨ co (c (j / 3)) (j % 3) = G (j % 3)) ∧ (co (c (k / 3)) (k % 3) = L (k % 3) ∨ co (c (k / 3)) (k % 3) = G (k % 3)) := by
        constructor
        · intro h
          exact ⟨fun j hj => h j (by omega), h k (by omega)⟩
        · rintro ⟨h1, h2⟩ j hj
          by_cases cj : j = k
          · rw [cj]; exact h2
          · exact h1 j (by omega)
      have yes : t = 1 → (co (c (k / 3)) (k % 3) = L (k % 3) ∨ co (c (k / 3)) (k % 3) = G (k % 3)) → ∃ r : Int, LX9_isBrick_57 CO CR fuel (iz (b : Int)) (iz 1) (iz ((k + 1 : Nat) : Int)) = some (iz r) ∧ (r = 0 ∨ r = 1) ∧ (r = 1 ↔ BrP cs c L G) := fun h1 h2 => ih fuel (k + 1) 1 (by omega) (by omega) (Or.inr rfl) ⟨fun _ => ⟨(inv.mp h1).1, ex.mpr ⟨(inv.mp h1).2, h2⟩⟩, fun _ => rfl⟩
      have no : ¬ (t = 1 ∧ (co (c (k / 3)) (k % 3) = L (k % 3) ∨ co (c (k / 3)) (k % 3) = G (k % 3))) → ∃ r : Int, LX9_isBrick_57 CO CR fuel (iz (b : Int)) (iz 0) (iz ((k + 1 : Nat) : Int)) = some (iz r) ∧ (r = 0 ∨ r = 1) ∧ (r = 1 ↔ BrP cs c L G) := fun h1 => ih fuel (k + 1) 0 (by omega) (by omega) (Or.inl rfl) ⟨fun h => by omega, fun h => (h1 ⟨inv.mpr ⟨h.1, (ex.mp h.2).1⟩, (ex.mp h.2).2⟩).elim⟩
      rcases ht with rfl | rfl
      · rw [if_pos (show iz 0 = 0 from rfl)]
        exact no (fun h => by omega)
      · rw [if_neg (show ¬ iz 1 = 0 by decide)]
        by_cases c1 : co (c (k / 3)) (k % 3) = L (k % 3)
        · rw [if_pos c1]; exact yes rfl (Or.inl c1)
        · rw [if_neg c1]
          by_cases c2 : co (c (k / 3)) (k % 3) = G (k % 3)
          · rw [if_pos c2]; exact yes rfl (Or.inr c2)
          · rw [if_neg c2]; exact no (fun h => by rcases h.2 with q | q; exact c1 q; exact c2 q)
  have out : ∀ (n fuel w : Nat), w + n = 3 → n < fuel → ∃ r : Int, LX9_isBrick_4 CO CR fuel (iz (b : Int)) (iz (due L G w)) (iz (w : Int)) = some (iz r) ∧ (r = 0 ∨ r = 1) ∧ (r = 1 ↔ BrP cs c L G) := by
    intro n
    induction n with
    | zero =>
      intro fuel w k1 k2
      obtain ⟨fuel, rfl⟩ : ∃ q, fuel = q + 1 := ⟨fuel - 1, by omega⟩
      have ew : w = 3 := by omega
      subst ew
      have dr := due_rng L G 3 (by omega)
      rw [LX9_isBrick_4, if_pos (by decide), ix_gd (by omega) (by omega), iz_cn (by omega), r2]
      unfold JX9_isBrick_53
      by_cases cc : (cs : Int) = due L G 3
      · rw [if_pos (by rw [cc])]
        exact inn (3 * cs) FU 0 1 (by omega) (by unfold FU; omega) (Or.inr rfl) ⟨fun _ => ⟨cc, fun j hj => by omega⟩, fun _ => rfl⟩
      · rw [if_neg (by rw [iz_eq (by omega) (by omega) (by omega) (by omega)]; omega)]
        exact inn (3 * cs) FU 0 0 (by omega) (by unfold FU; omega) (Or.inl rfl) ⟨fun h => by omega, fun h => (cc h.1).elim⟩
    | succ n ih =>
      intro fuel w k1 k2
      obtain ⟨fuel, rfl⟩ : ∃ q, fuel = q + 1 := ⟨fuel - 1, by omega⟩
      have lg := LG_bd hcr hLG (show w < 3 by omega)
      have := ih fuel (w + 1) (by omega) (by omega)
      rw [due] at this
      rw [LX9_isBrick_4, if_neg (by rw [z3, iz_le (by omega) (by omega) (by omega) (by omega)]; omega), least_i hcs hcs1 hcr hb8 r2 r3 (show w < 3 by omega) (hLG _ (by omega)).1, greatest_i hcs hcs1 hcr hb8 r2 r3 (show w < 3 by omega) (hLG _ (by omega)).2, bd_some, bd_some]
      unfold JX9_isBrick_30
      rw [ix_s]
      by_cases cg : L w < G w
      · rw [if_neg (by rw [iz_eq (by omega) (by omega) (by omega) (by omega)]; omega), z2, iz_mul]
        rw [if_pos cg] at this
        exact this
      · rw [if_pos (show iz (L w) = iz (G w) by rw [show L w = G w by omega]), z1, iz_mul]
        rw [if_neg cg] at this
        exact this
  unfold fX9_isBrick
  exact out 3 FU 0 (by omega) (by decide)
theorem mirrorC (hcr : ∀ i, i < cs → rc3 (c i)) (hLG : ∀ w, w < 3 → IsMn cs c w (L w) ∧ IsMx cs c w (G w)) : ∃ r : Int, fX0_isMirror (pe L) (pe G) = some (iz r) ∧ (r = 0 ∨ r = 1) ∧ (r = 1 ↔ ∀ w, w < 3 → L w = - G w) := by
  have loop : ∀ (n fuel w : Nat), w + n = 3 → n < fuel → (∀ v, v < w → L v = - G v) → ∃ r : Int, LX0_isMirror_2 (pe L) (pe G) fuel (iz (w : Int)) = some (iz r) ∧ (r = 0 ∨ r = 1) ∧ (r = 1 ↔ ∀ w, w < 3 → L w = - G w) := by
    intro n
    induction n with
    | zero =>
      intro fuel w k1 k2 inv
      obtain ⟨fuel, rfl⟩ : ∃ q, fuel = q + 1 := ⟨fuel - 1, by omega⟩
      have ew : w = 3 := by omega
      subst ew
      exact ⟨1, by rw [LX0_isMirror_2, if_pos (by decide)]; rfl, Or.inr rfl, fun _ => inv, fun _ => rfl⟩
    | succ n ih =>
      intro fuel w k1 k2 inv
      obtain ⟨fuel, rfl⟩ : ∃ q, fuel = q + 1 := ⟨fuel - 1, by omega⟩
      have lg := LG_bd hcr hLG (show w < 3 by omega)
      rw [LX0_isMirror_2, if_neg (by rw [z3, iz_le (by omega) (by omega) (by omega) (by omega)]; omega), ix_gd (by omega) (by omega), iz_cn (by omega), pe_i, pe_i, iz_neg, ix_s]
      by_cases cc : L w = - G w
      · rw [if_pos (by rw [cc])]
        exact ih fuel (w + 1) (by omega) (by omega) (fun v hv => by
          by_cases cv : v = w
          · rw [cv]; exact cc
          · exact inv v (by omega))
      · rw [if_neg (by rw [iz_eq (by omega) (by omega) (by omega) (by omega)]; exact cc)]
        exact ⟨0, rfl, Or.inl rfl, by omega, fun h => (cc (h w (by omega))).elim⟩
  exact loop 3 FU 0 (by omega) (by decide) (fun v hv => by omega)
theorem mirrorR (hcs : cs ≤ 40) (hcs1 : 1 ≤ cs) (hcr : ∀ i, i < cs → rc3 (c i)) (hLG : ∀ w, w < 3 → IsMn cs c w (L w) ∧ IsMx cs c w (G w)) (hb8 : b < 8) (r2 : CO b = iz (cs : Int)) (r3 : RC CR b cs c) : ∃ r : Int, fX9_isMirror CO CR (iz (b : Int)) = some (iz r) ∧ (r = 0 ∨ r = 1) ∧ (r = 1 ↔ ∀ w, w < 3 → L w = - G w) := by
  have loop : ∀ (n fuel w : Nat) (t : Int), w + n = 3 → n < fuel → (t = 0 ∨ t = 1) → (t = 1 ↔ ∀ v, v < w → L v = - G v) → ∃ r : Int, LX9_isMirror_4 CO CR fuel (iz (b : Int)) (iz t) (iz (w : Int)) = some (iz r) ∧ (r = 0 ∨ r = 1) ∧ (r = 1 ↔ ∀ w, w < 3 → L w = - G w) := by
    intro n
    induction n with
    | zero =>
      intro fuel w t k1 k2 ht inv
      obtain ⟨fuel, rfl⟩ : ∃ q, fuel = q + 1 := ⟨fuel - 1, by omega⟩
      have ew : w = 3 := by omega
      subst ew
      refine ⟨t, ?_, ht, inv⟩
      rw [LX9_isMirror_4, if_pos (by decide)]
      unfold gd_b
      rw [if_pos (by rcases ht with rfl | rfl; exact Or.inl rfl; exact Or.inr rfl)]
    | succ n ih =>
      intro fuel w t k1 k2 ht inv
      obtain ⟨fuel, rfl⟩ : ∃ q, fuel = q + 1 := ⟨fuel - 1, by omega⟩
      have lg := LG_bd hcr hLG (show w < 3 by omega)
      have ex : (∀ v, v < w + 1 → L v = - G v) ↔ (∀ v, v < w → L v = - G v) ∧ L w = - G w := by
        constructor
        · intro h
          exact ⟨fun v hv => h v (by omega), h w (by omega)⟩
        · rintro ⟨h1, h2⟩ v hv
          by_cases cv : v = w
          · rw [cv]; exact h2
          · exact h1 v (by omega)
      rw [LX9_isMirror_4, if_neg (by rw [z3, iz_le (by omega) (by omega) (by omega) (by omega)]; omega), least_i hcs hcs1 hcr hb8 r2 r3 (show w < 3 by omega) (hLG _ (by omega)).1, greatest_i hcs hcs1 hcr hb8 r2 r3 (show w < 3 by omega) (hLG _ (by omega)).2, bd_some, bd_some, iz_neg]
      unfold JX9_isMirror_33 JX9_isMirror_34
      rw [ix_s]
      rcases ht with rfl | rfl
      · rw [if_pos (show iz 0 = 0 from rfl)]
        exact ih fuel (w + 1) 0 (by omega) (by omega) (Or.inl rfl) ⟨fun h => by omega, fun h => by have := inv.mpr (ex.mp h).1; omega⟩
      · rw [if_neg (show ¬ iz 1 = 0 by decide)]
        by_cases cc : L w = - G w
        · rw [if_pos (by rw [cc])]
          exact ih fuel (w + 1) 1 (by omega) (by omega) (Or.inr rfl) ⟨fun _ => ex.mpr ⟨inv.mp rfl, cc⟩, fun _ => rfl⟩
        · rw [if_neg (by rw [iz_eq (by omega) (by omega) (by omega) (by omega)]; exact cc)]
          exact ih fuel (w + 1) 0 (by omega) (by omega) (Or.inl rfl) ⟨fun h => by omega, fun h => (cc (ex.mp h).2).elim⟩
  exact loop 3 FU 0 1 (by omega) (by decide) (Or.inr rfl) ⟨fun _ v hv => by omega, fun _ => rfl⟩
theorem q_about (h : GF f N cs c ss s e bd' be L G) (hR : RefB b f N cs c ss s e be FI CO CR SI' SR BO) (hb : b < bc) (hbc : bc ≤ 8) {mo : Int32} (hmo : MO b = mo) (p2 : Int32) : ∃ r, fX8_about_F cs (iz (bc : Int)) (iz (f : Int)) mo (iz (cs : Int)) (px c) (py c) (pz c) (iz (ss : Int)) (pe L) (pe G) (iz (b : Int)) p2 = some r ∧ fX9_about (iz (bc : Int)) FI CO CR SI' MO (iz (b : Int)) p2 = some r := by
  obtain ⟨f3, c1, c40, s80, hs, hN, hbd, hbe, h0, hcr, hLG⟩ := h
  obtain ⟨r1, r2, r3, r4, r5, r6, r7⟩ := hR
  have hb8 : b < 8 := by omega
  unfold fX8_about_F fX9_about
  rw [find_i hb hbc, bd_some, is_i hb hbc, bd_some, if_neg n10]
  by_cases q0 : p2 = 0
  · rw [if_pos q0, if_pos q0]
    obtain ⟨k, k1, k2, k3⟩ := brickC c40 c1 hcr hLG
    obtain ⟨k', l1, l2, l3⟩ := brickR c40 c1 hcr hLG hb8 r2 r3
    have ek : k = k' := by have := k3.trans l3.symm; omega
    subst ek
    unfold fX0_kind
    rw [k1, bd_some, l1, bd_some, ix_gd (by omega) (by omega), iz_cn (by omega), r1, r2]
    rcases k2 with rfl | rfl
    · rw [if_pos (show iz 0 = 0 from rfl), if_pos (show iz 0 = 0 from rfl)]
      by_cases q1 : iz (cs : Int) = iz (f : Int) + 1
      · rw [if_pos q1, bd_some]; exact ⟨_, rfl, rfl⟩
      · rw [if_neg q1]
        by_cases q2 : (3 : Int32) ≤ iz (f : Int)
        · rw [if_pos q2, bd_some]; exact ⟨_, rfl, rfl⟩
        · rw [if_neg q2, bd_some]; exact ⟨_, rfl, rfl⟩
    · rw [if_neg (show ¬ iz 1 = 0 by decide), if_neg (show ¬ iz 1 = 0 by decide)]
      obtain ⟨m, m1, m2, m3⟩ := mirrorC hcr hLG
      obtain ⟨m', n1, n2, n3⟩ := mirrorR c40 c1 hcr hLG hb8 r2 r3
      have em : m = m' := by have := m3.trans n3.symm; omega
      subst em
      rw [m1, bd_some, n1, bd_some]
      by_cases q1 : iz m = 0
      · rw [if_pos q1, bd_some]; exact ⟨_, rfl, rfl⟩
      · rw [if_neg q1, bd_some]; exact ⟨_, rfl, rfl⟩
  · rw [if_neg q0, if_neg q0, ix_gd (by omega) (by omega), ix_gd (by omega) (by omega), ix_gd (by omega) (by omega), ix_gd (by omega) (by omega), iz_cn (by omega), r1, r2, r4, hmo]
    by_cases q1 : p2 = 1
    · rw [if_pos q1]; exact ⟨_, rfl, rfl⟩
    · rw [if_neg q1]
      by_cases q2 : p2 = 2
      · rw [if_pos q2]; exact ⟨_, rfl, rfl⟩
      · rw [if_neg q2]
        by_cases q3 : p2 = 3
        · rw [if_pos q3]; exact ⟨_, rfl, rfl⟩
        · rw [if_neg q3]
          by_cases q4 : p2 = 4
          · rw [if_pos q4]; exact ⟨_, rfl, rfl⟩
          · rw [if_neg q4]; exact ⟨_, rfl, rfl⟩
end
