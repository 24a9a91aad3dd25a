/-! the whole search -/
def Ht (P : Int → Int → Int → Bool) (md up tx ty tz : Int) (S : Nat) (x y z0 : Int) (k : Nat) : Prop := P x y (z0 + k) = true ∧ stp md up tx ty tz ((S + cz P x y z0 k : Nat) : Int) x y (z0 + k)
section
variable {f : Nat} {N : V3} {cs : Nat} {c : Nat → V3} {ss : Nat} {s : Nat → V3} {e : Nat → Int} {bd' : Nat → V3} {be L G : Nat → Int} {b bc : Nat} {FI CO CR SI' SR BO : Nat → Int32}
theorem gone2 (h : GF f N cs c ss s e bd' be L G) (hR : RefB b f N cs c ss s e be FI CO CR SI' SR BO) (hb : b < 8) {Q : Int} (hQ : 1 ≤ Q ∧ Q ≤ 5) {md up tx ty tz : Int} (hmd : md = 0 ∨ md = 1) (hup : -2147483648 ≤ up ∧ up < 2147483648) (htx : -2147483648 ≤ tx ∧ tx < 2147483648) (hty : -2147483648 ≤ ty ∧ ty < 2147483648) (htz : -2147483648 ≤ tz ∧ tz < 2147483648) (K : Int32 → Int32 → Int32 → Int32 → Int32 → Int32 → Int32 → Int32 → Int32 → Int32 → Int32 → Int32 → Int32 → Int32 → Int32 → Int32 → Int32 → Option (Int32 × Int32 × Int32 × Int32)) (S : Nat) (hS : S ≤ 500000) (x : Int) (hx : -25 ≤ x ∧ x ≤ 25) (a9 a11 m1 m2 m3 : Int32) : ∀ (m fuel j : Nat), j + m = bn L G Q 1 → m < fuel →
    ((∀ j' k', j ≤ j' → j' < bn L G Q 1 → k' < bn L G Q 2 → ¬ Ht (pB f N ss s e be Q) md up tx ty tz (S + cy (pB f N ss s e be Q) x (bl L Q 1) (bl L Q 2) (bn L G Q 2) j') x (bl L Q 1 + j') (bl L Q 2) k') → LX9_gone_74 FI CO CR SI' SR BO K fuel (iz (b : Int)) (iz Q) (iz up) (iz md) (iz tx) (iz ty) (iz tz) (iz ((S + cy (pB f N ss s e be Q) x (bl L Q 1) (bl L Q 2) (bn L G Q 2) j : Nat) : Int)) a9 (iz (bl L Q 2)) a11 (iz (G 1 * Q)) (iz (G 2 * Q)) (iz x) (iz (bl L Q 1 + j)) m1 m2 m3 = K (iz (b : Int)) (iz Q) (iz up) (iz md) (iz tx) (iz ty) (iz tz) (iz ((S + cy (pB f N ss s e be Q) x (bl L Q 1) (bl L Q 2) (bn L G Q 2) (bn L G Q 1) : Nat) : Int)) a9 (iz (bl L Q 2)) a11 (iz (G 1 * Q)) (iz (G 2 * Q)) (iz x) m1 m2 m3) ∧
    (∀ j' k', j ≤ j' → j' < bn L G Q 1 → k' < bn L G Q 2 → Ht (pB f N ss s e be Q) md up tx ty tz (S + cy (pB f N ss s e be Q) x (bl L Q 1) (bl L Q 2) (bn L G Q 2) j') x (bl L Q 1 + j') (bl L Q 2) k' → (∀ j'' k'', j ≤ j'' → k'' < bn L G Q 2 → (j'' < j' ∨ j'' = j' ∧ k'' < k') → ¬ Ht (pB f N ss s e be Q) md up tx ty tz (S + cy (pB f N ss s e be Q) x (bl L Q 1) (bl L Q 2) (bn L G Q 2) j'') x (bl L Q 1 + j'') (bl L Q 2) k'') → LX9_gone_74 FI CO CR SI' SR BO K fuel (iz (b : Int)) (iz Q) (iz up) (iz md) (iz tx) (iz ty) (iz tz) (iz ((S + cy (pB f N ss s e be Q) x (bl L Q 1) (bl L Q 2) (bn L G Q 2) j : Nat) : Int)) a9 (iz (bl L Q 2)) a11 (iz (G 1 * Q)) (iz (G 2 * Q)) (iz x) (iz (bl L Q 1 + j)) m1 m2 m3 = some (iz ((S + cy (pB f N ss s e be Q) x (bl L Q 1) (bl L Q 2) (bn L G Q 2) j' + cz (pB f N ss s e be Q) x (bl L Q 1 + j') (bl L Q 2) k' : Nat) : Int), iz x, iz (bl L Q 1 + j'), iz (bl L Q 2 + k'))) := by
  have b1 := box_bd h hQ (show 1 < 3 by omega)
  have b2 := box_bd h hQ (show 2 < 3 by omega)
  intro m
  induction m with
  | zero =>
    intro fuel j k1 k2
    obtain ⟨fuel, rfl⟩ : ∃ q, fuel = q + 1 := ⟨fuel - 1, by omega⟩
    refine ⟨fun _ => ?_, fun j' k' h1 h2 => by omega⟩
    rw [LX9_gone_74, if_pos (by rw [iz_lt (by omega) (by omega) (by omega) (by omega)]; omega), show j = bn L G Q 1 by omega]
  | succ m ih =>
    intro fuel j k1 k2
    obtain ⟨fuel, rfl⟩ : ∃ q, fuel = q + 1 := ⟨fuel - 1, by omega⟩
    obtain ⟨i1, i2⟩ := ih fuel (j + 1) (by omega) (by omega)
    have cl := cy_le (pB f N ss s e be Q) x (bl L Q 1) (bl L Q 2) (bn L G Q 2) j
    have cl2 : j * bn L G Q 2 ≤ 51 * 51 := Nat.mul_le_mul (by omega) b2.2.2.2.1
    obtain ⟨g1, g2⟩ := gone3 h hR hb hQ hmd hup htx hty htz (fun a1 a2 a3 a4 a5 a6 a7 a8 a9 a10 a11 a12 a13 a14 a15 mtx mty mtz => (LX9_gone_74 FI CO CR SI' SR BO K fuel a1 a2 a3 a4 a5 a6 a7 a8 a9 a10 a11 a12 a13 a14 (a15 + 1) mtx mty mtz)) (S + cy (pB f N ss s e be Q) x (bl L Q 1) (bl L Q 2) (bn L G Q 2) j) (by omega) x (bl L Q 1 + j) hx (by omega) a9 (iz (bl L Q 2)) a11 (iz (G 1 * Q)) m1 m2 m3 (bn L G Q 2) FU 0 (by omega) (by unfold FU; omega)
    rw [show bl L Q 2 + ((0 : Nat) : Int) = bl L Q 2 by omega, show cz (pB f N ss s e be Q) x (bl L Q 1 + j) (bl L Q 2) 0 = 0 from rfl, Nat.add_zero] at g1 g2
    have ey : iz (bl L Q 1 + (j : Int)) + 1 = iz (bl L Q 1 + ((j + 1 : Nat) : Int)) := by rw [z1, iz_add]; congr 1; omega
    rw [LX9_gone_74, if_neg (by rw [iz_lt (by omega) (by omega) (by omega) (by omega)]; omega)]
    have e5 : S + cy (pB f N ss s e be Q) x (bl L Q 1) (bl L Q 2) (bn L G Q 2) j + cz (pB f N ss s e be Q) x (bl L Q 1 + j) (bl L Q 2) (bn L G Q 2) = S + cy (pB f N ss s e be Q) x (bl L Q 1) (bl L Q 2) (bn L G Q 2) (j + 1) := by rw [cy, Nat.add_assoc]
    rw [ey, e5] at g1
    refine ⟨fun hh => ?_, fun j' k' q1 q2 q3 q4 q5 => ?_⟩
    · refine (g1 (fun k' w1 w2 w3 w4 => hh j k' (Nat.le_refl _) (by omega) w2 ⟨w3, w4⟩)).trans ?_
      exact i1 (fun j' k' w1 w2 w3 => hh j' k' (by omega) w2 w3)
    · by_cases cj : j' = j
      · subst cj
        exact g2 k' (Nat.zero_le _) q3 q4.1 q4.2 (fun k'' w1 w2 w3 w4 => q5 j' k'' (Nat.le_refl _) (by omega) (Or.inr ⟨rfl, w2⟩) ⟨w3, w4⟩)
      · refine (g1 (fun k'' w1 w2 w3 w4 => q5 j k'' (Nat.le_refl _) w2 (Or.inl (by omega)) ⟨w3, w4⟩)).trans ?_
        exact i2 j' k' (by omega) q2 q3 q4 (fun j'' k'' w1 w2 w3 => q5 j'' k'' (by omega) w2 w3)
theorem gone1 (h : GF f N cs c ss s e bd' be L G) (hR : RefB b f N cs c ss s e be FI CO CR SI' SR BO) (hb : b < 8) {Q : Int} (hQ : 1 ≤ Q ∧ Q ≤ 5) {md up tx ty tz : Int} (hmd : md = 0 ∨ md = 1) (hup : -2147483648 ≤ up ∧ up < 2147483648) (htx : -2147483648 ≤ tx ∧ tx < 2147483648) (hty : -2147483648 ≤ ty ∧ ty < 2147483648) (htz : -2147483648 ≤ tz ∧ tz < 2147483648) (m1 m2 m3 : Int32) : ∀ (m fuel i : Nat), i + m = bn L G Q 0 → m < fuel →
    ((∀ i' j' k', i ≤ i' → i' < bn L G Q 0 → j' < bn L G Q 1 → k' < bn L G Q 2 → ¬ Ht (pB f N ss s e be Q) md up tx ty tz (cx (pB f N ss s e be Q) (bl L Q 0) (bl L Q 1) (bn L G Q 1) (bl L Q 2) (bn L G Q 2) i' + cy (pB f N ss s e be Q) (bl L Q 0 + i') (bl L Q 1) (bl L Q 2) (bn L G Q 2) j') (bl L Q 0 + i') (bl L Q 1 + j') (bl L Q 2) k') → LX9_gone_63 FI CO CR SI' SR BO fuel (iz (b : Int)) (iz Q) (iz up) (iz md) (iz tx) (iz ty) (iz tz) (iz ((cx (pB f N ss s e be Q) (bl L Q 0) (bl L Q 1) (bn L G Q 1) (bl L Q 2) (bn L G Q 2) i : Nat) : Int)) (iz (bl L Q 1)) (iz (bl L Q 2)) (iz (G 0 * Q)) (iz (G 1 * Q)) (iz (G 2 * Q)) (iz (bl L Q 0 + i)) m1 m2 m3 = some (-4, m1, m2, m3)) ∧
    (∀ i' j' k', i ≤ i' → i' < bn L G Q 0 → j' < bn L G Q 1 → k' < bn L G Q 2 → Ht (pB f N ss s e be Q) md up tx ty tz (cx (pB f N ss s e be Q) (bl L Q 0) (bl L Q 1) (bn L G Q 1) (bl L Q 2) (bn L G Q 2) i' + cy (pB f N ss s e be Q) (bl L Q 0 + i') (bl L Q 1) (bl L Q 2) (bn L G Q 2) j') (bl L Q 0 + i') (bl L Q 1 + j') (bl L Q 2) k' → (∀ i'' j'' k'', i ≤ i'' → j'' < bn L G Q 1 → k'' < bn L G Q 2 → (i'' < i' ∨ i'' = i' ∧ (j'' < j' ∨ j'' = j' ∧ k'' < k')) → ¬ Ht (pB f N ss s e be Q) md up tx ty tz (cx (pB f N ss s e be Q) (bl L Q 0) (bl L Q 1) (bn L G Q 1) (bl L Q 2) (bn L G Q 2) i'' + cy (pB f N ss s e be Q) (bl L Q 0 + i'') (bl L Q 1) (bl L Q 2) (bn L G Q 2) j'') (bl L Q 0 + i'') (bl L Q 1 + j'') (bl L Q 2) k'') → LX9_gone_63 FI CO CR SI' SR BO fuel (iz (b : Int)) (iz Q) (iz up) (iz md) (iz tx) (iz ty) (iz tz) (iz ((cx (pB f N ss s e be Q) (bl L Q 0) (bl L Q 1) (bn L G Q 1) (bl L Q 2) (bn L G Q 2) i : Nat) : Int)) (iz (bl L Q 1)) (iz (bl L Q 2)) (iz (G 0 * Q)) (iz (G 1 * Q)) (iz (G 2 * Q)) (iz (bl L Q 0 + i)) m1 m2 m3 = some (iz ((cx (pB f N ss s e be Q) (bl L Q 0) (bl L Q 1) (bn L G Q 1) (bl L Q 2) (bn L G Q 2) i' + cy (pB f N ss s e be Q) (bl L Q 0 + i') (bl L Q 1) (bl L Q 2) (bn L G Q 2) j' + cz (pB f N ss s e be Q) (bl L Q 0 + i') (bl L Q 1 + j') (bl L Q 2) k' : Nat) : Int), iz (bl L Q 0 + i'), iz (bl L Q 1 + j'), iz (bl L Q 2 + k'))) := by
  have b0 := box_bd h hQ (show 0 < 3 by omega)
  have b1 := box_bd h hQ (show 1 < 3 by omega)
  have b2 := box_bd h hQ (show 2 < 3 by omega)
  intro m
  induction m with
  | zero =>
    intro fuel i k1 k2
    obtain ⟨fuel, rfl⟩ : ∃ q, fuel = q + 1 := ⟨fuel - 1, by omega⟩
    refine ⟨fun _ => ?_, fun i' j' k' h1 h2 => by omega⟩
    rw [LX9_gone_63, if_pos (by rw [iz_lt (by omega) (by omega) (by omega) (by omega)]; omega)]
  | succ m ih =>
    intro fuel i k1 k2
    obtain ⟨fuel, rfl⟩ : ∃ q, fuel = q + 1 := ⟨fuel - 1, by omega⟩
    obtain ⟨i1, i2⟩ := ih fuel (i + 1) (by omega) (by omega)
    have cl := cx_le (pB f N ss s e be Q) (bl L Q 0) (bl L Q 1) (bn L G Q 1) (bl L Q 2) (bn L G Q 2) i
    have cl1 : bn L G Q 1 * bn L G Q 2 ≤ 51 * 51 := Nat.mul_le_mul b1.2.2.2.1 b2.2.2.2.1
    have cl2 : i * (bn L G Q 1 * bn L G Q 2) ≤ 51 * (51 * 51) := Nat.mul_le_mul (by omega) cl1
    obtain ⟨g1, g2⟩ := gone2 h hR hb hQ hmd hup htx hty htz (fun a1 a2 a3 a4 a5 a6 a7 a8 a9 a10 a11 a12 a13 a14 mtx mty mtz => (LX9_gone_63 FI CO CR SI' SR BO fuel a1 a2 a3 a4 a5 a6 a7 a8 a9 a10 a11 a12 a13 (a14 + 1) mtx mty mtz)) (cx (pB f N ss s e be Q) (bl L Q 0) (bl L Q 1) (bn L G Q 1) (bl L Q 2) (bn L G Q 2) i) (by omega) (bl L Q 0 + i) (by omega) (iz (bl L Q 1)) (iz (G 0 * Q)) m1 m2 m3 (bn L G Q 1) FU 0 (by omega) (by unfold FU; omega)
    rw [show bl L Q 1 + ((0 : Nat) : Int) = bl L Q 1 by omega, show cy (pB f N ss s e be Q) (bl L Q 0 + i) (bl L Q 1) (bl L Q 2) (bn L G Q 2) 0 = 0 from rfl, Nat.add_zero] at g1 g2
    have ex : iz (bl L Q 0 + (i : Int)) + 1 = iz (bl L Q 0 + ((i + 1 : Nat) : Int)) := by rw [z1, iz_add]; congr 1; omega
    rw [LX9_gone_63, if_neg (by rw [iz_lt (by omega) (by omega) (by omega) (by omega)]; omega)]
    have e5 : cx (pB f N ss s e be Q) (bl L Q 0) (bl L Q 1) (bn L G Q 1) (bl L Q 2) (bn L G Q 2) i + cy (pB f N ss s e be Q) (bl L Q 0 + i) (bl L Q 1) (bl L Q 2) (bn L G Q 2) (bn L G Q 1) = cx (pB f N ss s e be Q) (bl L Q 0) (bl L Q 1) (bn L G Q 1) (bl L Q 2) (bn L G Q 2) (i + 1) := by rw [cx]
    rw [ex, e5] at g1
    refine ⟨fun hh => ?_, fun i' j' k' q1 q2 q3 q4 q5 q6 => ?_⟩
    · refine (g1 (fun j' k' w1 w2 w3 w4 => hh i j' k' (Nat.le_refl _) (by omega) w2 w3 w4)).trans ?_
      exact i1 (fun i' j' k' w1 w2 w3 w4 => hh i' j' k' (by omega) w2 w3 w4)
    · by_cases ci : i' = i
      · subst ci
        exact g2 j' k' (Nat.zero_le _) q3 q4 q5 (fun j'' k'' w1 w2 w3 w4 => q6 i' j'' k'' (Nat.le_refl _) (by omega) w2 (Or.inr ⟨rfl, w3⟩) w4)
      · refine (g1 (fun j'' k'' w1 w2 w3 w4 => q6 i j'' k'' (Nat.le_refl _) w2 w3 (Or.inl (by omega)) w4)).trans ?_
        exact i2 i' j' k' (by omega) q2 q3 q4 q5 (fun i'' j'' k'' w1 w2 w3 w4 => q6 i'' j'' k'' (by omega) w2 w3 w4)
end
