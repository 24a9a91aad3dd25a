/-! the reference looks for a point -/
/-- where the search ends -/
def stp (md : Int) (up tx ty tz : Int) (cn x y z : Int) : Prop := (md = 0 → cn = up) ∧ (md ≠ 0 → x = tx ∧ y = ty ∧ z = tz)
section
variable {f : Nat} {N : V3} {cs : Nat} {c : Nat → V3} {ss : Nat} {s : Nat → V3} {e : Nat → Int} {bd' : Nat → V3} {be L G : Nat → Int} {b bc : Nat} {FI CO CR SI' SR BO : Nat → Int32}
theorem gone3 (h : GF f N cs c ss s e bd' be L G) (hR : RefB b f N cs c ss s e be FI CO CR SI' SR BO) (hb : b < 8) {Q : Int} (hQ : 1 ≤ Q ∧ Q ≤ 5) {md up tx ty tz : Int} (hmd : md = 0 ∨ md = 1) (hup : -2147483648 ≤ up ∧ up < 2147483648) (htx : -2147483648 ≤ tx ∧ tx < 2147483648) (hty : -2147483648 ≤ ty ∧ ty < 2147483648) (htz : -2147483648 ≤ tz ∧ tz < 2147483648) (K : Int32 → Int32 → Int32 → Int32 → Int32 → Int32 → Int32 → Int32 → Int32 → Int32 → Int32 → Int32 → Int32 → Int32 → Int32 → Int32 → Int32 → Int32 → Option (Int32 × Int32 × Int32 × Int32)) (S : Nat) (hS : S ≤ 1000000) (x y : Int) (hx : -25 ≤ x ∧ x ≤ 25) (hy : -25 ≤ y ∧ y ≤ 25) (a9 a10 a11 a12 m1 m2 m3 : Int32) : ∀ (m fuel k : Nat), k + m = bn L G Q 2 → m < fuel →
    ((∀ k', k ≤ k' → k' < bn L G Q 2 → pB f N ss s e be Q x y (bl L Q 2 + k') = true → ¬ stp md up tx ty tz ((S + cz (pB f N ss s e be Q) x y (bl L Q 2) k' : Nat) : Int) x y (bl L Q 2 + k')) → LX9_gone_85 FI CO CR SI' SR BO K fuel (iz (b : Int)) (iz Q) (iz up) (iz md) (iz tx) (iz ty) (iz tz) (iz ((S + cz (pB f N ss s e be Q) x y (bl L Q 2) k : Nat) : Int)) a9 a10 a11 a12 (iz (G 2 * Q)) (iz x) (iz y) (iz (bl L Q 2 + k)) m1 m2 m3 = K (iz (b : Int)) (iz Q) (iz up) (iz md) (iz tx) (iz ty) (iz tz) (iz ((S + cz (pB f N ss s e be Q) x y (bl L Q 2) (bn L G Q 2) : Nat) : Int)) a9 a10 a11 a12 (iz (G 2 * Q)) (iz x) (iz y) m1 m2 m3) ∧
    (∀ k', k ≤ k' → k' < bn L G Q 2 → pB f N ss s e be Q x y (bl L Q 2 + k') = true → stp md up tx ty tz ((S + cz (pB f N ss s e be Q) x y (bl L Q 2) k' : Nat) : Int) x y (bl L Q 2 + k') → (∀ k'', k ≤ k'' → k'' < k' → pB f N ss s e be Q x y (bl L Q 2 + k'') = true → ¬ stp md up tx ty tz ((S + cz (pB f N ss s e be Q) x y (bl L Q 2) k'' : Nat) : Int) x y (bl L Q 2 + k'')) → LX9_gone_85 FI CO CR SI' SR BO K fuel (iz (b : Int)) (iz Q) (iz up) (iz md) (iz tx) (iz ty) (iz tz) (iz ((S + cz (pB f N ss s e be Q) x y (bl L Q 2) k : Nat) : Int)) a9 a10 a11 a12 (iz (G 2 * Q)) (iz x) (iz y) (iz (bl L Q 2 + k)) m1 m2 m3 = some (iz ((S + cz (pB f N ss s e be Q) x y (bl L Q 2) k' : Nat) : Int), iz x, iz y, iz (bl L Q 2 + k'))) := by
  have b2 := box_bd h hQ (show 2 < 3 by omega)
  intro m
  induction m with
  | zero =>
    intro fuel k k1 k2
    obtain ⟨fuel, rfl⟩ : ∃ q, fuel = q + 1 := ⟨fuel - 1, by omega⟩
    refine ⟨fun _ => ?_, fun k' h1 h2 => by omega⟩
    rw [LX9_gone_85, if_pos (by rw [iz_lt (by omega) (by omega) (by omega) (by omega)]; omega), show k = bn L G Q 2 by omega]
  | succ m ih =>
    intro fuel k k1 k2
    obtain ⟨fuel, rfl⟩ : ∃ q, fuel = q + 1 := ⟨fuel - 1, by omega⟩
    obtain ⟨i1, i2⟩ := ih fuel (k + 1) (by omega) (by omega)
    have wr := wh_rng f N ss s e be (x, y, bl L Q 2 + k) Q
    have cl := cz_le (pB f N ss s e be Q) x y (bl L Q 2) k
    have pe' : pB f N ss s e be Q x y (bl L Q 2 + k) = true ↔ wh f N ss s e be (x, y, bl L Q 2 + k) Q ≠ 0 := by unfold pB; rw [decide_eq_true_iff]
    rw [LX9_gone_85, if_neg (by rw [iz_lt (by omega) (by omega) (by omega) (by omega)]; omega), where_c h hR hb hQ hx hy (by omega), bd_some]
    unfold JX9_gone_167 JX9_gone_170 JX9_gone_146
    have ez : iz (bl L Q 2 + (k : Int)) + 1 = iz (bl L Q 2 + ((k + 1 : Nat) : Int)) := by rw [z1, iz_add]; congr 1; omega
    rw [ez]
    by_cases cw : wh f N ss s e be (x, y, bl L Q 2 + k) Q = 0
    · have np : ¬ pB f N ss s e be Q x y (bl L Q 2 + k) = true := fun q => pe'.mp q cw
      rw [if_pos (by rw [cw]; decide)]
      rw [cz, if_neg np, Nat.add_zero] at i1 i2
      refine ⟨fun hh => i1 (fun k' g1 g2 => hh k' (by omega) g2), fun k' g1 g2 g3 g4 g5 => ?_⟩
      have : k' ≠ k := fun q => by rw [q] at g3; exact np g3
      exact i2 k' (by omega) g2 g3 g4 (fun k'' q1 q2 => g5 k'' (by omega) q2)
    · have yp : pB f N ss s e be Q x y (bl L Q 2 + k) = true := pe'.mpr cw
      rw [if_neg (by rw [z0, iz_le (by omega) (by omega) (by omega) (by omega)]; omega)]
      rw [cz, if_pos yp] at i1 i2
      have e1 : iz ((S + cz (pB f N ss s e be Q) x y (bl L Q 2) k : Nat) : Int) + 1 = iz ((S + (cz (pB f N ss s e be Q) x y (bl L Q 2) k + 1) : Nat) : Int) := by rw [ix_s]; rfl
      rw [e1]
      have go : ¬ stp md up tx ty tz ((S + cz (pB f N ss s e be Q) x y (bl L Q 2) k : Nat) : Int) x y (bl L Q 2 + k) → ∀ R, ((∀ k', k ≤ k' → k' < bn L G Q 2 → pB f N ss s e be Q x y (bl L Q 2 + k') = true → ¬ stp md up tx ty tz ((S + cz (pB f N ss s e be Q) x y (bl L Q 2) k' : Nat) : Int) x y (bl L Q 2 + k')) → LX9_gone_85 FI CO CR SI' SR BO K fuel (iz (b : Int)) (iz Q) (iz up) (iz md) (iz tx) (iz ty) (iz tz) (iz ((S + (cz (pB f N ss s e be Q) x y (bl L Q 2) k + 1) : Nat) : Int)) a9 a10 a11 a12 (iz (G 2 * Q)) (iz x) (iz y) (iz (bl L Q 2 + ((k + 1 : Nat) : Int))) m1 m2 m3 = R → R = K (iz (b : Int)) (iz Q) (iz up) (iz md) (iz tx) (iz ty) (iz tz) (iz ((S + cz (pB f N ss s e be Q) x y (bl L Q 2) (bn L G Q 2) : Nat) : Int)) a9 a10 a11 a12 (iz (G 2 * Q)) (iz x) (iz y) m1 m2 m3) ∧ (∀ k', k ≤ k' → k' < bn L G Q 2 → pB f N ss s e be Q x y (bl L Q 2 + k') = true → stp md up tx ty tz ((S + cz (pB f N ss s e be Q) x y (bl L Q 2) k' : Nat) : Int) x y (bl L Q 2 + k') → (∀ k'', k ≤ k'' → k'' < k' → pB f N ss s e be Q x y (bl L Q 2 + k'') = true → ¬ stp md up tx ty tz ((S + cz (pB f N ss s e be Q) x y (bl L Q 2) k'' : Nat) : Int) x y (bl L Q 2 + k'')) → LX9_gone_85 FI CO CR SI' SR BO K fuel (iz (b : Int)) (iz Q) (iz up) (iz md) (iz tx) (iz ty) (iz tz) (iz ((S + (cz (pB f N ss s e be Q) x y (bl L Q 2) k + 1) : Nat) : Int)) a9 a10 a11 a12 (iz (G 2 * Q)) (iz x) (iz y) (iz (bl L Q 2 + ((k + 1 : Nat) : Int))) m1 m2 m3 = R → R = some (iz ((S + cz (pB f N ss s e be Q) x y (bl L Q 2) k' : Nat) : Int), iz x, iz y, iz (bl L Q 2 + k'))) := by
        intro ns R
        refine ⟨fun hh hr => ?_, fun k' g1 g2 g3 g4 g5 hr => ?_⟩
        · rw [← hr]; exact i1 (fun k' g1 g2 => hh k' (by omega) g2)
        · have : k' ≠ k := fun q => by rw [q] at g4; exact ns g4
          rw [← hr]; exact i2 k' (by omega) g2 g3 g4 (fun k'' q1 q2 => g5 k'' (by omega) q2)
      have hit : stp md up tx ty tz ((S + cz (pB f N ss s e be Q) x y (bl L Q 2) k : Nat) : Int) x y (bl L Q 2 + k) → ((∀ k', k ≤ k' → k' < bn L G Q 2 → pB f N ss s e be Q x y (bl L Q 2 + k') = true → ¬ stp md up tx ty tz ((S + cz (pB f N ss s e be Q) x y (bl L Q 2) k' : Nat) : Int) x y (bl L Q 2 + k')) → (some (iz ((S + cz (pB f N ss s e be Q) x y (bl L Q 2) k : Nat) : Int), iz x, iz y, iz (bl L Q 2 + (k : Int))) : Option (Int32 × Int32 × Int32 × Int32)) = K (iz (b : Int)) (iz Q) (iz up) (iz md) (iz tx) (iz ty) (iz tz) (iz ((S + cz (pB f N ss s e be Q) x y (bl L Q 2) (bn L G Q 2) : Nat) : Int)) a9 a10 a11 a12 (iz (G 2 * Q)) (iz x) (iz y) m1 m2 m3) ∧ (∀ k', k ≤ k' → k' < bn L G Q 2 → pB f N ss s e be Q x y (bl L Q 2 + k') = true → stp md up tx ty tz ((S + cz (pB f N ss s e be Q) x y (bl L Q 2) k' : Nat) : Int) x y (bl L Q 2 + k') → (∀ k'', k ≤ k'' → k'' < k' → pB f N ss s e be Q x y (bl L Q 2 + k'') = true → ¬ stp md up tx ty tz ((S + cz (pB f N ss s e be Q) x y (bl L Q 2) k'' : Nat) : Int) x y (bl L Q 2 + k'')) → (some (iz ((S + cz (pB f N ss s e be Q) x y (bl L Q 2) k : Nat) : Int), iz x, iz y, iz (bl L Q 2 + (k : Int))) : Option (Int32 × Int32 × Int32 × Int32)) = some (iz ((S + cz (pB f N ss s e be Q) x y (bl L Q 2) k' : Nat) : Int), iz x, iz y, iz (bl L Q 2 + k'))) := by
        intro hs
        refine ⟨fun hh => (hh k (Nat.le_refl _) (by omega) yp hs).elim, fun k' g1 g2 g3 g4 g5 => ?_⟩
        by_cases ck : k' = k
        · rw [ck]
        · exact (g5 k (Nat.le_refl _) (by omega) yp hs).elim
      rcases hmd with rfl | rfl
      · rw [if_pos (show iz 0 = 0 from rfl)]
        by_cases cu : ((S + cz (pB f N ss s e be Q) x y (bl L Q 2) k : Nat) : Int) = up
        · rw [if_pos (by rw [cu])]
          exact hit ⟨fun _ => cu, fun h => (h rfl).elim⟩
        · rw [if_neg (by rw [iz_eq (by omega) (by omega) (by omega) (by omega)]; exact cu)]
          obtain ⟨p1, p2⟩ := go (fun h => cu (h.1 rfl)) _
          exact ⟨fun hh => p1 hh rfl, fun k' g1 g2 g3 g4 g5 => p2 k' g1 g2 g3 g4 g5 rfl⟩
      · rw [if_neg (show ¬ iz 1 = 0 by decide)]
        by_cases ca : x = tx
        · rw [if_pos (by rw [ca])]
          by_cases cb : y = ty
          · rw [if_pos (by rw [cb])]
            by_cases cc : bl L Q 2 + (k : Int) = tz
            · rw [if_pos (by rw [cc])]
              exact hit ⟨fun h => by omega, fun _ => ⟨ca, cb, cc⟩⟩
            · rw [if_neg (by rw [iz_eq (by omega) (by omega) (by omega) (by omega)]; exact cc)]
              obtain ⟨p1, p2⟩ := go (fun h => cc (h.2 (by omega)).2.2) _
              exact ⟨fun hh => p1 hh rfl, fun k' g1 g2 g3 g4 g5 => p2 k' g1 g2 g3 g4 g5 rfl⟩
          · rw [if_neg (by rw [iz_eq (by omega) (by omega) (by omega) (by omega)]; exact cb)]
            obtain ⟨p1, p2⟩ := go (fun h => cb (h.2 (by omega)).2.1) _
            exact ⟨fun hh => p1 hh rfl, fun k' g1 g2 g3 g4 g5 => p2 k' g1 g2 g3 g4 g5 rfl⟩
        · rw [if_neg (by rw [iz_eq (by omega) (by omega) (by omega) (by omega)]; exact ca)]
          obtain ⟨p1, p2⟩ := go (fun h => ca (h.2 (by omega)).1) _
          exact ⟨fun hh => p1 hh rfl, fun k' g1 g2 g3 g4 g5 => p2 k' g1 g2 g3 g4 g5 rfl⟩
end
