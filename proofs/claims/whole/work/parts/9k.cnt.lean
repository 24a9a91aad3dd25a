/-! counts over a box -/
def cz (P : Int → Int → Int → Bool) (x y z0 : Int) : Nat → Nat
  | 0 => 0
  | n + 1 => cz P x y z0 n + (if P x y (z0 + n) = true then 1 else 0)
def cy (P : Int → Int → Int → Bool) (x y0 z0 : Int) (Zn : Nat) : Nat → Nat
  | 0 => 0
  | n + 1 => cy P x y0 z0 Zn n + cz P x (y0 + n) z0 Zn
def cx (P : Int → Int → Int → Bool) (x0 y0 : Int) (Yn : Nat) (z0 : Int) (Zn : Nat) : Nat → Nat
  | 0 => 0
  | n + 1 => cx P x0 y0 Yn z0 Zn n + cy P (x0 + n) y0 z0 Zn Yn
theorem cz_le (P : Int → Int → Int → Bool) (x y z0 : Int) (n : Nat) : cz P x y z0 n ≤ n := by
  induction n with
  | zero => exact Nat.le_refl _
  | succ n ih => unfold cz; split <;> omega
theorem cy_le (P : Int → Int → Int → Bool) (x y0 z0 : Int) (Zn n : Nat) : cy P x y0 z0 Zn n ≤ n * Zn := by
  induction n with
  | zero => exact Nat.zero_le _
  | succ n ih =>
    unfold cy
    have := cz_le P x (y0 + n) z0 Zn
    rw [Nat.succ_mul]
    omega
theorem cx_le (P : Int → Int → Int → Bool) (x0 y0 : Int) (Yn : Nat) (z0 : Int) (Zn n : Nat) : cx P x0 y0 Yn z0 Zn n ≤ n * (Yn * Zn) := by
  induction n with
  | zero => exact Nat.zero_le _
  | succ n ih =>
    unfold cx
    have := cy_le P (x0 + n) y0 z0 Zn Yn
    rw [Nat.succ_mul]
    omega
theorem cx_mono (P : Int → Int → Int → Bool) (x0 y0 : Int) (Yn : Nat) (z0 : Int) (Zn : Nat) : ∀ {i j : Nat}, i ≤ j → cx P x0 y0 Yn z0 Zn i ≤ cx P x0 y0 Yn z0 Zn j := by
  intro i j h
  induction j with
  | zero => rw [show i = 0 by omega]; exact Nat.le_refl _
  | succ j ih =>
    by_cases c : i = j + 1
    · rw [c]; exact Nat.le_refl _
    · have := ih (by omega)
      rw [cx]
      omega
theorem cy_mono (P : Int → Int → Int → Bool) (x y0 z0 : Int) (Zn : Nat) : ∀ {i j : Nat}, i ≤ j → cy P x y0 z0 Zn i ≤ cy P x y0 z0 Zn j := by
  intro i j h
  induction j with
  | zero => rw [show i = 0 by omega]; exact Nat.le_refl _
  | succ j ih =>
    by_cases c : i = j + 1
    · rw [c]; exact Nat.le_refl _
    · have := ih (by omega)
      rw [cy]
      omega
/-- a column whose points lie from lo to hi -/
theorem col_cnt {P : Int → Int → Int → Bool} {x y z0 lo hi : Int} {Zn : Nat} (h : ∀ z, (lo ≤ z ∧ z ≤ hi) ↔ (z0 ≤ z ∧ z ≤ z0 + Zn - 1) ∧ P x y z = true) : ∀ n, n ≤ Zn → (cz P x y z0 n : Int) = if hi < lo then 0 else if z0 + n - 1 < lo then 0 else if hi ≤ z0 + n - 1 then hi - lo + 1 else z0 + n - lo := by
  intro n
  induction n with
  | zero =>
    intro _
    rw [cz]
    by_cases c : hi < lo
    · rw [if_pos c]; rfl
    · have := (h lo).mp ⟨Int.le_refl _, by omega⟩
      rw [if_neg c, if_pos (by omega)]; rfl
  | succ n ih =>
    intro hn
    have e := ih (by omega)
    have hz := h (z0 + n)
    rw [cz]
    by_cases c : hi < lo
    · rw [if_pos c] at e ⊢
      by_cases p : P x y (z0 + n) = true
      · have := hz.mpr ⟨by omega, p⟩; omega
      · rw [if_neg p]; omega
    · have g1 := (h lo).mp ⟨Int.le_refl _, by omega⟩
      have g2 := (h hi).mp ⟨by omega, Int.le_refl _⟩
      rw [if_neg c] at e ⊢
      by_cases p : P x y (z0 + n) = true
      · have := hz.mpr ⟨by omega, p⟩
        rw [if_pos p]
        by_cases c1 : z0 + n - 1 < lo
        · rw [if_pos c1] at e
          rw [if_neg (by omega)]
          by_cases c2 : hi ≤ z0 + (n + 1 : Nat) - 1
          · rw [if_pos c2]; omega
          · rw [if_neg c2]; omega
        · rw [if_neg c1] at e
          rw [if_neg (by omega)]
          rw [if_neg (show ¬ hi ≤ z0 + n - 1 by omega)] at e
          by_cases c2 : hi ≤ z0 + (n + 1 : Nat) - 1
          · rw [if_pos c2]; omega
          · rw [if_neg c2]; omega
      · have np : ¬ (lo ≤ z0 + n ∧ z0 + n ≤ hi) := fun q => p (hz.mp q).2
        rw [if_neg p]
        by_cases c1 : z0 + n - 1 < lo
        · rw [if_pos c1] at e
          rw [if_pos (by omega)]; omega
        · rw [if_neg c1] at e
          rw [if_neg (by omega)]
          by_cases c2 : hi ≤ z0 + n - 1
          · rw [if_pos c2] at e
            rw [if_pos (by omega)]; omega
          · omega
theorem col_all {P : Int → Int → Int → Bool} {x y z0 lo hi : Int} {Zn : Nat} (h : ∀ z, (lo ≤ z ∧ z ≤ hi) ↔ (z0 ≤ z ∧ z ≤ z0 + Zn - 1) ∧ P x y z = true) : (cz P x y z0 Zn : Int) = if hi < lo then 0 else hi - lo + 1 := by
  have e := col_cnt h Zn (Nat.le_refl _)
  by_cases c : hi < lo
  · rw [if_pos c] at e ⊢; exact e
  · have g1 := (h lo).mp ⟨Int.le_refl _, by omega⟩
    have g2 := (h hi).mp ⟨by omega, Int.le_refl _⟩
    rw [if_neg c, if_neg (by omega), if_pos (by omega)] at e
    rw [if_neg c]; exact e
theorem col_pos {P : Int → Int → Int → Bool} {x y z0 lo hi : Int} {Zn : Nat} (h : ∀ z, (lo ≤ z ∧ z ≤ hi) ↔ (z0 ≤ z ∧ z ≤ z0 + Zn - 1) ∧ P x y z = true) {k : Nat} (hk : k < Zn) (hp : P x y (z0 + k) = true) : (cz P x y z0 k : Int) = z0 + k - lo := by
  have e := col_cnt h k (by omega)
  have g := (h (z0 + k)).mpr ⟨by omega, hp⟩
  rw [if_neg (by omega)] at e
  by_cases c1 : z0 + k - 1 < lo
  · rw [if_pos c1] at e; omega
  · rw [if_neg c1] at e
    rw [if_neg (by omega)] at e
    exact e
def pB (f : Nat) (N : V3) (ss : Nat) (s : Nat → V3) (e be : Nat → Int) (Q : Int) : Int → Int → Int → Bool := fun x y z => decide (wh f N ss s e be (x, y, z) Q ≠ 0)
/-- the box of the swelling by Q -/
def bl (L : Nat → Int) (Q : Int) (w : Nat) : Int := L w * Q
def bn (L G : Nat → Int) (Q : Int) (w : Nat) : Nat := (G w * Q - L w * Q).toNat + 1
section
variable {f : Nat} {N : V3} {cs : Nat} {c : Nat → V3} {ss : Nat} {s : Nat → V3} {e : Nat → Int} {bd' : Nat → V3} {be L G : Nat → Int}
theorem box_bd (h : GF f N cs c ss s e bd' be L G) {Q : Int} (hQ : 1 ≤ Q ∧ Q ≤ 5) {w : Nat} (hw : w < 3) : -25 ≤ bl L Q w ∧ G w * Q ≤ 25 ∧ G w * Q = bl L Q w + bn L G Q w - 1 ∧ bn L G Q w ≤ 51 ∧ 1 ≤ bn L G Q w := by
  obtain ⟨f3, c1, c40, s80, hs, hN, hbd, hbe, h0, hcr, hLG⟩ := h
  have lg := LG_bd hcr hLG hw
  have m1 := mbd (a := L w) (b := Q) 5 5 (by omega) (by omega) (by omega) (by omega)
  have m2 := mbd (a := G w) (b := Q) 5 5 (by omega) (by omega) (by omega) (by omega)
  have m3 := Int.mul_le_mul_of_nonneg_right lg.2.1 (show 0 ≤ Q by omega)
  unfold bl bn
  omega
theorem look_c (h : GF f N cs c ss s e bd' be L G) {Q x y : Int} (hQ : 1 ≤ Q ∧ Q ≤ 5) (hx : -25 ≤ x ∧ x ≤ 25) (hy : -25 ≤ y ∧ y ≤ 25) (l0 h0' : Int32) : ∃ lo hi : Int, fX7_look ss (nbd f) (iz Q) (iz (bl L Q 2)) (iz (G 2 * Q)) l0 h0' (iz (ss : Int)) (px s) (py s) (pz s) (pe e) (iz ((nbd f : Nat) : Int)) (px bd') (py bd') (pz bd') (pe be) (iz x) (iz y) = some (iz lo, iz hi) ∧ rgC lo hi ∧ ∀ z, (lo ≤ z ∧ z ≤ hi) ↔ (bl L Q 2 ≤ z ∧ z ≤ bl L Q 2 + bn L G Q 2 - 1) ∧ pB f N ss s e be Q x y z = true := by
  have b2 := box_bd h hQ (show 2 < 3 by omega)
  obtain ⟨lo, hi, q1, q2, q3⟩ := look_i h hQ hx hy (lz0 := bl L Q 2) (gz := G 2 * Q) (by omega) (by omega) (by omega) l0 h0'
  refine ⟨lo, hi, q1, q2, fun z => (q3 z).trans ?_⟩
  rw [b2.2.2.1]
  unfold pB InB
  rw [decide_eq_true_iff]
theorem looked_i {lo hi : Int} (h : rgC lo hi) : fX7_lookedAt (iz lo) (iz hi) = some (iz (if hi < lo then 0 else hi - lo + 1)) := by
  obtain ⟨h1, h2, h3, h4⟩ := h
  unfold fX7_lookedAt
  rw [iz_sub, z1, iz_add, z0]
  simp only [iz_lt (a := hi - lo + 1) (b := 0) (by omega) (by omega) (by omega) (by omega)]
  by_cases c : hi < lo
  · rw [if_pos c]
    by_cases c2 : hi - lo + 1 < 0
    · rw [if_pos c2]
    · rw [if_neg c2, show hi - lo + 1 = 0 by omega]
  · rw [if_neg c, if_neg (by omega)]
theorem below_i (h : GF f N cs c ss s e bd' be L G) {Q x : Int} (hQ : 1 ≤ Q ∧ Q ≤ 5) (hx : -25 ≤ x ∧ x ≤ 25) (Yk : Nat) (hY : Yk ≤ bn L G Q 1) (l0 h0' : Int32) : ∃ lo hi : Int32, fX7_pointsBelow ss (nbd f) (iz Q) (iz (bl L Q 1)) (iz (G 1 * Q)) (iz (bl L Q 2)) (iz (G 2 * Q)) l0 h0' (iz (ss : Int)) (px s) (py s) (pz s) (pe e) (iz ((nbd f : Nat) : Int)) (px bd') (py bd') (pz bd') (pe be) (iz x) (iz (bl L Q 1 + Yk)) = some (iz ((cy (pB f N ss s e be Q) x (bl L Q 1) (bl L Q 2) (bn L G Q 2) Yk : Nat) : Int), lo, hi) := by
  have b1 := box_bd h hQ (show 1 < 3 by omega)
  have b2 := box_bd h hQ (show 2 < 3 by omega)
  have loop : ∀ (m fuel k : Nat) (l0 h0' : Int32), k + m = Yk → m < fuel → ∃ lo hi : Int32, LX7_pointsBelow_8 ss (nbd f) (iz Q) (iz (bl L Q 1)) (iz (G 1 * Q)) (iz (bl L Q 2)) (iz (G 2 * Q)) (iz (ss : Int)) (px s) (py s) (pz s) (pe e) (iz ((nbd f : Nat) : Int)) (px bd') (py bd') (pz bd') (pe be) fuel (iz x) (iz (bl L Q 1 + Yk)) (iz ((cy (pB f N ss s e be Q) x (bl L Q 1) (bl L Q 2) (bn L G Q 2) k : Nat) : Int)) (iz (bl L Q 1 + k)) l0 h0' = some (iz ((cy (pB f N ss s e be Q) x (bl L Q 1) (bl L Q 2) (bn L G Q 2) Yk : Nat) : Int), lo, hi) := by
    intro m
    induction m with
    | zero =>
      intro fuel k l0 h0' k1 k2
      obtain ⟨fuel, rfl⟩ : ∃ q, fuel = q + 1 := ⟨fuel - 1, by omega⟩
      refine ⟨l0, h0', ?_⟩
      rw [LX7_pointsBelow_8, if_pos (by rw [iz_le (by omega) (by omega) (by omega) (by omega)]; omega), show k = Yk by omega]
    | succ m ih =>
      intro fuel k l0 h0' k1 k2
      obtain ⟨fuel, rfl⟩ : ∃ q, fuel = q + 1 := ⟨fuel - 1, by omega⟩
      obtain ⟨lo, hi, q1, q2, q3⟩ := look_c h hQ hx (y := bl L Q 1 + k) (by omega) l0 h0'
      have ce := col_all q3
      rw [LX7_pointsBelow_8, if_neg (by rw [iz_le (by omega) (by omega) (by omega) (by omega)]; omega), if_neg (by rw [iz_lt (by omega) (by omega) (by omega) (by omega)]; omega), q1, bd_some, looked_i q2, bd_some, iz_add, z1, iz_add, ← ce]
      obtain ⟨lo', hi', q4⟩ := ih fuel (k + 1) (iz lo) (iz hi) (by omega) (by omega)
      refine ⟨lo', hi', ?_⟩
      rw [cy] at q4
      rw [show bl L Q 1 + (k : Int) + 1 = bl L Q 1 + ((k + 1 : Nat) : Int) by omega]
      exact q4
  unfold fX7_pointsBelow
  have := loop Yk FU 0 l0 h0' (by omega) (by unfold FU; omega)
  rw [show bl L Q 1 + ((0 : Nat) : Int) = bl L Q 1 by omega] at this
  exact this
end
