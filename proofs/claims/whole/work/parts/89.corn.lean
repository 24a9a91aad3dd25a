/-! longs; the class finds its corners -/
def lz (a : Int) : Int64 := Int64.ofInt a
theorem lz_add (a b : Int) : lz a + lz b = lz (a + b) := (Int64.ofInt_add a b).symm
theorem lz_sub (a b : Int) : lz a - lz b = lz (a - b) := (Int64.ofInt_sub a b).symm
theorem lz_mul (a b : Int) : lz a * lz b = lz (a * b) := (Int64.ofInt_mul a b).symm
theorem lz_neg (a : Int) : - lz a = lz (-a) := Int64.neg_ofInt
theorem lz_i {a : Int} (h : -9223372036854775808 ≤ a) (h2 : a < 9223372036854775808) : (lz a).toInt = a := Int64.toInt_ofInt_of_le (by omega) (by omega)
theorem lz_eq {a b : Int} (h : -9223372036854775808 ≤ a) (h2 : a < 9223372036854775808) (h3 : -9223372036854775808 ≤ b) (h4 : b < 9223372036854775808) : lz a = lz b ↔ a = b := by rw [← Int64.toInt_inj, lz_i h h2, lz_i h3 h4]
theorem lz_lt {a b : Int} (h : -9223372036854775808 ≤ a) (h2 : a < 9223372036854775808) (h3 : -9223372036854775808 ≤ b) (h4 : b < 9223372036854775808) : lz a < lz b ↔ a < b := by rw [Int64.lt_iff_toInt_lt, lz_i h h2, lz_i h3 h4]
theorem iz_lz {a : Int} (h : -2147483648 ≤ a) (h2 : a < 2147483648) : (iz a).toInt64 = lz a := by
  rw [← Int64.ofInt_int32ToInt, iz_i h h2]
  rfl
theorem lg_0 {a : Int} (h : -9223372036854775808 ≤ a) (h2 : a < 9223372036854775808) : lg_cmp (lz a) 0 = 0 ↔ a = 0 := by
  unfold lg_cmp
  rw [show (0 : Int64) = lz 0 from rfl]
  simp only [gt_iff_lt, lz_lt (a := 0) (b := a) (by omega) (by omega) h h2, lz_eq (a := a) (b := 0) h h2 (by omega) (by omega)]
  by_cases c : 0 < a
  · rw [if_pos c]
    exact ⟨fun h => absurd h (by decide), fun h => by omega⟩
  · rw [if_neg c]
    by_cases c2 : a = 0
    · rw [if_pos c2]; exact ⟨fun _ => c2, fun _ => rfl⟩
    · rw [if_neg c2]
      exact ⟨fun h => absurd h (by decide), fun h => (c2 h).elim⟩
theorem lg_pos {a : Int} (h : -9223372036854775808 ≤ a) (h2 : a < 9223372036854775808) : 0 < lg_cmp (lz a) 0 ↔ 0 < a := by
  unfold lg_cmp
  rw [show (0 : Int64) = lz 0 from rfl]
  simp only [gt_iff_lt, lz_lt (a := 0) (b := a) (by omega) (by omega) h h2, lz_eq (a := a) (b := 0) h h2 (by omega) (by omega)]
  by_cases c : 0 < a
  · rw [if_pos c]
    exact ⟨fun _ => c, fun _ => by decide⟩
  · rw [if_neg c]
    by_cases c2 : a = 0
    · rw [if_pos c2]; exact ⟨fun h => absurd h (by decide), fun h => (c h).elim⟩
    · rw [if_neg c2]
      exact ⟨fun h => absurd h (by decide), fun h => (c h).elim⟩
theorem excess_i {n i : Nat} {s : Nat → V3} {e : Nat → Int} (hi : i < n) (hn : n < 1000) (hs : sm100 (s i)) (he : -2000000 ≤ e i ∧ e i ≤ 2000000) (x : V3) (q : Int) : fX1_excess n (px s) (py s) (pz s) (pe e) (iz (i : Int)) (lz x.1) (lz x.2.1) (lz x.2.2) (lz q) = some (lz (d3 (s i) x - e i * q)) := by
  obtain ⟨⟨a1, a2⟩, ⟨b1, b2⟩, c1, c2⟩ := hs
  unfold fX1_excess
  rw [ix_gd hi (by omega), iz_cn (by omega), px_i, py_i, pz_i, pe_i, iz_lz (by omega) (by omega), iz_lz (by omega) (by omega), iz_lz (by omega) (by omega), iz_lz (by omega) (by omega)]
  simp only [lz_mul, lz_add, lz_sub]
  rfl
/-- how many of the first n sides hold v -/
def tc (s : Nat → V3) (e : Nat → Int) (v : V3) : Nat → Nat
  | 0 => 0
  | n + 1 => tc s e v n + (if d3 (s n) v = e n then 1 else 0)
theorem tc_le (s : Nat → V3) (e : Nat → Int) (v : V3) (n : Nat) : tc s e v n ≤ n := by
  induction n with
  | zero => exact Nat.le_refl _
  | succ n ih => unfold tc; split <;> omega
theorem tc1 (s : Nat → V3) (e : Nat → Int) (v : V3) (n : Nat) : 1 ≤ tc s e v n ↔ ∃ i, i < n ∧ d3 (s i) v = e i := by
  induction n with
  | zero => exact ⟨fun h => by unfold tc at h; omega, fun ⟨i, hi, _⟩ => by omega⟩
  | succ n ih =>
    unfold tc
    constructor
    · intro h
      by_cases c : d3 (s n) v = e n
      · exact ⟨n, by omega, c⟩
      · rw [if_neg c] at h
        obtain ⟨i, hi, h1⟩ := ih.mp (by omega)
        exact ⟨i, by omega, h1⟩
    · rintro ⟨i, hi, h1⟩
      by_cases c : i = n
      · subst c; rw [if_pos h1]; omega
      · have := ih.mpr ⟨i, by omega, h1⟩
        omega
theorem tc2 (s : Nat → V3) (e : Nat → Int) (v : V3) (n : Nat) : 2 ≤ tc s e v n ↔ ∃ i j, i < j ∧ j < n ∧ d3 (s i) v = e i ∧ d3 (s j) v = e j := by
  induction n with
  | zero => exact ⟨fun h => by unfold tc at h; omega, fun ⟨i, j, _, hi, _⟩ => by omega⟩
  | succ n ih =>
    unfold tc
    constructor
    · intro h
      by_cases c : d3 (s n) v = e n
      · rw [if_pos c] at h
        obtain ⟨i, hi, h1⟩ := (tc1 s e v n).mp (by omega)
        exact ⟨i, n, hi, by omega, h1, c⟩
      · rw [if_neg c] at h
        obtain ⟨i, j, hi, hj, h1, h2⟩ := ih.mp (by omega)
        exact ⟨i, j, hi, by omega, h1, h2⟩
    · rintro ⟨i, j, hi, hj, h1, h2⟩
      by_cases c : j = n
      · subst c
        rw [if_pos h2]
        have := (tc1 s e v j).mpr ⟨i, hi, h1⟩
        omega
      · have := ih.mpr ⟨i, j, hi, by omega, h1, h2⟩
        omega
theorem tc3 (s : Nat → V3) (e : Nat → Int) (v : V3) (n : Nat) : 3 ≤ tc s e v n ↔ ∃ i j l, i < j ∧ j < l ∧ l < n ∧ d3 (s i) v = e i ∧ d3 (s j) v = e j ∧ d3 (s l) v = e l := by
  induction n with
  | zero => exact ⟨fun h => by unfold tc at h; omega, fun ⟨i, j, l, _, _, hi, _⟩ => by omega⟩
  | succ n ih =>
    unfold tc
    constructor
    · intro h
      by_cases c : d3 (s n) v = e n
      · rw [if_pos c] at h
        obtain ⟨i, j, hi, hj, h1, h2⟩ := (tc2 s e v n).mp (by omega)
        exact ⟨i, j, n, hi, hj, by omega, h1, h2, c⟩
      · rw [if_neg c] at h
        obtain ⟨i, j, l, hi, hj, hl, h1, h2, h3⟩ := ih.mp (by omega)
        exact ⟨i, j, l, hi, hj, by omega, h1, h2, h3⟩
    · rintro ⟨i, j, l, hi, hj, hl, h1, h2, h3⟩
      by_cases c : l = n
      · subst c
        rw [if_pos h3]
        have := (tc2 s e v l).mpr ⟨i, j, hi, hj, h1, h2⟩
        omega
      · have := ih.mpr ⟨i, j, l, hi, hj, by omega, h1, h2, h3⟩
        omega
theorem touched_i {ss k p : Nat} {s q : Nat → V3} {e : Nat → Int} (hss : ss ≤ 80) (hk : k ≤ 121) (hp : p < k) (hr : rc3 (q p)) (hs : ∀ i, i < ss → sm100 (s i) ∧ -2000000 ≤ e i ∧ e i ≤ 2000000) : fX1_touched 80 121 (iz (ss : Int)) (px s) (py s) (pz s) (pe e) (px q) (py q) (pz q) (iz (p : Int)) = some (iz ((tc s e (q p) ss : Nat) : Int)) := by
  have loop : ∀ (m fuel i : Nat), i + m = ss → m < fuel → LX1_touched_5 80 121 (iz (ss : Int)) (px s) (py s) (pz s) (pe e) (px q) (py q) (pz q) fuel (iz (p : Int)) (iz ((tc s e (q p) i : Nat) : Int)) (iz (i : Int)) = some (iz ((tc s e (q p) ss : Nat) : Int)) := by
    intro m
    induction m with
    | zero =>
      intro fuel i h1 h2
      obtain ⟨fuel, rfl⟩ : ∃ q, fuel = q + 1 := ⟨fuel - 1, by omega⟩
      rw [LX1_touched_5, if_pos ((ix_le (by omega) (by omega)).mpr (by omega)), show i = ss by omega]
    | succ m ih =>
      intro fuel i h1 h2
      obtain ⟨fuel, rfl⟩ : ∃ q, fuel = q + 1 := ⟨fuel - 1, by omega⟩
      obtain ⟨g1, g2⟩ := hs i (by omega)
      have hd := d3_bd g1 hr
      obtain ⟨r1, r2, r3⟩ := hr
      have hx := excess_i (n := 80) (i := i) (s := s) (e := e) (by omega) (by omega) g1 g2 (q p) 1
      rw [LX1_touched_5, if_neg (fun h => by have := (ix_le (by omega) (by omega)).mp h; omega), ix_gd (by omega) (by omega), iz_cn (by omega), px_i, py_i, pz_i, iz_lz (by omega) (by omega), iz_lz (by omega) (by omega), iz_lz (by omega) (by omega), show (1 : Int64) = lz 1 from rfl, hx, bd_some]
      unfold JX1_touched_50
      rw [ix_s, ix_s]
      have := ih fuel (i + 1) (by omega) (by omega)
      by_cases c : d3 (s i) (q p) - e i * 1 = 0
      · rw [if_pos ((lg_0 (by omega) (by omega)).mpr c)]
        rw [tc, if_pos (show d3 (s i) (q p) = e i by omega)] at this
        exact this
      · rw [if_neg (fun h => c ((lg_0 (by omega) (by omega)).mp h))]
        rw [tc, if_neg (show ¬ d3 (s i) (q p) = e i by omega)] at this
        exact this
  exact loop ss FU 0 (by omega) (by unfold FU; omega)
def zp (n : Nat) (p : Nat → V3) : Nat → V3 := fun i => if i < n then p i else o3
def ze (n : Nat) (p : Nat → Int) : Nat → Int := fun i => if i < n then p i else 0
theorem gd_len_iz {α : Type} {k B : Nat} {o : Option α} (h : k ≤ B) (hB : B < 1000) : gd_len (iz (k : Int)) B o = o := by
  unfold gd_len
  rw [if_neg]
  rintro (h1 | h1)
  · rw [z0, iz_lt (by omega) (by omega) (by omega) (by omega)] at h1; omega
  · rw [iz_cn (by omega)] at h1; omega
theorem max0 {k : Nat} (h : k < 1000) : (if iz (k : Int) < 0 then 0 else iz (k : Int)) = iz (k : Int) := by
  rw [if_neg]
  rw [z0, iz_lt (by omega) (by omega) (by omega) (by omega)]
  omega
theorem cp_iz {α : Type} {k n0 n1 : Nat} {o : Option α} (h0 : k ≤ n0) (h1 : k ≤ n1) (hk : k < 1000) : gd_cp 0 0 (iz (k : Int)) n0 n1 o = o := by
  unfold gd_cp
  rw [if_neg]
  rintro (h | h | h | h | h)
  · exact absurd h (by decide)
  · exact absurd h (by decide)
  · rw [z0, iz_lt (by omega) (by omega) (by omega) (by omega)] at h; omega
  · rw [iz_cn (by omega), show (0 : Int32).toNatClampNeg = 0 from rfl] at h; omega
  · rw [iz_cn (by omega), show (0 : Int32).toNatClampNeg = 0 from rfl] at h; omega
theorem cpy_x (p : Nat → V3) (k : Nat) : va_cpy (px p) (fun _ => (0 : Int32)) 0 0 k = px (zp k p) := by
  funext i
  unfold va_cpy px zp
  by_cases c : i < k
  · rw [if_pos (by omega), if_pos c]; simp
  · rw [if_neg (by omega), if_neg c]; rfl
theorem cpy_y (p : Nat → V3) (k : Nat) : va_cpy (py p) (fun _ => (0 : Int32)) 0 0 k = py (zp k p) := by
  funext i
  unfold va_cpy py zp
  by_cases c : i < k
  · rw [if_pos (by omega), if_pos c]; simp
  · rw [if_neg (by omega), if_neg c]; rfl
theorem cpy_z (p : Nat → V3) (k : Nat) : va_cpy (pz p) (fun _ => (0 : Int32)) 0 0 k = pz (zp k p) := by
  funext i
  unfold va_cpy pz zp
  by_cases c : i < k
  · rw [if_pos (by omega), if_pos c]; simp
  · rw [if_neg (by omega), if_neg c]; rfl
theorem cpy_e (p : Nat → Int) (k : Nat) : va_cpy (pe p) (fun _ => (0 : Int32)) 0 0 k = pe (ze k p) := by
  funext i
  unfold va_cpy pe ze
  by_cases c : i < k
  · rw [if_pos (by omega), if_pos c]; simp
  · rw [if_neg (by omega), if_neg c]; rfl
theorem trim4 {n k : Nat} (p : Nat → V3) (h : k ≤ n) (hn : n ≤ 121) : fX4_trimmed n (iz (k : Int)) (px p) (py p) (pz p) = some (iz (k : Int), px (zp k p), k, py (zp k p), pz (zp k p)) := by
  unfold fX4_trimmed fX4_init
  rw [max0 (by omega), gd_len_iz (by omega) (by omega), gd_len_iz (by omega) (by omega), gd_len_iz (by omega) (by omega), bd_some, iz_cn (by omega), cp_iz h (Nat.le_refl _) (by omega), cp_iz h (Nat.le_refl _) (by omega), cp_iz h (Nat.le_refl _) (by omega), show (0 : Int32).toNatClampNeg = 0 from rfl]
  dsimp only
  rw [cpy_x, cpy_y, cpy_z]
theorem trim1 {n k : Nat} (p : Nat → V3) (e : Nat → Int) (h : k ≤ n) (hn : n ≤ 80) : fX1_trimmed n (iz (k : Int)) (px p) (py p) (pz p) (pe e) = some (iz (k : Int), px (zp k p), k, py (zp k p), pz (zp k p), pe (ze k e)) := by
  unfold fX1_trimmed fX1_init
  rw [max0 (by omega), gd_len_iz (by omega) (by omega), gd_len_iz (by omega) (by omega), gd_len_iz (by omega) (by omega), gd_len_iz (by omega) (by omega), bd_some, iz_cn (by omega), cp_iz h (Nat.le_refl _) (by omega), cp_iz h (Nat.le_refl _) (by omega), cp_iz h (Nat.le_refl _) (by omega), cp_iz h (Nat.le_refl _) (by omega), show (0 : Int32).toNatClampNeg = 0 from rfl]
  dsimp only
  rw [cpy_x, cpy_y, cpy_z, cpy_e]
theorem corners_i {ss k f : Nat} {s q : Nat → V3} {e : Nat → Int} (hf : f ≤ 3) (hss : ss ≤ 80) (hk : k ≤ 121) (hq : SS k q) (hr : ∀ i, i < k → rc3 (q i)) (hs : ∀ i, i < ss → sm100 (s i) ∧ -2000000 ≤ e i ∧ e i ≤ 2000000) : ∃ (cs : Nat) (c p : Nat → V3), fX3_cornersFound (iz (f : Int)) (iz (k : Int)) (px q) (py q) (pz q) (iz (ss : Int)) (px s) (py s) (pz s) (pe e) = some (iz (cs : Int), px p, py p, pz p, iz (cs : Int), px c, cs, py c, pz c) ∧ cs ≤ k ∧ SS cs c ∧ ∀ v, Mm cs c v ↔ Mm k q v ∧ f ≤ tc s e v ss := by
  have loop : ∀ (m fuel i cs : Nat) (p : Nat → V3), i + m = k → m < fuel → cs ≤ i → SS cs p → (∀ v, Mm cs p v ↔ Mm i q v ∧ f ≤ tc s e v ss) → (∀ a, i ≤ a → p a = q a) → ∃ (cs' : Nat) (c p' : Nat → V3), LX3_cornersFound_4 (iz (f : Int)) (iz (ss : Int)) (px s) (py s) (pz s) (pe e) fuel (iz (cs : Int)) (iz (i : Int)) (iz (k : Int)) (px p) (py p) (pz p) = some (iz (cs' : Int), px p', py p', pz p', iz (cs' : Int), px c, cs', py c, pz c) ∧ cs' ≤ k ∧ SS cs' c ∧ ∀ v, Mm cs' c v ↔ Mm k q v ∧ f ≤ tc s e v ss := by
    intro m
    induction m with
    | zero =>
      intro fuel i cs p h1 h2 h3 h4 h5 h6
      obtain ⟨fuel, rfl⟩ : ∃ q, fuel = q + 1 := ⟨fuel - 1, by omega⟩
      refine ⟨cs, zp cs p, p, ?_, by omega, fun a b hab hb => ?_, fun v => ?_⟩
      · rw [LX3_cornersFound_4, if_pos ((ix_le (by omega) (by omega)).mpr (by omega)), trim4 p (by omega) (by omega), bd_some]
      · unfold zp
        rw [if_pos (by omega), if_pos hb]
        exact h4 a b hab hb
      · rw [show k = i by omega, ← h5 v]
        unfold zp
        constructor
        · rintro ⟨a, ha, ea⟩
          dsimp only at ea
          rw [if_pos ha] at ea
          exact ⟨a, ha, ea⟩
        · rintro ⟨a, ha, ea⟩
          exact ⟨a, ha, by dsimp only; rw [if_pos ha]; exact ea⟩
    | succ m ih =>
      intro fuel i cs p h1 h2 h3 h4 h5 h6
      obtain ⟨fuel, rfl⟩ : ∃ q, fuel = q + 1 := ⟨fuel - 1, by omega⟩
      have pi := h6 i (Nat.le_refl _)
      have tl := tc_le s e (p i) ss
      rw [LX3_cornersFound_4, if_neg (fun h => by have := (ix_le (by omega) (by omega)).mp h; omega), touched_i (k := i + 1) hss (by omega) (by omega) (by rw [pi]; exact hr i (by omega)) hs, bd_some]
      unfold JX3_cornersFound_46
      rw [ix_s]
      have ex : ∀ v, Mm (i + 1) q v ↔ Mm i q v ∨ v = q i := fun v => by
        constructor
        · rintro ⟨a, ha, ea⟩
          by_cases c : a = i
          · subst c; exact Or.inr ea.symm
          · exact Or.inl ⟨a, by omega, ea⟩
        · rintro (⟨a, ha, ea⟩ | ea)
          · exact ⟨a, by omega, ea⟩
          · exact ⟨i, by omega, ea.symm⟩
      by_cases c : tc s e (p i) ss < f
      · rw [if_pos ((ix_lt (by omega) (by omega)).mpr c)]
        refine ih fuel (i + 1) cs p (by omega) (by omega) (by omega) h4 (fun v => ?_) (fun a ha => h6 a (by omega))
        rw [h5 v, ex v]
        constructor
        · rintro ⟨a, b⟩
          exact ⟨Or.inl a, b⟩
        · rintro ⟨a | a, b⟩
          · exact ⟨a, b⟩
          · rw [pi, ← a] at c; omega
      · rw [if_neg (fun h => c ((ix_lt (by omega) (by omega)).mp h)), copy_i (by omega) (by omega) (by omega), bd_some, ix_s]
        refine ih fuel (i + 1) (cs + 1) (ud p cs (p i)) (by omega) (by omega) (by omega) (fun a b hab hb => ?_) (fun v => ?_) (fun a ha => by rw [ud_n p _ (by omega)]; exact h6 a (by omega))
        · rw [ud_n p _ (show a ≠ cs by omega)]
          by_cases cb : b = cs
          · rw [cb, ud_s, pi]
            obtain ⟨⟨x, hx, ex⟩, _⟩ := (h5 (p a)).mp ⟨a, by omega, rfl⟩
            rw [← ex]
            exact hq x i (by omega) (by omega)
          · rw [ud_n p _ cb]
            exact h4 a b hab (by omega)
        · rw [ex v]
          constructor
          · rintro ⟨a, ha, ea⟩
            by_cases ca : a = cs
            · rw [ca, ud_s] at ea
              exact ⟨Or.inr (by rw [← ea, pi]), by rw [← ea]; omega⟩
            · rw [ud_n p _ ca] at ea
              obtain ⟨g1, g2⟩ := (h5 v).mp ⟨a, by omega, ea⟩
              exact ⟨Or.inl g1, g2⟩
          · rintro ⟨a | a, b⟩
            · obtain ⟨x, hx, ex⟩ := (h5 v).mpr ⟨a, b⟩
              exact ⟨x, by omega, by rw [ud_n p _ (by omega)]; exact ex⟩
            · exact ⟨cs, by omega, by rw [ud_s, a, pi]⟩
  exact loop k FU 0 0 q (by omega) (by unfold FU; omega) (Nat.le_refl _) (fun a b _ hb => by omega) (fun v => ⟨fun ⟨a, ha, _⟩ => by omega, fun ⟨⟨a, ha, _⟩, _⟩ => by omega⟩) (fun a _ => rfl)
