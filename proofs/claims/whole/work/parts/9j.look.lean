/-! columns: the class looks at one -/
theorem neg_msb (x : Int32) : (x.toBitVec.msb = true) ↔ x.toInt < 0 := by
  rw [BitVec.msb_eq_toInt, decide_eq_true_iff]
  exact Iff.rfl
theorem xor_nn (x y : Int32) : 0 ≤ x ^^^ y ↔ (x.toInt < 0 ↔ y.toInt < 0) := by
  rw [le_i, show (0 : Int32).toInt = 0 from rfl]
  have h1 := neg_msb (x ^^^ y)
  have h2 := neg_msb x
  have h3 := neg_msb y
  rw [Int32.toBitVec_xor, BitVec.msb_xor] at h1
  have : (0 : Int) ≤ (x ^^^ y).toInt ↔ ¬ (x ^^^ y).toInt < 0 := by omega
  rw [this, ← h1, ← h2, ← h3]
  cases x.toBitVec.msb <;> cases y.toBitVec.msb <;> simp
theorem fdv_i {a b : Int} (ha : -2000000000 ≤ a) (ha2 : a ≤ 2000000000) (hb : 0 < b) (hb2 : b ≤ 2000000000) : fdv (iz a) (iz b) = iz (a / b) := by
  unfold fdv
  have hx := xor_nn (iz a) (iz b)
  rw [iz_i (by omega) (by omega), iz_i (by omega) (by omega)] at hx
  rw [iz_div (by omega) (by omega) (by omega) (by omega)]
  by_cases c : 0 ≤ a
  · rw [if_pos (hx.mpr ⟨fun h => by omega, fun h => by omega⟩), Int.tdiv_eq_ediv_of_nonneg c]
  · rw [if_neg (fun h => by have := (hx.mp h).mp (by omega); omega), iz_mul, z1, iz_sub]
    have e1 : a.tdiv b = -((-a) / b) := by
      have : a = -(-a) := by omega
      rw [this, Int.neg_tdiv, Int.tdiv_eq_ediv_of_nonneg (by omega)]
      simp
    have h1 := Int.mul_ediv_add_emod (-a) b
    have h2 := Int.emod_nonneg (-a) (show b ≠ 0 by omega)
    have h3 := Int.emod_lt_of_pos (-a) hb
    have h4 := Int.mul_ediv_add_emod a b
    have h5 := Int.emod_nonneg a (show b ≠ 0 by omega)
    have h6 := Int.emod_lt_of_pos a hb
    have hq : (-a) / b ≤ -a := Int.ediv_le_self _ (by omega)
    have hq0 : 0 ≤ (-a) / b := Int.ediv_nonneg (by omega) (by omega)
    have pb : -((-a) / b) * b = -(b * ((-a) / b)) := by rw [Int.neg_mul, Int.mul_comm]
    rw [e1]
    by_cases c2 : -((-a) / b) * b = a
    · rw [if_pos (by rw [c2])]
      congr 1
      have : a / b = -((-a) / b) := by
        rw [← c2]
        rw [Int.mul_ediv_cancel _ (show b ≠ 0 by omega), c2]
      exact this.symm
    · rw [if_neg (by rw [iz_eq (by omega) (by omega) (by omega) (by omega)]; exact c2)]
      congr 1
      have r1 : (-a) % b ≠ 0 := fun h => c2 (by omega)
      have le1 : -((-a) / b) - 1 ≤ a / b := (Int.le_ediv_iff_mul_le hb).mpr (by
        have : (-((-a) / b) - 1) * b = -((-a) / b) * b - b := by grind
        omega)
      have le2 : a / b < -((-a) / b) := by
        refine Int.ediv_lt_of_lt_mul hb ?_
        omega
      omega

/-- numbers that a column's ends have -/
def rgC (lo hi : Int) : Prop := -100 ≤ lo ∧ lo ≤ 2000000 ∧ -2000000 ≤ hi ∧ hi ≤ 100
/-- what bound leaves -/
theorem bound_i {lo hi c rest : Int} (h : rgC lo hi) (h5 : -4000 ≤ c) (h6 : c ≤ 4000) (h7 : -1900000 ≤ rest) (h8 : rest ≤ 1900000) (hne : c = 0 → lo ≤ hi + 1) : ∃ lo' hi' : Int, fX7_bound (iz lo) (iz hi) (iz c) (iz rest) = some (iz lo', iz hi') ∧ rgC lo' hi' ∧ (c = 0 → lo' ≤ hi' + 1) ∧ ∀ z, (lo' ≤ z ∧ z ≤ hi') ↔ (lo ≤ z ∧ z ≤ hi) ∧ c * z ≤ rest := by
  obtain ⟨h1, h2, h3, h4⟩ := h
  unfold fX7_bound
  rw [z0]
  rcases Int.lt_trichotomy c 0 with cc | cc | cc
  · have q1 : rest / (-c) ≤ 1900000 := Int.le_trans (Int.ediv_le_ediv (by omega) h8) (by
      have := Int.ediv_le_self (a := 1900000) (-c) (by omega); exact this)
    have q2 : -1900001 ≤ rest / (-c) := by
      refine (Int.le_ediv_iff_mul_le (by omega)).mpr ?_
      have := Int.mul_le_mul_of_nonneg_left (show (1 : Int) ≤ -c by omega) (show (0 : Int) ≤ 1900001 by omega)
      have e : (-1900001 : Int) * -c = -(1900001 * -c) := by rw [Int.neg_mul]
      omega
    rw [if_pos (by rw [iz_le (by omega) (by omega) (by omega) (by omega)]; omega), if_neg (by rw [iz_le (by omega) (by omega) (by omega) (by omega)]; omega), iz_neg, nz_iz (by omega) (by omega) (by omega), fdv_i (by omega) (by omega) (by omega) (by omega), iz_neg]
    have key : ∀ z : Int, -(rest / (-c)) ≤ z ↔ c * z ≤ rest := fun z => by
      have : -z ≤ rest / (-c) ↔ -z * -c ≤ rest := Int.le_ediv_iff_mul_le (by omega)
      have e : -z * -c = c * z := by grind
      rw [e] at this
      omega
    refine ⟨if lo < -(rest / (-c)) then -(rest / (-c)) else lo, hi, ?_, ?_, fun h => by omega, fun z => ?_⟩
    · simp only [iz_lt (a := lo) (b := -(rest / (-c))) (by omega) (by omega) (by omega) (by omega)]
      split <;> rfl
    · unfold rgC; split <;> omega
    · rw [← key z]
      split <;> omega
  · subst cc
    have e := hne rfl
    rw [if_pos (by rw [iz_le (by omega) (by omega) (by omega) (by omega)]; omega), if_pos (by rw [iz_le (by omega) (by omega) (by omega) (by omega)]; omega)]
    by_cases c2 : 0 ≤ rest
    · rw [if_pos (by rw [iz_le (by omega) (by omega) (by omega) (by omega)]; exact c2)]
      exact ⟨lo, hi, rfl, ⟨h1, h2, h3, h4⟩, fun _ => e, fun z => by rw [Int.zero_mul]; omega⟩
    · rw [if_neg (by rw [iz_le (by omega) (by omega) (by omega) (by omega)]; exact c2), z1, iz_sub]
      exact ⟨lo, lo - 1, rfl, ⟨h1, h2, by omega, by omega⟩, fun _ => by omega, fun z => by rw [Int.zero_mul]; omega⟩
  · have q1 : rest / c ≤ 1900000 := Int.le_trans (Int.ediv_le_ediv (by omega) h8) (by
      have := Int.ediv_le_self (a := 1900000) c (by omega); exact this)
    have q2 : -1900001 ≤ rest / c := by
      refine (Int.le_ediv_iff_mul_le (by omega)).mpr ?_
      have := Int.mul_le_mul_of_nonneg_left (show (1 : Int) ≤ c by omega) (show (0 : Int) ≤ 1900001 by omega)
      have e : (-1900001 : Int) * c = -(1900001 * c) := by rw [Int.neg_mul]
      omega
    rw [if_neg (by rw [iz_le (by omega) (by omega) (by omega) (by omega)]; omega), nz_iz (by omega) (by omega) (by omega), fdv_i (by omega) (by omega) (by omega) (by omega)]
    have key : ∀ z : Int, z ≤ rest / c ↔ c * z ≤ rest := fun z => by
      rw [Int.le_ediv_iff_mul_le cc, Int.mul_comm]
    refine ⟨lo, if rest / c < hi then rest / c else hi, ?_, ?_, fun h => by omega, fun z => ?_⟩
    · simp only [iz_lt (a := rest / c) (b := hi) (by omega) (by omega) (by omega) (by omega)]
      split <;> rfl
    · unfold rgC; split <;> omega
    · rw [← key z]
      split <;> omega
/-- a whole point of the swelling by Q -/
def InB (f : Nat) (N : V3) (ss : Nat) (s : Nat → V3) (e be : Nat → Int) (Q : Int) (x y z : Int) : Prop := wh f N ss s e be (x, y, z) Q ≠ 0
theorem lp_ne (s : Nat → V3) (e : Nat → Int) (X : V3) (Q : Int) : ∀ (m i : Nat) (v : Int), v ≠ 0 → (lp s e X Q m i v ≠ 0 ↔ ∀ j, i ≤ j → j < i + m → d3 (s j) X - e j * Q ≤ 0) := by
  intro m
  induction m with
  | zero => intro i v hv; exact ⟨fun _ j h1 h2 => by omega, fun _ => hv⟩
  | succ m ih =>
    intro i v hv
    rw [lp]
    by_cases c : 0 < d3 (s i) X - e i * Q
    · rw [if_pos c]
      exact ⟨fun h => (h rfl).elim, fun h => by have := h i (Nat.le_refl _) (by omega); omega⟩
    · rw [if_neg c, ih (i + 1) _ (by split <;> omega)]
      constructor
      · intro h j h1 h2
        by_cases cj : j = i
        · rw [cj]; omega
        · exact h j (by omega) (by omega)
      · intro h j h1 h2
        exact h j (by omega) (by omega)
theorem wh_ne (f : Nat) (N : V3) (ss : Nat) (s : Nat → V3) (e be : Nat → Int) (X : V3) (Q : Int) : wh f N ss s e be X Q ≠ 0 ↔ (∀ i, i < nbd f → d3 (bnd f N i) X - be i * Q = 0) ∧ ∀ i, i < ss → d3 (s i) X - e i * Q ≤ 0 := by
  unfold wh
  by_cases c : ∀ i, i < nbd f → d3 (bnd f N i) X - be i * Q = 0
  · rw [if_pos c, lp_ne s e X Q ss 0 2 (by omega)]
    exact ⟨fun h => ⟨c, fun i hi => h i (Nat.zero_le _) (by omega)⟩, fun h j h1 h2 => h.2 j (by omega)⟩
  · rw [if_neg c]
    exact ⟨fun h => (h rfl).elim, fun h => (c h.1).elim⟩
section
variable {f : Nat} {N : V3} {cs : Nat} {c : Nat → V3} {ss : Nat} {s : Nat → V3} {e : Nat → Int} {bd' : Nat → V3} {be L G : Nat → Int}
theorem rest_bd {B : Int} (hB0 : 0 ≤ B) (hB : B ≤ 4000) {v : V3} {e0 Q x y : Int} (hv : bdv B v) (he : -100000 ≤ e0 ∧ e0 ≤ 100000) (hQ : 0 ≤ Q ∧ Q ≤ 5) (hx : -25 ≤ x ∧ x ≤ 25) (hy : -25 ≤ y ∧ y ≤ 25) : -1900000 ≤ e0 * Q - v.1 * x - v.2.1 * y ∧ e0 * Q - v.1 * x - v.2.1 * y ≤ 1900000 := by
  obtain ⟨⟨a1, a2⟩, ⟨b1, b2⟩, _⟩ := hv
  have m1 := mbd (a := e0) (b := Q) 100000 5 he.1 he.2 (by omega) (by omega)
  have m2 := mbd (a := v.1) (b := x) 4000 25 (by omega) (by omega) (by omega) (by omega)
  have m3 := mbd (a := v.2.1) (b := y) 4000 25 (by omega) (by omega) (by omega) (by omega)
  omega
theorem look_i (h : GF f N cs c ss s e bd' be L G) {Q x y lz0 gz : Int} (hQ : 1 ≤ Q ∧ Q ≤ 5) (hx : -25 ≤ x ∧ x ≤ 25) (hy : -25 ≤ y ∧ y ≤ 25) (hl : -25 ≤ lz0) (hg : gz ≤ 25) (hlg : lz0 ≤ gz) (l0 h0' : Int32) : ∃ lo hi : Int, fX7_look ss (nbd f) (iz Q) (iz lz0) (iz gz) l0 h0' (iz (ss : Int)) (px s) (py s) (pz s) (pe e) (iz ((nbd f : Nat) : Int)) (px bd') (py bd') (pz bd') (pe be) (iz x) (iz y) = some (iz lo, iz hi) ∧ rgC lo hi ∧ ∀ z, (lo ≤ z ∧ z ≤ hi) ↔ (lz0 ≤ z ∧ z ≤ gz) ∧ InB f N ss s e be Q x y z := by
  obtain ⟨f3, c1, c40, s80, hs, hN, hbd, hbe, h0, hcr, hLG⟩ := h
  have nb3 : nbd f ≤ 3 := by unfold nbd; split; omega; split <;> omega
  have dS : ∀ i z, d3 (s i) (x, y, z) - e i * Q ≤ 0 ↔ (s i).2.2 * z ≤ e i * Q - (s i).1 * x - (s i).2.1 * y := fun i z => by
    have : d3 (s i) (x, y, z) = (s i).1 * x + (s i).2.1 * y + (s i).2.2 * z := rfl
    rw [this]; omega
  have dB : ∀ i z, d3 (bnd f N i) (x, y, z) - be i * Q = 0 ↔ (bnd f N i).2.2 * z ≤ be i * Q - (bnd f N i).1 * x - (bnd f N i).2.1 * y ∧ -(bnd f N i).2.2 * z ≤ -(be i * Q - (bnd f N i).1 * x - (bnd f N i).2.1 * y) := fun i z => by
    have : d3 (bnd f N i) (x, y, z) = (bnd f N i).1 * x + (bnd f N i).2.1 * y + (bnd f N i).2.2 * z := rfl
    rw [this, Int.neg_mul]; omega
  have l2 : ∀ (m fuel i : Nat) (lo hi : Int), i + m = ss → m < fuel → rgC lo hi → ∃ lo' hi' : Int, LX7_look_120 ss (nbd f) (iz Q) (iz lz0) (iz gz) (iz (ss : Int)) (px s) (py s) (pz s) (pe e) (iz ((nbd f : Nat) : Int)) (px bd') (py bd') (pz bd') (pe be) fuel (iz x) (iz y) (iz (i : Int)) (iz lo) (iz hi) = some (iz lo', iz hi') ∧ rgC lo' hi' ∧ ∀ z, (lo' ≤ z ∧ z ≤ hi') ↔ (lo ≤ z ∧ z ≤ hi) ∧ ∀ j, i ≤ j → j < ss → d3 (s j) (x, y, z) - e j * Q ≤ 0 := by
    intro m
    induction m with
    | zero =>
      intro fuel i lo hi k1 k2 hr
      obtain ⟨fuel, rfl⟩ : ∃ q, fuel = q + 1 := ⟨fuel - 1, by omega⟩
      exact ⟨lo, hi, by rw [LX7_look_120, if_pos ((ix_le (by omega) (by omega)).mpr (by omega))], hr, fun z => ⟨fun h => ⟨h, fun j h1 h2 => by omega⟩, fun h => h.1⟩⟩
    | succ m ih =>
      intro fuel i lo hi k1 k2 hr
      obtain ⟨fuel, rfl⟩ : ∃ q, fuel = q + 1 := ⟨fuel - 1, by omega⟩
      have hr' := hr
      obtain ⟨r1, r2, r3, r4⟩ := hr'
      rw [LX7_look_120, if_neg (fun h => by have := (ix_le (by omega) (by omega)).mp h; omega)]
      by_cases ce : hi < lo
      · rw [if_pos (by rw [iz_lt (by omega) (by omega) (by omega) (by omega)]; exact ce)]
        exact ⟨lo, hi, rfl, hr, fun z => ⟨fun h => by omega, fun h => h.1⟩⟩
      · obtain ⟨g1, g2⟩ := hs i (by omega)
        have rb := rest_bd (Q := Q) (x := x) (y := y) (by omega) (by omega) g1 g2 ⟨by omega, by omega⟩ hx hy
        have g1' := g1
        obtain ⟨_, _, w5, w6⟩ := g1'
        obtain ⟨lo1, hi1, b1, b2, _, b4⟩ := bound_i (lo := lo) (hi := hi) (c := (s i).2.2) (rest := e i * Q - (s i).1 * x - (s i).2.1 * y) hr (by omega) (by omega) rb.1 rb.2 (fun _ => by omega)
        obtain ⟨lo2, hi2, q1, q2, q3⟩ := ih fuel (i + 1) lo1 hi1 (by omega) (by omega) b2
        refine ⟨lo2, hi2, ?_, q2, fun z => ?_⟩
        · rw [if_neg (by rw [iz_lt (by omega) (by omega) (by omega) (by omega)]; exact ce), ix_gd (by omega) (by omega), iz_cn (by omega), px_i, py_i, pz_i, pe_i]
          simp only [iz_mul, iz_sub]
          rw [b1, bd_some, ix_s]
          exact q1
        · rw [q3 z, b4 z, ← dS i z]
          constructor
          · rintro ⟨⟨h1, h2⟩, h3⟩
            refine ⟨h1, fun j h4 h5 => ?_⟩
            by_cases cj : j = i
            · rw [cj]; exact h2
            · exact h3 j (by omega) h5
          · rintro ⟨h1, h2⟩
            exact ⟨⟨h1, h2 i (Nat.le_refl _) (by omega)⟩, fun j h4 h5 => h2 j (by omega) h5⟩
  have l1 : ∀ (m fuel i : Nat) (lo hi : Int), i + m = nbd f → m < fuel → rgC lo hi → ∃ lo' hi' : Int, LX7_look_18 ss (nbd f) (iz Q) (iz lz0) (iz gz) (iz (ss : Int)) (px s) (py s) (pz s) (pe e) (iz ((nbd f : Nat) : Int)) (px bd') (py bd') (pz bd') (pe be) fuel (iz x) (iz y) (iz (i : Int)) (iz lo) (iz hi) = some (iz lo', iz hi') ∧ rgC lo' hi' ∧ ∀ z, (lo' ≤ z ∧ z ≤ hi') ↔ (lo ≤ z ∧ z ≤ hi) ∧ (∀ j, i ≤ j → j < nbd f → d3 (bnd f N j) (x, y, z) - be j * Q = 0) ∧ ∀ j, j < ss → d3 (s j) (x, y, z) - e j * Q ≤ 0 := by
    intro m
    induction m with
    | zero =>
      intro fuel i lo hi k1 k2 hr
      obtain ⟨fuel, rfl⟩ : ∃ q, fuel = q + 1 := ⟨fuel - 1, by omega⟩
      obtain ⟨lo2, hi2, q1, q2, q3⟩ := l2 ss FU 0 lo hi (by omega) (by unfold FU; omega) hr
      refine ⟨lo2, hi2, ?_, q2, fun z => (q3 z).trans ⟨fun h => ⟨h.1, fun j h1 h2 => by omega, fun j hj => h.2 j (Nat.zero_le _) hj⟩, fun h => ⟨h.1, fun j _ hj => h.2.2 j hj⟩⟩⟩
      rw [LX7_look_18, if_pos ((ix_le (by omega) (by omega)).mpr (by omega))]
      exact q1
    | succ m ih =>
      intro fuel i lo hi k1 k2 hr
      obtain ⟨fuel, rfl⟩ : ∃ q, fuel = q + 1 := ⟨fuel - 1, by omega⟩
      have hr' := hr
      obtain ⟨r1, r2, r3, r4⟩ := hr'
      rw [LX7_look_18, if_neg (fun h => by have := (ix_le (by omega) (by omega)).mp h; omega)]
      by_cases ce : hi < lo
      · rw [if_pos (by rw [iz_lt (by omega) (by omega) (by omega) (by omega)]; exact ce)]
        obtain ⟨lo2, hi2, q1, q2, q3⟩ := l2 ss FU 0 lo hi (by omega) (by unfold FU; omega) hr
        refine ⟨lo2, hi2, q1, q2, fun z => (q3 z).trans ⟨fun h => by omega, fun h => by omega⟩⟩
      · obtain ⟨gb, g2⟩ := hbd i (by omega)
        have g1 : bdv 200 (bnd f N i) := bnd_bd hN i
        have rb := rest_bd (B := 200) (Q := Q) (x := x) (y := y) (by omega) (by omega) g1 g2 ⟨by omega, by omega⟩ hx hy
        have g1' := g1
        obtain ⟨_, _, w5, w6⟩ := g1'
        obtain ⟨lo1, hi1, b1, b2, b3, b4⟩ := bound_i (lo := lo) (hi := hi) (c := (bnd f N i).2.2) (rest := be i * Q - (bnd f N i).1 * x - (bnd f N i).2.1 * y) hr (by omega) (by omega) rb.1 rb.2 (fun _ => by omega)
        obtain ⟨lo3, hi3, d1, d2, _, d4⟩ := bound_i (lo := lo1) (hi := hi1) (c := -(bnd f N i).2.2) (rest := -(be i * Q - (bnd f N i).1 * x - (bnd f N i).2.1 * y)) b2 (by omega) (by omega) (by omega) (by omega) (fun h => b3 (by omega))
        obtain ⟨lo2, hi2, q1, q2, q3⟩ := ih fuel (i + 1) lo3 hi3 (by omega) (by omega) d2
        refine ⟨lo2, hi2, ?_, q2, fun z => ?_⟩
        · rw [if_neg (by rw [iz_lt (by omega) (by omega) (by omega) (by omega)]; exact ce), ix_gd (by omega) (by omega), iz_cn (by omega), px_i, py_i, pz_i, pe_i, gb]
          simp only [iz_mul, iz_sub]
          unfold cut
          dsimp only
          rw [b1, bd_some, iz_neg, iz_neg, d1, bd_some, ix_s]
          exact q1
        · rw [q3 z, d4 z, b4 z]
          have e := dB i z
          constructor
          · rintro ⟨⟨⟨h1, h2⟩, h3⟩, h4, h5⟩
            refine ⟨h1, fun j h6 h7 => ?_, h5⟩
            by_cases cj : j = i
            · rw [cj]; exact e.mpr ⟨h2, h3⟩
            · exact h4 j (by omega) h7
          · rintro ⟨h1, h2, h3⟩
            have e2 := e.mp (h2 i (Nat.le_refl _) (by omega))
            exact ⟨⟨⟨h1, e2.1⟩, e2.2⟩, fun j h6 h7 => h2 j (by omega) h7, h3⟩
  unfold fX7_look
  obtain ⟨lo, hi, q1, q2, q3⟩ := l1 (nbd f) FU 0 lz0 gz (by omega) (by unfold FU; omega) ⟨by omega, by omega, by omega, by omega⟩
  refine ⟨lo, hi, q1, q2, fun z => (q3 z).trans ?_⟩
  unfold InB
  rw [wh_ne]
  exact ⟨fun h => ⟨h.1, fun j hj => h.2.1 j (Nat.zero_le _) hj, h.2.2⟩, fun h => ⟨h.1, fun j _ hj => h.2.1 j hj, h.2.2⟩⟩
end
