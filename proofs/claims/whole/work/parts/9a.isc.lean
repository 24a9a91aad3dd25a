/-! the reference asks whether a point is a corner -/
theorem divisor_b {a b : Int} (h : -2147483648 < a) (h2 : a < 2147483648) (h3 : -2147483648 < b) (h4 : b < 2147483648) : fX9_divisor (iz a) (iz b) = some (iz ((Nat.gcd a.natAbs b.natAbs : Nat) : Int)) := by
  have key : ∀ a b : Int, 0 ≤ a → a < 2147483648 → 0 ≤ b → b < 2147483648 → JX9_divisor_21 (iz a) (iz b) = some (iz ((Nat.gcd a.natAbs b.natAbs : Nat) : Int)) := by
    intro a b h1 h2 h3 h4
    unfold JX9_divisor_21
    have e1 : iz a = iz ((a.natAbs : Nat) : Int) := by congr 1; omega
    have e2 : iz b = iz ((b.natAbs : Nat) : Int) := by congr 1; omega
    rw [e1, e2]
    exact gcdM_i 31 _ _ FU (by omega) (by decide) (by omega) (by omega)
  have nn : ∀ {a : Int}, -2147483648 < a → a < 2147483648 → (0 ≤ iz a ↔ 0 ≤ a) := fun h h2 => by rw [z0, iz_le (by omega) (by omega) (by omega) (by omega)]
  unfold fX9_divisor JX9_divisor_10
  rw [iz_neg, iz_neg]
  by_cases c1 : 0 ≤ a
  · rw [if_pos ((nn h h2).mpr c1)]
    by_cases c2 : 0 ≤ b
    · rw [if_pos ((nn h3 h4).mpr c2)]
      exact key a b c1 h2 c2 h4
    · rw [if_neg (fun h => c2 ((nn h3 h4).mp h)), key a (-b) c1 h2 (by omega) (by omega), Int.natAbs_neg]
  · rw [if_neg (fun q => c1 ((nn h h2).mp q))]
    by_cases c2 : 0 ≤ b
    · rw [if_pos ((nn h3 h4).mpr c2), key (-a) b (by omega) (by omega) c2 h4, Int.natAbs_neg]
    · rw [if_neg (fun h => c2 ((nn h3 h4).mp h)), key (-a) (-b) (by omega) (by omega) (by omega) (by omega), Int.natAbs_neg, Int.natAbs_neg]
theorem step_b {v : V3} (h : bdv 1000000000 v) (sx sy sw : Int32) : ∃ r, fX9_step sx sy sw (iz v.1) (iz v.2.1) (iz v.2.2) = some r := by
  obtain ⟨⟨a1, a2⟩, ⟨b1, b2⟩, c1, c2⟩ := h
  have h1 : Nat.gcd v.1.natAbs v.2.1.natAbs ≤ 1000000000 := by
    by_cases c : v.1.natAbs = 0
    · rw [c, Nat.gcd_zero_left]; omega
    · have := Nat.le_of_dvd (by omega) (Nat.gcd_dvd_left v.1.natAbs v.2.1.natAbs)
      omega
  have h2 : Nat.gcd (Nat.gcd v.1.natAbs v.2.1.natAbs) v.2.2.natAbs ≤ 1000000000 := by
    by_cases c : Nat.gcd v.1.natAbs v.2.1.natAbs = 0
    · rw [c, Nat.gcd_zero_left]; omega
    · have := Nat.le_of_dvd (by omega) (Nat.gcd_dvd_left (Nat.gcd v.1.natAbs v.2.1.natAbs) v.2.2.natAbs)
      omega
  unfold fX9_step
  rw [divisor_b (by omega) (by omega) (by omega) (by omega), bd_some, divisor_b (by omega) (by omega) (by omega) (by omega), bd_some, Int.natAbs_natCast]
  generalize Nat.gcd (Nat.gcd v.1.natAbs v.2.1.natAbs) v.2.2.natAbs = g at *
  unfold JX9_step_25 JX9_step_42 JX9_step_59
  by_cases c : g = 0
  · have e : iz ((g : Nat) : Int) = 0 := by rw [c]; rfl
    rw [if_pos e, if_pos e, if_pos e]
    exact ⟨_, rfl⟩
  · have e : ¬ iz ((g : Nat) : Int) = 0 := by rw [z0, iz_eq (by omega) (by omega) (by omega) (by omega)]; omega
    rw [if_neg e, if_neg e, if_neg e, nz_iz (by omega) (by omega) (by omega), nz_iz (by omega) (by omega) (by omega), nz_iz (by omega) (by omega) (by omega)]
    exact ⟨_, rfl⟩
theorem rsq_b {u v : V3} (h : bdv 1000000000 (cr u v)) (sx sy sw : Int32) : ∃ r, fX9_square sx sy sw (iz u.1) (iz u.2.1) (iz u.2.2) (iz v.1) (iz v.2.1) (iz v.2.2) = some r := by
  obtain ⟨r, hr⟩ := step_b h sx sy sw
  unfold fX9_square
  simp only [iz_mul, iz_sub]
  refine ⟨(r.1, r.2.1, r.2.2), (congrArg (fun o => bd o _) hr).trans ?_⟩
  rw [bd_some]
theorem isOn_i {SR : Nat → Int32} {b i ss : Nat} {s : Nat → V3} {e : Nat → Int} {p : V3} (hb : b < 8) (hi : i < ss) (hss : ss ≤ 80) (hR : Rw SR b ss s e) (hs : bdv 4000 (s i)) (he : -100000 ≤ e i ∧ e i ≤ 100000) (hp : rc3 p) : ∃ r : Int, fX9_isOn SR (iz (b : Int)) (iz (i : Int)) (iz p.1) (iz p.2.1) (iz p.2.2) = some (iz r) ∧ (r = 0 ∨ r = 1) ∧ (r = 1 ↔ d3 (s i) p = e i) := by
  obtain ⟨g1, g2, g3, g4⟩ := hR i hi
  have hd := d3_bd (bdv_100 (by decide) hs) hp
  unfold fX9_isOn
  rw [y360, ix_m, y4, ix_m, ix_a, y1, ix_a, y2, ix_a, y3, ix_a, ix_gd (by omega) (by omega), ix_gd (by omega) (by omega), ix_gd (by omega) (by omega), ix_gd (by omega) (by omega), iz_cn (by omega), iz_cn (by omega), iz_cn (by omega), iz_cn (by omega), g1, g2, g3, g4]
  simp only [iz_mul, iz_add]
  have e1 : (s i).1 * p.1 + (s i).2.1 * p.2.1 + (s i).2.2 * p.2.2 = d3 (s i) p := rfl
  rw [e1]
  by_cases c : d3 (s i) p = e i
  · rw [if_pos (by rw [c])]; exact ⟨1, rfl, Or.inr rfl, by omega⟩
  · rw [if_neg (by rw [iz_eq (by omega) (by omega) (by omega) (by omega)]; exact c)]; exact ⟨0, rfl, Or.inl rfl, by omega⟩
def PhI (b f : Nat) (s : Nat → V3) (e : Nat → Int) (p : V3) (i : Nat) (a3 a4 : Int32) (u : V3) : Prop := (a3 = -4 ∧ a4 = 0 ∧ tc s e p i = 0) ∨ (∃ x, x < i ∧ a3 = iz ((360 * b + 4 * x : Nat) : Int) ∧ a4 = 0 ∧ d3 (s x) p = e x ∧ tc s e p i = 1) ∨ (f = 3 ∧ ∃ x y, x < y ∧ y < i ∧ a3 = iz ((360 * b + 4 * x : Nat) : Int) ∧ a4 = 1 ∧ u = sh (cr (s x) (s y)) ∧ d3 (s x) p = e x ∧ d3 (s y) p = e y ∧ tc s e p i = 2)
theorem tc_on {s : Nat → V3} {e : Nat → Int} {p : V3} {i : Nat} (h : d3 (s i) p = e i) : tc s e p (i + 1) = tc s e p i + 1 := by rw [tc, if_pos h]
theorem tc_off {s : Nat → V3} {e : Nat → Int} {p : V3} {i : Nat} (h : ¬ d3 (s i) p = e i) : tc s e p (i + 1) = tc s e p i := by rw [tc, if_neg h]; rfl
theorem tc_mono {s : Nat → V3} {e : Nat → Int} {p : V3} : ∀ {i j : Nat}, i ≤ j → tc s e p i ≤ tc s e p j := by
  intro i j h
  induction j with
  | zero => rw [show i = 0 by omega]; exact Nat.le_refl _
  | succ j ih =>
    by_cases c : i = j + 1
    · rw [c]; exact Nat.le_refl _
    · have := ih (by omega)
      rw [tc]
      omega
theorem isCorner_i {n p : Nat} {P : Nat → V3} (hn : n ≤ 140) (hp : p < n) (hr : rc3 (P p)) {b f ss : Nat} (hb : b < 8) (hf : f ≤ 3) (hss : ss ≤ 80) {FI SI' SR : Nat → Int32} {s : Nat → V3} {e : Nat → Int} (hF : FI b = iz (f : Int)) (hSI : SI' b = iz (ss : Int)) (hR : Rw SR b ss s e) (hs : ∀ i, i < ss → bdv 4000 (s i) ∧ -100000 ≤ e i ∧ e i ≤ 100000) (h3b : f = 3 → ∀ i, i < ss → bdv 200 (s i)) (h0 : f = 0 → ss = 0) (h1 : f = 1 → tc s e (P p) ss ≤ 1) (h3 : f = 3 → ∀ x y z, x < y → y < z → z < ss → d3 (s x) (P p) = e x → d3 (s y) (P p) = e y → d3 (s z) (P p) = e z → d3 (cr (s x) (s y)) (s z) ≠ 0) (sx sy sw : Int32) : ∃ (r : Int) (sx' sy' sw' : Int32), fX9_isCorner sx sy sw FI SI' SR (px P) (py P) (pz P) (iz (b : Int)) (iz (p : Int)) = some (iz r, sx', sy', sw') ∧ (r = 0 ∨ r = 1) ∧ (r = 1 ↔ f ≤ tc s e (P p) ss) := by
  have loop : ∀ (m fuel i : Nat) (a3 a4 : Int32) (u : V3) (sx sy sw : Int32), i + m = ss → m < fuel → PhI b f s e (P p) i a3 a4 u → ∃ (r : Int) (sx' sy' sw' : Int32), LX9_isCorner_18 FI SI' SR (px P) (py P) (pz P) fuel (iz (b : Int)) (iz (p : Int)) a3 a4 (iz u.1) (iz u.2.1) (iz u.2.2) (iz (i : Int)) sx sy sw = some (iz r, sx', sy', sw') ∧ (r = 0 ∨ r = 1) ∧ (r = 1 ↔ f ≤ tc s e (P p) ss) := by
    intro m
    induction m with
    | zero =>
      intro fuel i a3 a4 u sx sy sw g1 g2 g3
      obtain ⟨fuel, rfl⟩ : ∃ q, fuel = q + 1 := ⟨fuel - 1, by omega⟩
      have ei : i = ss := by omega
      subst ei
      rw [LX9_isCorner_18, ix_gd hb (by omega), iz_cn (by omega), hSI, if_pos ((ix_le (by omega) (by omega)).mpr (Nat.le_refl _)), hF]
      rcases (show f = 0 ∨ f = 1 ∨ f = 2 ∨ f = 3 by omega) with rfl | rfl | rfl | rfl
      · rw [if_pos (show iz ((0 : Nat) : Int) = 0 from rfl)]
        exact ⟨1, _, _, _, rfl, Or.inr rfl, by omega⟩
      · rw [if_neg (by decide), if_pos (show iz ((1 : Nat) : Int) = 1 from rfl)]
        rcases g3 with ⟨q1, q2, q3⟩ | ⟨x, q1, q2, q3, q4, q5⟩ | ⟨q, _⟩
        · rw [if_pos q1]
          exact ⟨0, _, _, _, rfl, Or.inl rfl, by omega⟩
        · rw [if_neg (by rw [q2, show (-4 : Int32) = iz (-4) from rfl, iz_eq (by omega) (by omega) (by omega) (by omega)]; omega)]
          exact ⟨1, _, _, _, rfl, Or.inr rfl, by omega⟩
        · omega
      · rw [if_neg (by decide), if_neg (by decide)]
        refine ⟨0, _, _, _, rfl, Or.inl rfl, ?_⟩
        rcases g3 with ⟨q1, q2, q3⟩ | ⟨x, q1, q2, q3, q4, q5⟩ | ⟨q, _⟩ <;> omega
      · rw [if_neg (by decide), if_neg (by decide)]
        refine ⟨0, _, _, _, rfl, Or.inl rfl, ?_⟩
        rcases g3 with ⟨q1, q2, q3⟩ | ⟨x, q1, q2, q3, q4, q5⟩ | ⟨q, x, y, _, _, _, _, _, _, _, q8⟩ <;> omega
    | succ m ih =>
      intro fuel i a3 a4 u sx sy sw g1 g2 g3
      obtain ⟨fuel, rfl⟩ : ∃ q, fuel = q + 1 := ⟨fuel - 1, by omega⟩
      obtain ⟨k1, k2⟩ := hs i (by omega)
      obtain ⟨r, o1, o2, o3'⟩ := isOn_i (p := P p) hb (show i < ss by omega) hss hR k1 k2 hr
      rw [LX9_isCorner_18, ix_gd hb (by omega), iz_cn (by omega), hSI, if_neg (fun h => by have := (ix_le (by omega) (by omega)).mp h; omega), ix_gd (by omega) (by omega), iz_cn (by omega), px_i, py_i, pz_i, o1, bd_some]
      unfold JX9_isCorner_211
      rw [ix_s]
      have mono := tc_mono (s := s) (e := e) (p := P p) (show i + 1 ≤ ss by omega)
      by_cases c : d3 (s i) (P p) = e i
      · have : r = 1 := o3'.mpr c
        subst this
        have ton := tc_on c
        rw [if_neg (by decide)]
        rcases g3 with ⟨q1, q2, q3⟩ | ⟨x, q1, q2, q3, q4, q5⟩ | ⟨qf, x, y, q1, q2, q3, q4, q5, q6, q7, q8⟩
        · rw [if_pos q1, y360, ix_m, y4, ix_m, ix_a]
          exact ih fuel (i + 1) _ _ _ _ _ _ (by omega) (by omega) (Or.inr (Or.inl ⟨i, by omega, rfl, q2, c, by omega⟩))
        · obtain ⟨w1, w2, w3, w4⟩ := hR x (by omega)
          obtain ⟨v1, v2, v3, v4⟩ := hR i (by omega)
          rw [if_neg (by rw [q2, show (-4 : Int32) = iz (-4) from rfl, iz_eq (by omega) (by omega) (by omega) (by omega)]; omega), if_pos q3, q2, y360, ix_m, y4, ix_m, ix_a, y1, ix_a, ix_a, y2, ix_a, ix_a, ix_gd (by omega) (by omega), ix_gd (by omega) (by omega), ix_gd (by omega) (by omega), ix_gd (by omega) (by omega), ix_gd (by omega) (by omega), ix_gd (by omega) (by omega), iz_cn (by omega), iz_cn (by omega), iz_cn (by omega), iz_cn (by omega), iz_cn (by omega), iz_cn (by omega), w1, w2, w3, v1, v2, v3, hF]
          rcases (show f = 0 ∨ f = 1 ∨ f = 2 ∨ f = 3 by omega) with rfl | rfl | rfl | rfl
          · have := h0 rfl; omega
          · have := h1 rfl; omega
          · obtain ⟨rr, hrr⟩ := rsq_b (u := s x) (v := s i) (bdv_w (cr_bd (hs x (by omega)).1 k1) (by decide)) sx sy sw
            rw [hrr, bd_some, if_pos (show iz ((2 : Nat) : Int) = iz ((2 : Nat) : Int) from rfl)]
            exact ⟨1, _, _, _, rfl, Or.inr rfl, by omega⟩
          · have hrr := rsq_i (u := s x) (v := s i) (bdv_100 (by decide) (cr_bd (h3b rfl x (by omega)) (h3b rfl i (by omega)))) sx sy sw
            rw [hrr, bd_some, if_neg (by decide)]
            exact ih fuel (i + 1) _ _ (sh (cr (s x) (s i))) _ _ _ (by omega) (by omega) (Or.inr (Or.inr ⟨rfl, x, i, q1, by omega, rfl, rfl, rfl, q4, c, by omega⟩))
        · subst qf
          obtain ⟨v1, v2, v3, v4⟩ := hR i (by omega)
          have b1 := cr_bd (h3b rfl x (by omega)) (h3b rfl y (by omega))
          have det := h3 rfl x y i q1 q2 (by omega) q6 q7 c
          have cne : cr (s x) (s y) ≠ o3 := fun h => det (by rw [h]; unfold d3 o3; dsimp only; omega)
          have b2 : bdv 80000 u := by
            rw [q5]
            exact bd_of_mul (c := gv (cr (s x) (s y))) (by have := (sh_prim cne).2; omega) (sh_mul _) b1
          have b3 := d3_bd2 b2 (h3b rfl i (by omega))
          have dne : d3 u (s i) ≠ 0 := fun h => det (by rw [sh_mul (cr (s x) (s y)), d3_sm, ← q5, h]; omega)
          rw [if_neg (by rw [q3, show (-4 : Int32) = iz (-4) from rfl, iz_eq (by omega) (by omega) (by omega) (by omega)]; omega), if_neg (by rw [q4]; decide), y360, ix_m, y4, ix_m, ix_a, y1, ix_a, y2, ix_a, ix_gd (by omega) (by omega), ix_gd (by omega) (by omega), ix_gd (by omega) (by omega), iz_cn (by omega), iz_cn (by omega), iz_cn (by omega), v1, v2, v3]
          simp only [iz_mul, iz_add]
          have e1 : u.1 * (s i).1 + u.2.1 * (s i).2.1 + u.2.2 * (s i).2.2 = d3 u (s i) := rfl
          rw [e1, if_neg (by rw [z0, iz_eq (by omega) (by omega) (by omega) (by omega)]; exact dne)]
          exact ⟨1, _, _, _, rfl, Or.inr rfl, by omega⟩
      · have : r = 0 := by
          rcases o2 with q | q
          · exact q
          · exact (c (o3'.mp q)).elim
        subst this
        have tof := tc_off c
        rw [if_pos (show iz 0 = 0 from rfl)]
        refine ih fuel (i + 1) _ _ _ _ _ _ (by omega) (by omega) ?_
        rcases g3 with ⟨q1, q2, q3⟩ | ⟨x, q1, q2, q3, q4, q5⟩ | ⟨qf, x, y, q1, q2, q3, q4, q5, q6, q7, q8⟩
        · exact Or.inl ⟨q1, q2, by omega⟩
        · exact Or.inr (Or.inl ⟨x, by omega, q2, q3, q4, by omega⟩)
        · exact Or.inr (Or.inr ⟨qf, x, y, q1, by omega, q3, q4, q5, q6, q7, by omega⟩)
  unfold fX9_isCorner
  exact loop ss FU 0 (-4) 0 o3 sx sy sw (by omega) (by unfold FU; omega) (Or.inl ⟨rfl, rfl, rfl⟩)
