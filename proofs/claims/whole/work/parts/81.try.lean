/-! the class tries a side -/
theorem d3_bd {v p : V3} (hv : sm100 v) (hp : rc3 p) : -2000000 ≤ d3 v p ∧ d3 v p ≤ 2000000 := by
  obtain ⟨⟨a1, a2⟩, ⟨b1, b2⟩, c1, c2⟩ := hv
  obtain ⟨⟨p1, p2⟩, ⟨q1, q2⟩, r1, r2⟩ := hp
  have m1 := mbd (a := v.1) (b := p.1) 100000 5 a1 a2 p1 p2
  have m2 := mbd (a := v.2.1) (b := p.2.1) 100000 5 b1 b2 q1 q2
  have m3 := mbd (a := v.2.2) (b := p.2.2) 100000 5 c1 c2 r1 r2
  unfold d3
  omega
theorem at_i {v : V3} {q : Nat → V3} {i n : Nat} (hi : i < n) (hn : n < 1000) : fX6_at n (iz v.1) (iz v.2.1) (iz v.2.2) (px q) (py q) (pz q) (iz (i : Int)) = some (iz (d3 v (q i))) := by
  unfold fX6_at
  rw [ix_gd hi (by omega), iz_cn (by omega), px_i, py_i, pz_i]
  simp only [iz_mul, iz_add]
  rfl
theorem nought_i {v : V3} (h : sm100 v) : ∃ r : Int, fX6_isNought (iz v.1) (iz v.2.1) (iz v.2.2) = some (iz r) ∧ (r = 0 ∨ r = 1) ∧ (r = 1 ↔ v = o3) := by
  obtain ⟨h1, h2, h3⟩ := h
  unfold fX6_isNought
  rw [z0, v3_iff]
  simp (disch := omega) only [iz_eq]
  unfold o3
  dsimp only
  by_cases c1 : v.1 = 0
  · rw [if_pos c1]
    by_cases c2 : v.2.1 = 0
    · rw [if_pos c2]
      by_cases c3 : v.2.2 = 0
      · rw [if_pos c3]; exact ⟨1, rfl, Or.inr rfl, by omega⟩
      · rw [if_neg c3]; exact ⟨0, rfl, Or.inl rfl, by omega⟩
    · rw [if_neg c2]; exact ⟨0, rfl, Or.inl rfl, by omega⟩
  · rw [if_neg c1]; exact ⟨0, rfl, Or.inl rfl, by omega⟩
theorem flip_i (v : V3) : fX6_flip (iz v.1) (iz v.2.1) (iz v.2.2) = some (iz (ng3 v).1, iz (ng3 v).2.1, iz (ng3 v).2.2) := by
  unfold fX6_flip
  rw [iz_neg, iz_neg, iz_neg]
  rfl
theorem try_loop {k t : Nat} {q : Nat → V3} (hk : k ≤ 121) {v : V3} (hv : sm100 v) (hr : ∀ i, i < k → rc3 (q i)) {edge : Int} (he : -2000000 ≤ edge ∧ edge ≤ 2000000) (A B C E : Nat → Int32) (ss : Int32) : ∀ (m fuel i : Nat) (a b : Int), i + m = k → m < fuel → (a = 0 ∨ a = 1) → (b = 0 ∨ b = 1) → (a = 1 ↔ ∃ j, j < i ∧ edge < d3 v (q j)) → (b = 1 ↔ ∃ j, j < i ∧ d3 v (q j) < edge) → ¬ (a = 1 ∧ b = 1) →
    ((∃ j, j < k ∧ edge < d3 v (q j)) → (∃ j, j < k ∧ d3 v (q j) < edge) → LX3_trySide_32 (iz (k : Int)) (px q) (py q) (pz q) fuel (iz (t : Int)) (iz edge) (iz a) (iz b) (iz (i : Int)) ss A B C E (iz v.1) (iz v.2.1) (iz v.2.2) = some (ss, A, B, C, E, iz v.1, iz v.2.1, iz v.2.2)) ∧
    (¬ (∃ j, j < k ∧ edge < d3 v (q j)) → LX3_trySide_32 (iz (k : Int)) (px q) (py q) (pz q) fuel (iz (t : Int)) (iz edge) (iz a) (iz b) (iz (i : Int)) ss A B C E (iz v.1) (iz v.2.1) (iz v.2.2) = JX3_trySide_120 (iz (k : Int)) (px q) (py q) (pz q) (iz (t : Int)) ss A B C E (iz v.1) (iz v.2.1) (iz v.2.2)) ∧
    ((∃ j, j < k ∧ edge < d3 v (q j)) → ¬ (∃ j, j < k ∧ d3 v (q j) < edge) → LX3_trySide_32 (iz (k : Int)) (px q) (py q) (pz q) fuel (iz (t : Int)) (iz edge) (iz a) (iz b) (iz (i : Int)) ss A B C E (iz v.1) (iz v.2.1) (iz v.2.2) = JX3_trySide_120 (iz (k : Int)) (px q) (py q) (pz q) (iz (t : Int)) ss A B C E (iz (ng3 v).1) (iz (ng3 v).2.1) (iz (ng3 v).2.2)) := by
  intro m
  induction m with
  | zero =>
    intro fuel i a b h1 h2 ha hb h3 h4 h5
    obtain ⟨fuel, rfl⟩ : ∃ q, fuel = q + 1 := ⟨fuel - 1, by omega⟩
    have hik : i = k := by omega
    subst hik
    rw [LX3_trySide_32, if_pos ((ix_le (by omega) (by omega)).mpr (Nat.le_refl _))]
    refine ⟨fun q1 q2 => ?_, fun q1 => ?_, fun q1 q2 => ?_⟩
    · exact (h5 ⟨h3.mpr q1, h4.mpr q2⟩).elim
    · have : a = 0 := by rcases ha with c | c; exact c; exact (q1 (h3.mp c)).elim
      rw [this, if_pos (show iz 0 = 0 from rfl)]
    · have : a = 1 := h3.mpr q1
      rw [this, if_neg (by decide), flip_i, bd_some]
  | succ m ih =>
    intro fuel i a b h1 h2 ha hb h3 h4 h5
    obtain ⟨fuel, rfl⟩ : ∃ q, fuel = q + 1 := ⟨fuel - 1, by omega⟩
    have hd := d3_bd hv (hr i (by omega))
    rw [LX3_trySide_32, if_neg (fun h => by have := (ix_le (by omega) (by omega)).mp h; omega), at_i (by omega) (by omega), bd_some]
    have go : ∀ a' b' : Int, (a' = 0 ∨ a' = 1) → (b' = 0 ∨ b' = 1) → (a' = 1 ↔ a = 1 ∨ edge < d3 v (q i)) → (b' = 1 ↔ b = 1 ∨ d3 v (q i) < edge) → 
      ((∃ j, j < k ∧ edge < d3 v (q j)) → (∃ j, j < k ∧ d3 v (q j) < edge) → JX3_trySide_91 (iz (k : Int)) (px q) (py q) (pz q) (LX3_trySide_32 (iz (k : Int)) (px q) (py q) (pz q) fuel) (iz (t : Int)) (iz edge) (iz a') (iz (i : Int)) (iz b') ss A B C E (iz v.1) (iz v.2.1) (iz v.2.2) = some (ss, A, B, C, E, iz v.1, iz v.2.1, iz v.2.2)) ∧
      (¬ (∃ j, j < k ∧ edge < d3 v (q j)) → JX3_trySide_91 (iz (k : Int)) (px q) (py q) (pz q) (LX3_trySide_32 (iz (k : Int)) (px q) (py q) (pz q) fuel) (iz (t : Int)) (iz edge) (iz a') (iz (i : Int)) (iz b') ss A B C E (iz v.1) (iz v.2.1) (iz v.2.2) = JX3_trySide_120 (iz (k : Int)) (px q) (py q) (pz q) (iz (t : Int)) ss A B C E (iz v.1) (iz v.2.1) (iz v.2.2)) ∧
      ((∃ j, j < k ∧ edge < d3 v (q j)) → ¬ (∃ j, j < k ∧ d3 v (q j) < edge) → JX3_trySide_91 (iz (k : Int)) (px q) (py q) (pz q) (LX3_trySide_32 (iz (k : Int)) (px q) (py q) (pz q) fuel) (iz (t : Int)) (iz edge) (iz a') (iz (i : Int)) (iz b') ss A B C E (iz v.1) (iz v.2.1) (iz v.2.2) = JX3_trySide_120 (iz (k : Int)) (px q) (py q) (pz q) (iz (t : Int)) ss A B C E (iz (ng3 v).1) (iz (ng3 v).2.1) (iz (ng3 v).2.2)) := by
      intro a' b' ha' hb' e1 e2
      have i1 : a' = 1 ↔ ∃ j, j < i + 1 ∧ edge < d3 v (q j) := by
        rw [e1, h3]
        constructor
        · rintro (⟨j, hj, hh⟩ | hh)
          · exact ⟨j, by omega, hh⟩
          · exact ⟨i, by omega, hh⟩
        · rintro ⟨j, hj, hh⟩
          by_cases c : j = i
          · subst c; exact Or.inr hh
          · exact Or.inl ⟨j, by omega, hh⟩
      have i2 : b' = 1 ↔ ∃ j, j < i + 1 ∧ d3 v (q j) < edge := by
        rw [e2, h4]
        constructor
        · rintro (⟨j, hj, hh⟩ | hh)
          · exact ⟨j, by omega, hh⟩
          · exact ⟨i, by omega, hh⟩
        · rintro ⟨j, hj, hh⟩
          by_cases c : j = i
          · subst c; exact Or.inr hh
          · exact Or.inl ⟨j, by omega, hh⟩
      unfold JX3_trySide_91 JX3_trySide_103
      rw [ix_s]
      by_cases c : a' = 1 ∧ b' = 1
      · obtain ⟨c1, c2⟩ := c
        rw [if_neg (by rw [c1]; decide), if_neg (by rw [c2]; decide)]
        obtain ⟨j1, g1, g2⟩ := i1.mp c1
        obtain ⟨j2, g3, g4⟩ := i2.mp c2
        refine ⟨fun _ _ => rfl, fun h => (h ⟨j1, by omega, g2⟩).elim, fun _ h => (h ⟨j2, by omega, g4⟩).elim⟩
      · have := ih fuel (i + 1) a' b' (by omega) (by omega) ha' hb' i1 i2 c
        by_cases c1 : a' = 0
        · rw [if_pos (by rw [c1]; rfl)]; exact this
        · rw [if_neg (by rcases ha' with d | d; exact (c1 d).elim; rw [d]; decide)]
          have : b' = 0 := by rcases hb' with d | d; exact d; exact (c ⟨ha'.resolve_left c1, d⟩).elim
          rw [if_pos (by rw [this]; rfl)]
          assumption
    unfold JX3_trySide_69 JX3_trySide_74 JX3_trySide_86
    rcases ha with rfl | rfl
    · rw [if_pos (show iz 0 = 0 from rfl)]
      by_cases c1 : d3 v (q i) ≤ edge
      · rw [if_pos (by rw [iz_le (by omega) (by omega) (by omega) (by omega)]; exact c1)]
        rcases hb with rfl | rfl
        · rw [if_pos (show iz 0 = 0 from rfl)]
          by_cases c2 : edge ≤ d3 v (q i)
          · rw [if_pos (by rw [iz_le (by omega) (by omega) (by omega) (by omega)]; exact c2)]
            exact go 0 0 (by omega) (by omega) (by omega) (by omega)
          · rw [if_neg (by rw [iz_le (by omega) (by omega) (by omega) (by omega)]; exact c2)]
            exact go 0 1 (by omega) (by omega) (by omega) (by omega)
        · rw [if_neg (by decide)]
          exact go 0 1 (by omega) (by omega) (by omega) (by omega)
      · rw [if_neg (by rw [iz_le (by omega) (by omega) (by omega) (by omega)]; exact c1)]
        rcases hb with rfl | rfl
        · rw [if_pos (show iz 0 = 0 from rfl), if_pos (by rw [iz_le (by omega) (by omega) (by omega) (by omega)]; omega)]
          exact go 1 0 (by omega) (by omega) (by omega) (by omega)
        · rw [if_neg (by decide)]
          exact go 1 1 (by omega) (by omega) (by omega) (by omega)
    · have hb0 : b = 0 := by rcases hb with c | c; exact c; exact (h5 ⟨rfl, c⟩).elim
      subst hb0
      rw [if_neg (by decide), if_pos (show iz 0 = 0 from rfl)]
      by_cases c2 : edge ≤ d3 v (q i)
      · rw [if_pos (by rw [iz_le (by omega) (by omega) (by omega) (by omega)]; exact c2)]
        exact go 1 0 (by omega) (by omega) (by omega) (by omega)
      · rw [if_neg (by rw [iz_le (by omega) (by omega) (by omega) (by omega)]; exact c2)]
        exact go 1 1 (by omega) (by omega) (by omega) (by omega)
theorem d3_ng (v p : V3) : d3 (ng3 v) p = - d3 v p := by unfold d3 ng3; grind
theorem d3_sm (k : Int) (v p : V3) : d3 (sm3 k v) p = k * d3 v p := by unfold d3 sm3; grind
theorem sh_sm100 {v : V3} (h : sm100 v) : sm100 (sh v) := by
  by_cases c : v = o3
  · rw [c]; exact ⟨by decide, by decide, by decide⟩
  · obtain ⟨h1, h2⟩ := sh_prim c
    have e := v3_iff.mp (sh_mul v)
    unfold sm3 at e
    dsimp only at e
    have key : ∀ x y : Int, -100000 ≤ y ∧ y ≤ 100000 → y = (gv v : Int) * x → -100000 ≤ x ∧ x ≤ 100000 := by
      intro x y hy e
      have g1 : (1 : Int) ≤ gv v := by omega
      by_cases cx : 0 ≤ x
      · have := Int.mul_le_mul_of_nonneg_right g1 cx
        omega
      · have := Int.mul_le_mul_of_nonneg_right g1 (show 0 ≤ -x by omega)
        have e2 : (gv v : Int) * -x = -y := by rw [e, Int.mul_neg]
        omega
    exact ⟨key _ _ h.1 e.1, key _ _ h.2.1 e.2.1, key _ _ h.2.2 e.2.2⟩
theorem ng_sm100 {v : V3} (h : sm100 v) : sm100 (ng3 v) := by
  obtain ⟨h1, h2, h3⟩ := h
  unfold ng3
  exact ⟨by dsimp only; omega, by dsimp only; omega, by dsimp only; omega⟩
/-- sides in order, each as W asks -/
def SI (W : V3 → Int → Prop) (ss : Nat) (s : Nat → V3) (e : Nat → Int) : Prop := SS ss s ∧ ∀ i, i < ss → W (s i) (e i)
theorem try_i {k t : Nat} {q : Nat → V3} (hk : k ≤ 121) (ht : t < k) {v : V3} (hv : sm100 v) (hr : ∀ i, i < k → rc3 (q i)) {W : V3 → Int → Prop} (hW : ∀ u ne, W u ne → sm100 u) (hB : ∀ m t', SS m t' → (∀ i, i < m → ∃ e, W (t' i) e) → m ≤ 80)
    (hS : ∀ u, prim u → (∀ j, j < k → d3 u (q j) ≤ d3 u (q t)) → (∃ c, c ≠ 0 ∧ v = sm3 c u) → W u (d3 u (q t))) {ss : Nat} {s : Nat → V3} {e : Nat → Int} (h : SI W ss s e) : ∃ (ss' : Nat) (s' : Nat → V3) (e' : Nat → Int) (f' : V3), fX3_trySide (iz (k : Int)) (px q) (py q) (pz q) (iz (ss : Int)) (px s) (py s) (pz s) (pe e) (iz v.1) (iz v.2.1) (iz v.2.2) (iz (t : Int)) = some (iz (ss' : Int), px s', py s', pz s', pe e', iz f'.1, iz f'.2.1, iz f'.2.2) ∧ SI W ss' s' e' ∧ (∀ w, Mm ss s w → Mm ss' s' w) ∧ (∀ n, prim n → (∀ j, j < k → d3 n (q j) ≤ d3 n (q t)) → (∃ c, c ≠ 0 ∧ v = sm3 c n) → (∃ j, j < k ∧ d3 n (q j) < d3 n (q t)) → Mm ss' s' n) := by
  obtain ⟨hs, hw⟩ := h
  have hss : ss ≤ 80 := hB ss s hs (fun i hi => ⟨_, hw i hi⟩)
  obtain ⟨r, e1, r1, r2⟩ := nought_i hv
  unfold fX3_trySide
  rw [e1, bd_some]
  have pos : ∀ {n : V3} {c : Int}, v = sm3 c n → ∀ p, d3 v p = c * d3 n p := fun e p => by rw [e, d3_sm]
  rcases r1 with r1 | r1
  · subst r1
    have hv0 : v ≠ o3 := fun h => by have := r2.mpr h; omega
    rw [if_pos (show iz 0 = 0 from rfl), at_i (by omega) (by omega), bd_some]
    obtain ⟨l1, l2, l3⟩ := try_loop (k := k) (t := t) (q := q) hk hv hr (d3_bd hv (hr t ht)) (px s) (py s) (pz s) (pe e) (iz (ss : Int)) k FU 0 0 0 (by omega) (by unfold FU; omega) (by omega) (by omega) ⟨fun h => by omega, fun ⟨j, hj, _⟩ => by omega⟩ ⟨fun h => by omega, fun ⟨j, hj, _⟩ => by omega⟩ (by omega)
    have put : ∀ w : V3, sm100 w → w ≠ o3 → (∀ j, j < k → d3 w (q j) ≤ d3 w (q t)) → (∃ c, c ≠ 0 ∧ v = sm3 c w) → ∃ (ss' : Nat) (s' : Nat → V3) (e' : Nat → Int), JX3_trySide_120 (iz (k : Int)) (px q) (py q) (pz q) (iz (t : Int)) (iz (ss : Int)) (px s) (py s) (pz s) (pe e) (iz w.1) (iz w.2.1) (iz w.2.2) = some (iz (ss' : Int), px s', py s', pz s', pe e', iz (sh w).1, iz (sh w).2.1, iz (sh w).2.2) ∧ SI W ss' s' e' ∧ (∀ x, Mm ss s x → Mm ss' s' x) ∧ Mm ss' s' (sh w) := by
      intro w w1 w0 w2 ⟨c, c0, cv⟩
      obtain ⟨p1, p2⟩ := sh_prim w0
      have em := sh_mul w
      have sup : ∀ j, j < k → d3 (sh w) (q j) ≤ d3 (sh w) (q t) := fun j hj => by
        have := w2 j hj
        rw [em, d3_sm, d3_sm] at this
        exact Int.le_of_mul_le_mul_left this (by omega)
      have Wu : W (sh w) (d3 (sh w) (q t)) := hS (sh w) p1 sup ⟨c * gv w, fun h => by
        rcases Int.mul_eq_zero.mp h with h | h
        · exact c0 h
        · omega, by
        have : sm3 (c * (gv w : Int)) (sh w) = sm3 c (sm3 (gv w) (sh w)) := by unfold sm3; exact v3_ext (by dsimp only; grind) (by dsimp only; grind) (by dsimp only; grind)
        rw [this, ← em]; exact cv⟩
      obtain ⟨ss', s', e', f1, f2, f3, f4⟩ := put_i (u := sh w) (ne := d3 (sh w) (q t)) (sh_sm100 w1) (e := e) hs (fun i hi => hW _ _ (hw i hi)) hss (fun t' st mt => hB (ss + 1) t' st (fun i hi => by
        rcases (mt (t' i)).mp ⟨i, hi, rfl⟩ with ⟨j, hj, ej⟩ | ej
        · rw [← ej]; exact ⟨_, hw j hj⟩
        · rw [ej]; exact ⟨_, Wu⟩))
      refine ⟨ss', s', e', ?_, ⟨f2, fun i hi => ?_⟩, fun x hx => (f3 x).mpr (Or.inl hx), (f3 _).mpr (Or.inr rfl)⟩
      · unfold JX3_trySide_120
        rw [shorten_i w1, bd_some, at_i (by omega) (by omega), bd_some, f1, bd_some]
      · rcases f4 i hi with ⟨j, hj, g1, g2⟩ | ⟨g1, g2⟩
        · rw [g1, g2]; exact hw j hj
        · rw [g1, g2]; exact Wu
    have one : v = sm3 1 v := by unfold sm3; exact v3_ext (by dsimp only; omega) (by dsimp only; omega) (by dsimp only; omega)
    have mone : v = sm3 (-1) (ng3 v) := by unfold sm3 ng3; exact v3_ext (by dsimp only; omega) (by dsimp only; omega) (by dsimp only; omega)
    have ngne : ng3 v ≠ o3 := fun h => hv0 (by
      have h := v3_iff.mp h
      unfold ng3 o3 at h
      dsimp only at h
      exact v3_ext (by show v.1 = 0; omega) (by show v.2.1 = 0; omega) (by show v.2.2 = 0; omega))
    by_cases ca : ∃ j, j < k ∧ d3 v (q t) < d3 v (q j)
    · by_cases cb : ∃ j, j < k ∧ d3 v (q j) < d3 v (q t)
      · refine ⟨ss, s, e, v, l1 ca cb, ⟨hs, hw⟩, fun w hw => hw, fun n hn h1 ⟨c, c0, cv⟩ h2 => ?_⟩
        obtain ⟨ja, ga, gb⟩ := ca
        obtain ⟨jb, gc, gd⟩ := cb
        have p := pos cv
        rw [p, p] at gb gd
        have u1 := h1 ja ga
        have u2 := h1 jb gc
        exfalso
        rcases Int.lt_or_lt_of_ne c0 with hc | hc
        · have := Int.mul_le_mul_of_nonpos_left (Int.le_of_lt hc) u2
          omega
        · have := Int.mul_le_mul_of_nonneg_left u1 (Int.le_of_lt hc)
          omega
      · have cb' : ∀ j, j < k → d3 (ng3 v) (q j) ≤ d3 (ng3 v) (q t) := fun j hj => by
          rw [d3_ng, d3_ng]
          have : ¬ d3 v (q j) < d3 v (q t) := fun h => cb ⟨j, hj, h⟩
          omega
        obtain ⟨ss', s', e', f1, f2, f3, f4⟩ := put (ng3 v) (ng_sm100 hv) ngne cb' ⟨-1, by omega, mone⟩
        refine ⟨ss', s', e', sh (ng3 v), (l3 ca cb).trans f1, f2, f3, fun n hn h1 ⟨c, c0, cv⟩ h2 => ?_⟩
        rcases Int.lt_or_lt_of_ne c0 with hc | hc
        · have : sh (ng3 v) = n := sh_of (k := -c) (by omega) hn (by rw [cv]; unfold sm3 ng3; exact v3_ext (by dsimp only; grind) (by dsimp only; grind) (by dsimp only; grind))
          rw [← this]; exact f4
        · exfalso
          obtain ⟨ja, ga, gb⟩ := ca
          rw [pos cv, pos cv] at gb
          have := Int.mul_le_mul_of_nonneg_left (h1 ja ga) (Int.le_of_lt hc)
          omega
    · have ca' : ∀ j, j < k → d3 v (q j) ≤ d3 v (q t) := fun j hj => by
        have : ¬ d3 v (q t) < d3 v (q j) := fun h => ca ⟨j, hj, h⟩
        omega
      obtain ⟨ss', s', e', f1, f2, f3, f4⟩ := put v hv hv0 ca' ⟨1, by omega, one⟩
      refine ⟨ss', s', e', sh v, (l2 ca).trans f1, f2, f3, fun n hn h1 ⟨c, c0, cv⟩ ⟨jb, gc, gd⟩ => ?_⟩
      rcases Int.lt_or_lt_of_ne c0 with hc | hc
      · exfalso
        have u1 := ca' jb gc
        rw [pos cv, pos cv] at u1
        have := Int.mul_lt_mul_of_neg_left gd hc
        omega
      · have : sh v = n := sh_of hc hn cv
        rw [← this]; exact f4
  · subst r1
    rw [if_neg (by decide)]
    refine ⟨ss, s, e, v, rfl, ⟨hs, hw⟩, fun w hw => hw, fun n hn h1 ⟨c, c0, cv⟩ h2 => ?_⟩
    exfalso
    have v0 := r2.mp rfl
    rw [v0] at cv
    have cv := v3_iff.mp cv
    unfold o3 sm3 at cv
    dsimp only at cv
    exact prim_0 hn (v3_ext ((Int.mul_eq_zero.mp cv.1.symm).resolve_left c0) ((Int.mul_eq_zero.mp cv.2.1.symm).resolve_left c0) ((Int.mul_eq_zero.mp cv.2.2.symm).resolve_left c0))
