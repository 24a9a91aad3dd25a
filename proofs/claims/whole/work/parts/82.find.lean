/-! parallel steps; the class finds its sides -/
theorem par_aux {n w : V3} {a b : Int} (hn : prim n) (hw : prim w) (ha : a ≠ 0) (e : sm3 a w = sm3 b n) : w = n ∨ w = ng3 n := by
  have e' := v3_iff.mp e
  unfold sm3 at e'
  dsimp only at e'
  have hb : b ≠ 0 := fun hb => by
    rw [hb, Int.zero_mul, Int.zero_mul, Int.zero_mul] at e'
    exact prim_0 hw (v3_ext ((Int.mul_eq_zero.mp e'.1).resolve_left ha) ((Int.mul_eq_zero.mp e'.2.1).resolve_left ha) ((Int.mul_eq_zero.mp e'.2.2).resolve_left ha))
  rcases Int.lt_or_lt_of_ne ha with c1 | c1
  · rcases Int.lt_or_lt_of_ne hb with c2 | c2
    · exact Or.inl (prim_uni hw hn (a := -a) (b := -b) (by omega) (by omega) (by unfold sm3; exact v3_ext (by dsimp only; grind) (by dsimp only; grind) (by dsimp only; grind))).1
    · exact Or.inr (prim_uni hw (prim_ng hn) (a := -a) (b := b) (by omega) (by omega) (by unfold sm3 ng3; exact v3_ext (by dsimp only; grind) (by dsimp only; grind) (by dsimp only; grind))).1
  · rcases Int.lt_or_lt_of_ne hb with c2 | c2
    · exact Or.inr (prim_uni hw (prim_ng hn) (a := a) (b := -b) (by omega) (by omega) (by unfold sm3 ng3; exact v3_ext (by dsimp only; grind) (by dsimp only; grind) (by dsimp only; grind))).1
    · exact Or.inl (prim_uni hw hn (a := a) (b := b) (by omega) (by omega) e).1
theorem par_prim {n w : V3} (hn : prim n) (hw : prim w) (h : cr n w = o3) : w = n ∨ w = ng3 n := by
  have h := v3_iff.mp h
  unfold cr o3 at h
  dsimp only at h
  by_cases c1 : n.1 = 0
  · by_cases c2 : n.2.1 = 0
    · have c3 : n.2.2 ≠ 0 := fun c3 => prim_0 hn (v3_ext c1 c2 c3)
      exact par_aux hn hw c3 (b := w.2.2) (by unfold sm3; exact v3_ext (by dsimp only; grind) (by dsimp only; grind) (by dsimp only; grind))
    · exact par_aux hn hw c2 (b := w.2.1) (by unfold sm3; exact v3_ext (by dsimp only; grind) (by dsimp only; grind) (by dsimp only; grind))
  · exact par_aux hn hw c1 (b := w.1) (by unfold sm3; exact v3_ext (by dsimp only; grind) (by dsimp only; grind) (by dsimp only; grind))
theorem par_of {n v : V3} (hn : prim n) (hv : v ≠ o3) (h : cr n v = o3) : ∃ c, c ≠ 0 ∧ v = sm3 c n := by
  obtain ⟨p1, p2⟩ := sh_prim hv
  have em := sh_mul v
  have h2 : cr n (sh v) = o3 := by
    rw [em] at h
    have h := v3_iff.mp h
    unfold cr sm3 o3 at h
    dsimp only at h
    have g : (gv v : Int) ≠ 0 := by omega
    have key : ∀ y : Int, (gv v : Int) * y = 0 → y = 0 := fun y hy => (Int.mul_eq_zero.mp hy).resolve_left g
    unfold cr o3
    exact v3_ext (key _ (by dsimp only; grind)) (key _ (by dsimp only; grind)) (key _ (by dsimp only; grind))
  rcases par_prim hn p1 h2 with e | e
  · exact ⟨gv v, by omega, by rw [← e]; exact em⟩
  · refine ⟨-(gv v : Int), by omega, ?_⟩
    have : sm3 (-(gv v : Int)) n = sm3 (gv v : Int) (sh v) := by rw [e]; unfold sm3 ng3; exact v3_ext (by dsimp only; grind) (by dsimp only; grind) (by dsimp only; grind)
    rw [this]; exact em
theorem cr_cr {n a b : V3} (h1 : d3 n a = 0) (h2 : d3 n b = 0) : cr n (cr a b) = o3 := by
  unfold d3 at h1 h2
  unfold cr o3
  exact v3_ext (by dsimp only; grind) (by dsimp only; grind) (by dsimp only; grind)
theorem d3_cr1 (a b : V3) : d3 (cr a b) a = 0 := by unfold d3 cr; grind
theorem d3_cr2 (a b : V3) : d3 (cr a b) b = 0 := by unfold d3 cr; grind
theorem d3_sb (n a b : V3) : d3 n (sb3 a b) = d3 n a - d3 n b := by unfold d3 sb3; grind
theorem sm3_0 {c : Int} {u v : V3} (h : v = sm3 c u) (hv : v ≠ o3) : c ≠ 0 ∧ u ≠ o3 := by
  refine ⟨fun e => hv ?_, fun e => hv ?_⟩
  · rw [h, e]; unfold sm3 o3; simp
  · rw [h, e]; unfold sm3 o3; simp
theorem sm3_ne {c : Int} {u : V3} (hc : c ≠ 0) (hu : u ≠ o3) : sm3 c u ≠ o3 := fun h => by
  have h := v3_iff.mp h
  unfold sm3 o3 at h
  dsimp only at h
  exact hu (v3_ext ((Int.mul_eq_zero.mp h.1).resolve_left hc) ((Int.mul_eq_zero.mp h.2.1).resolve_left hc) ((Int.mul_eq_zero.mp h.2.2).resolve_left hc))
theorem sb3_0 {a b : V3} : sb3 a b = o3 ↔ a = b := by
  constructor
  · intro h
    have h := v3_iff.mp h
    unfold sb3 o3 at h
    dsimp only at h
    exact v3_ext (by omega) (by omega) (by omega)
  · intro h
    rw [h]
    unfold sb3 o3
    exact v3_ext (by dsimp only; omega) (by dsimp only; omega) (by dsimp only; omega)
/-- the sides of what fills 3, 2, 1 -/
def Sd3 (S : V3 → Prop) (n : V3) (e : Int) : Prop := prim n ∧ (∀ p, S p → d3 n p ≤ e) ∧ ∃ p q r, S p ∧ S q ∧ S r ∧ d3 n p = e ∧ d3 n q = e ∧ d3 n r = e ∧ ¬ row3 p q r
def Sd2 (S : V3 → Prop) (N : V3) (n : V3) (e : Int) : Prop := prim n ∧ d3 n N = 0 ∧ (∀ p, S p → d3 n p ≤ e) ∧ ∃ p q, S p ∧ S q ∧ p ≠ q ∧ d3 n p = e ∧ d3 n q = e
def Sd1 (S : V3 → Prop) (D : V3) (n : V3) (e : Int) : Prop := (n = D ∨ n = ng3 D) ∧ (∀ p, S p → d3 n p ≤ e) ∧ ∃ p, S p ∧ d3 n p = e
theorem sb_bd {a b : V3} (ha : rc3 a) (hb : rc3 b) : (-10 ≤ (sb3 a b).1 ∧ (sb3 a b).1 ≤ 10) ∧ (-10 ≤ (sb3 a b).2.1 ∧ (sb3 a b).2.1 ≤ 10) ∧ (-10 ≤ (sb3 a b).2.2 ∧ (sb3 a b).2.2 ≤ 10) := by
  obtain ⟨h1, h2, h3⟩ := ha
  obtain ⟨g1, g2, g3⟩ := hb
  unfold sb3
  dsimp only
  omega
def bdv (B : Int) (v : V3) : Prop := (-B ≤ v.1 ∧ v.1 ≤ B) ∧ (-B ≤ v.2.1 ∧ v.2.1 ≤ B) ∧ (-B ≤ v.2.2 ∧ v.2.2 ≤ B)
theorem cr_bd {A B : Int} {u v : V3} (hu : bdv A u) (hv : bdv B v) : bdv (2 * (A * B)) (cr u v) := by
  obtain ⟨⟨a1, a2⟩, ⟨b1, b2⟩, c1, c2⟩ := hu
  obtain ⟨⟨p1, p2⟩, ⟨q1, q2⟩, r1, r2⟩ := hv
  have m1 := mbd (a := u.2.1) (b := v.2.2) A B b1 b2 r1 r2
  have m2 := mbd (a := u.2.2) (b := v.2.1) A B c1 c2 q1 q2
  have m3 := mbd (a := u.2.2) (b := v.1) A B c1 c2 p1 p2
  have m4 := mbd (a := u.1) (b := v.2.2) A B a1 a2 r1 r2
  have m5 := mbd (a := u.1) (b := v.2.1) A B a1 a2 q1 q2
  have m6 := mbd (a := u.2.1) (b := v.1) A B b1 b2 p1 p2
  unfold cr
  exact ⟨by dsimp only; omega, by dsimp only; omega, by dsimp only; omega⟩
theorem bdv_100 {B : Int} {v : V3} (hB : B ≤ 100000) (h : bdv B v) : sm100 v := by
  obtain ⟨⟨a1, a2⟩, ⟨b1, b2⟩, c1, c2⟩ := h
  exact ⟨by omega, by omega, by omega⟩
theorem lead_i {n i j : Nat} {q : Nat → V3} (hi : i < n) (hj : j < n) (hn : n < 1000) (x1 x2 x3 : Int32) : fX6_lead n x1 x2 x3 (px q) (py q) (pz q) (iz (i : Int)) (iz (j : Int)) = some (iz (sb3 (q j) (q i)).1, iz (sb3 (q j) (q i)).2.1, iz (sb3 (q j) (q i)).2.2) := by
  unfold fX6_lead
  rw [ix_gd hi (by omega), ix_gd hj (by omega), iz_cn (by omega), iz_cn (by omega), px_i, px_i, py_i, py_i, pz_i, pz_i, iz_sub, iz_sub, iz_sub]
  rfl
theorem sq_i (u v : V3) (x1 x2 x3 : Int32) : fX6_square x1 x2 x3 (iz u.1) (iz u.2.1) (iz u.2.2) (iz v.1) (iz v.2.1) (iz v.2.2) = some (iz (cr u v).1, iz (cr u v).2.1, iz (cr u v).2.2) := by
  unfold fX6_square
  simp only [iz_mul, iz_sub]
  rfl
/-- the plane of three points is done with -/
def Cov (k : Nat) (q : Nat → V3) (a b c : Nat) (ss : Nat) (s : Nat → V3) : Prop := ∀ n, prim n → (∀ x, x < k → d3 n (q x) ≤ d3 n (q a)) → d3 n (q b) = d3 n (q a) → d3 n (q c) = d3 n (q a) → ¬ row3 (q a) (q b) (q c) → (∃ x, x < k ∧ d3 n (q x) < d3 n (q a)) → Mm ss s n
theorem Cov_mono {k : Nat} {q : Nat → V3} {a b c ss ss' : Nat} {s s' : Nat → V3} (h : Cov k q a b c ss s) (hm : ∀ w, Mm ss s w → Mm ss' s' w) : Cov k q a b c ss' s' := fun n h1 h2 h3 h4 h5 h6 => hm n (h n h1 h2 h3 h4 h5 h6)
theorem faces_in {k : Nat} {q : Nat → V3} (hk : k ≤ 121) (hr : ∀ i, i < k → rc3 (q i)) (hW : ∀ u ne, Sd3 (Mm k q) u ne → sm100 u) (hB : ∀ m t', SS m t' → (∀ i, i < m → ∃ e, Sd3 (Mm k q) (t' i) e) → m ≤ 80) (fi : Int32) (K : Int32 → Int32 → Int32 → (Nat → Int32) → (Nat → Int32) → (Nat → Int32) → (Nat → Int32) → Int32 → Int32 → Int32 → Int32 → Int32 → Int32 → Int32 → Int32 → Int32 → Option (Int32 × (Nat → Int32) × (Nat → Int32) × (Nat → Int32) × (Nat → Int32) × Int32 × Int32 × Int32 × Int32 × Int32 × Int32 × Int32 × Int32 × Int32)) {i j : Nat} (hi : i < k) (hj : j < k) : ∀ (m fuel l ss : Nat) (s : Nat → V3) (e : Nat → Int) (c1 c2 c3 f1 f2 f3 : Int32), l + m = k → m < fuel → SI (Sd3 (Mm k q)) ss s e → ∃ (ss' : Nat) (s' : Nat → V3) (e' : Nat → Int) (c1' c2' c3' f1' f2' f3' : Int32), LX3_findFaces_54 fi (iz (k : Int)) (px q) (py q) (pz q) K fuel (iz (i : Int)) (iz (j : Int)) (iz (l : Int)) (iz (ss : Int)) (px s) (py s) (pz s) (pe e) (iz (sb3 (q j) (q i)).1) (iz (sb3 (q j) (q i)).2.1) (iz (sb3 (q j) (q i)).2.2) c1 c2 c3 f1 f2 f3 = K (iz (i : Int)) (iz (j : Int)) (iz (ss' : Int)) (px s') (py s') (pz s') (pe e') (iz (sb3 (q j) (q i)).1) (iz (sb3 (q j) (q i)).2.1) (iz (sb3 (q j) (q i)).2.2) c1' c2' c3' f1' f2' f3' ∧ SI (Sd3 (Mm k q)) ss' s' e' ∧ (∀ w, Mm ss s w → Mm ss' s' w) ∧ ∀ l', l ≤ l' → l' < k → Cov k q i j l' ss' s' := by
  intro m
  induction m with
  | zero =>
    intro fuel l ss s e c1 c2 c3 f1 f2 f3 h1 h2 h3
    obtain ⟨fuel, rfl⟩ : ∃ q, fuel = q + 1 := ⟨fuel - 1, by omega⟩
    refine ⟨ss, s, e, c1, c2, c3, f1, f2, f3, ?_, h3, fun w hw => hw, fun l' g1 g2 => by omega⟩
    rw [LX3_findFaces_54, if_pos ((ix_le (by omega) (by omega)).mpr (by omega))]
  | succ m ih =>
    intro fuel l ss s e c1 c2 c3 f1 f2 f3 h1 h2 h3
    obtain ⟨fuel, rfl⟩ : ∃ q, fuel = q + 1 := ⟨fuel - 1, by omega⟩
    have hv : sm100 (cr (sb3 (q j) (q i)) (sb3 (q l) (q i))) := bdv_100 (by decide) (cr_bd (A := 10) (B := 10) (sb_bd (hr j hj) (hr i hi)) (sb_bd (hr l (by omega)) (hr i hi)))
    obtain ⟨ss1, s1, e1, f', g1, g2, g3, g4⟩ := try_i (k := k) (t := i) (q := q) hk hi hv hr hW hB (fun u hu hsup ⟨c, c0, cv⟩ => by
      have on : ∀ x, d3 (cr (sb3 (q j) (q i)) (sb3 (q l) (q i))) (sb3 x (q i)) = 0 → d3 u x = d3 u (q i) := fun x hx => by
        rw [cv, d3_sm, d3_sb] at hx
        have := (Int.mul_eq_zero.mp hx).resolve_left c0
        omega
      refine ⟨hu, fun p ⟨x, hx, ex⟩ => by rw [← ex]; exact hsup x hx, q i, q j, q l, ⟨i, hi, rfl⟩, ⟨j, hj, rfl⟩, ⟨l, by omega, rfl⟩, rfl, on _ (d3_cr1 _ _), on _ (d3_cr2 _ _), fun hrow => ?_⟩
      unfold row3 at hrow
      rw [hrow] at cv
      exact sm3_ne c0 (prim_0 hu) cv.symm) h3
    obtain ⟨ss2, s2, e2, c1', c2', c3', f1', f2', f3', k1, k2, k3, k4⟩ := ih fuel (l + 1) ss1 s1 e1 (iz (sb3 (q l) (q i)).1) (iz (sb3 (q l) (q i)).2.1) (iz (sb3 (q l) (q i)).2.2) (iz f'.1) (iz f'.2.1) (iz f'.2.2) (by omega) (by omega) g2
    refine ⟨ss2, s2, e2, c1', c2', c3', f1', f2', f3', ?_, k2, fun w hw => k3 w (g3 w hw), fun l' g5 g6 => ?_⟩
    · rw [LX3_findFaces_54, if_neg (fun h => by have := (ix_le (by omega) (by omega)).mp h; omega), lead_i (by omega) (by omega) (by omega), bd_some, sq_i, bd_some, g1, bd_some, ix_s]
      exact k1
    · by_cases c : l' = l
      · subst c
        refine Cov_mono (fun n n1 n2 n3 n4 n5 n6 => g4 n n1 n2 ?_ n6) k3
        refine par_of n1 n5 (cr_cr ?_ ?_)
        · rw [d3_sb]; omega
        · rw [d3_sb]; omega
      · exact k4 l' (by omega) g6
theorem faces_mid {k : Nat} {q : Nat → V3} (hk : k ≤ 121) (hr : ∀ i, i < k → rc3 (q i)) (hW : ∀ u ne, Sd3 (Mm k q) u ne → sm100 u) (hB : ∀ m t', SS m t' → (∀ i, i < m → ∃ e, Sd3 (Mm k q) (t' i) e) → m ≤ 80) (fi : Int32) (K : Int32 → Int32 → (Nat → Int32) → (Nat → Int32) → (Nat → Int32) → (Nat → Int32) → Int32 → Int32 → Int32 → Int32 → Int32 → Int32 → Int32 → Int32 → Int32 → Option (Int32 × (Nat → Int32) × (Nat → Int32) × (Nat → Int32) × (Nat → Int32) × Int32 × Int32 × Int32 × Int32 × Int32 × Int32 × Int32 × Int32 × Int32)) {i : Nat} (hi : i < k) : ∀ (m fuel j ss : Nat) (s : Nat → V3) (e : Nat → Int) (l1 l2 l3 c1 c2 c3 f1 f2 f3 : Int32), j + m = k → m < fuel → SI (Sd3 (Mm k q)) ss s e → ∃ (ss' : Nat) (s' : Nat → V3) (e' : Nat → Int) (l1' l2' l3' c1' c2' c3' f1' f2' f3' : Int32), LX3_findFaces_26 fi (iz (k : Int)) (px q) (py q) (pz q) K fuel (iz (i : Int)) (iz (j : Int)) (iz (ss : Int)) (px s) (py s) (pz s) (pe e) l1 l2 l3 c1 c2 c3 f1 f2 f3 = K (iz (i : Int)) (iz (ss' : Int)) (px s') (py s') (pz s') (pe e') l1' l2' l3' c1' c2' c3' f1' f2' f3' ∧ SI (Sd3 (Mm k q)) ss' s' e' ∧ (∀ w, Mm ss s w → Mm ss' s' w) ∧ ∀ j' l', j ≤ j' → j' < l' → l' < k → Cov k q i j' l' ss' s' := by
  intro m
  induction m with
  | zero =>
    intro fuel j ss s e l1 l2 l3 c1 c2 c3 f1 f2 f3 h1 h2 h3
    obtain ⟨fuel, rfl⟩ : ∃ q, fuel = q + 1 := ⟨fuel - 1, by omega⟩
    refine ⟨ss, s, e, l1, l2, l3, c1, c2, c3, f1, f2, f3, ?_, h3, fun w hw => hw, fun j' l' g1 g2 => by omega⟩
    rw [LX3_findFaces_26, if_pos ((ix_le (by omega) (by omega)).mpr (by omega))]
  | succ m ih =>
    intro fuel j ss s e l1 l2 l3 c1 c2 c3 f1 f2 f3 h1 h2 h3
    obtain ⟨fuel, rfl⟩ : ∃ q, fuel = q + 1 := ⟨fuel - 1, by omega⟩
    obtain ⟨ss1, s1, e1, c1', c2', c3', f1', f2', f3', g1, g2, g3, g4⟩ := faces_in hk hr hW hB fi (fun a1 a2 mss mSA mSB mSC mSE ml1 ml2 ml3 mc1 mc2 mc3 mf1 mf2 mf3 => (LX3_findFaces_26 fi (iz (k : Int)) (px q) (py q) (pz q) K fuel a1 (a2 + 1) mss mSA mSB mSC mSE ml1 ml2 ml3 mc1 mc2 mc3 mf1 mf2 mf3)) (i := i) (j := j) hi (by omega) (k - (j + 1)) FU (j + 1) ss s e c1 c2 c3 f1 f2 f3 (by omega) (by unfold FU; omega) h3
    obtain ⟨ss2, s2, e2, l1'', l2'', l3'', c1'', c2'', c3'', f1'', f2'', f3'', k1, k2, k3, k4⟩ := ih fuel (j + 1) ss1 s1 e1 (iz (sb3 (q j) (q i)).1) (iz (sb3 (q j) (q i)).2.1) (iz (sb3 (q j) (q i)).2.2) c1' c2' c3' f1' f2' f3' (by omega) (by omega) g2
    refine ⟨ss2, s2, e2, l1'', l2'', l3'', c1'', c2'', c3'', f1'', f2'', f3'', ?_, k2, fun w hw => k3 w (g3 w hw), fun j' l' a1 a2 a3 => ?_⟩
    · rw [LX3_findFaces_26, if_neg (fun h => by have := (ix_le (by omega) (by omega)).mp h; omega), lead_i (by omega) (by omega) (by omega), bd_some, ix_s, g1, ix_s]
      exact k1
    · by_cases c : j' = j
      · subst c
        exact Cov_mono (g4 l' (by omega) a3) k3
      · exact k4 j' l' (by omega) a2 a3
theorem faces_out {k : Nat} {q : Nat → V3} (hk : k ≤ 121) (hr : ∀ i, i < k → rc3 (q i)) (hW : ∀ u ne, Sd3 (Mm k q) u ne → sm100 u) (hB : ∀ m t', SS m t' → (∀ i, i < m → ∃ e, Sd3 (Mm k q) (t' i) e) → m ≤ 80) (fi : Int32) : ∀ (m fuel i ss : Nat) (s : Nat → V3) (e : Nat → Int) (l1 l2 l3 c1 c2 c3 f1 f2 f3 : Int32), i + m = k → m < fuel → SI (Sd3 (Mm k q)) ss s e → ∃ (ss' : Nat) (s' : Nat → V3) (e' : Nat → Int) (l1' l2' l3' c1' c2' c3' f1' f2' f3' : Int32), LX3_findFaces_11 fi (iz (k : Int)) (px q) (py q) (pz q) fuel (iz (i : Int)) (iz (ss : Int)) (px s) (py s) (pz s) (pe e) l1 l2 l3 c1 c2 c3 f1 f2 f3 = some (iz (ss' : Int), px s', py s', pz s', pe e', l1', l2', l3', c1', c2', c3', f1', f2', f3') ∧ SI (Sd3 (Mm k q)) ss' s' e' ∧ (∀ w, Mm ss s w → Mm ss' s' w) ∧ ∀ i' j' l', i ≤ i' → i' < j' → j' < l' → l' < k → Cov k q i' j' l' ss' s' := by
  intro m
  induction m with
  | zero =>
    intro fuel i ss s e l1 l2 l3 c1 c2 c3 f1 f2 f3 h1 h2 h3
    obtain ⟨fuel, rfl⟩ : ∃ q, fuel = q + 1 := ⟨fuel - 1, by omega⟩
    refine ⟨ss, s, e, l1, l2, l3, c1, c2, c3, f1, f2, f3, ?_, h3, fun w hw => hw, fun i' j' l' g1 g2 => by omega⟩
    rw [LX3_findFaces_11, if_pos ((ix_le (by omega) (by omega)).mpr (by omega))]
  | succ m ih =>
    intro fuel i ss s e l1 l2 l3 c1 c2 c3 f1 f2 f3 h1 h2 h3
    obtain ⟨fuel, rfl⟩ : ∃ q, fuel = q + 1 := ⟨fuel - 1, by omega⟩
    obtain ⟨ss1, s1, e1, l1', l2', l3', c1', c2', c3', f1', f2', f3', g1, g2, g3, g4⟩ := faces_mid hk hr hW hB fi (fun a1 mss mSA mSB mSC mSE ml1 ml2 ml3 mc1 mc2 mc3 mf1 mf2 mf3 => (LX3_findFaces_11 fi (iz (k : Int)) (px q) (py q) (pz q) fuel (a1 + 1) mss mSA mSB mSC mSE ml1 ml2 ml3 mc1 mc2 mc3 mf1 mf2 mf3)) (i := i) (by omega) (k - (i + 1)) FU (i + 1) ss s e l1 l2 l3 c1 c2 c3 f1 f2 f3 (by omega) (by unfold FU; omega) h3
    obtain ⟨ss2, s2, e2, l1'', l2'', l3'', c1'', c2'', c3'', f1'', f2'', f3'', k1, k2, k3, k4⟩ := ih fuel (i + 1) ss1 s1 e1 l1' l2' l3' c1' c2' c3' f1' f2' f3' (by omega) (by omega) g2
    refine ⟨ss2, s2, e2, l1'', l2'', l3'', c1'', c2'', c3'', f1'', f2'', f3'', ?_, k2, fun w hw => k3 w (g3 w hw), fun i' j' l' a1 a2 a3 a4 => ?_⟩
    · rw [LX3_findFaces_11, if_neg (fun h => by have := (ix_le (by omega) (by omega)).mp h; omega), ix_s, g1, ix_s]
      exact k1
    · by_cases c : i' = i
      · subst c
        exact Cov_mono (g4 j' l' (by omega) a3 a4) k3
      · exact k4 i' j' l' (by omega) a2 a3 a4
