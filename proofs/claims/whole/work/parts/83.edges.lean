/-! all faces; the edges and the ends -/
theorem sqn (x : Int) : 0 ≤ x * x := by
  rcases Int.le_total 0 x with h | h
  · exact Int.mul_nonneg h h
  · exact Int.mul_nonneg_of_nonpos_of_nonpos h h
theorem sq_z {v : V3} (h : v.1 * v.1 + v.2.1 * v.2.1 + v.2.2 * v.2.2 = 0) : v = o3 := by
  have q1 := sqn v.1
  have q2 := sqn v.2.1
  have q3 := sqn v.2.2
  have k : ∀ x : Int, x * x = 0 → x = 0 := fun x hx => by rcases Int.mul_eq_zero.mp hx with c | c <;> exact c
  exact v3_ext (by show v.1 = 0; exact k _ (by omega)) (by show v.2.1 = 0; exact k _ (by omega)) (by show v.2.2 = 0; exact k _ (by omega))
theorem row_s1 {a b c : V3} (h : ¬ row3 a b c) : ¬ row3 a c b := fun h2 => h (by
  unfold row3 at h2 ⊢
  have h := v3_iff.mp h2
  refine v3_iff.mpr ?_
  unfold cr sb3 o3 at h ⊢
  dsimp only at h ⊢
  exact ⟨by grind, by grind, by grind⟩)
theorem row_s2 {a b c : V3} (h : ¬ row3 a b c) : ¬ row3 b a c := fun h2 => h (by
  unfold row3 at h2 ⊢
  have h := v3_iff.mp h2
  refine v3_iff.mpr ?_
  unfold cr sb3 o3 at h ⊢
  dsimp only at h ⊢
  exact ⟨by grind, by grind, by grind⟩)
theorem row_ne {a b c : V3} (h : ¬ row3 a b c) : a ≠ b ∧ a ≠ c ∧ b ≠ c := by
  refine ⟨fun e => h ?_, fun e => h ?_, fun e => h ?_⟩ <;>
  · subst e
    unfold row3
    refine v3_iff.mpr ?_
    unfold cr sb3 o3
    dsimp only
    exact ⟨by grind, by grind, by grind⟩
theorem Sd3_cov {k : Nat} {q : Nat → V3} {ss : Nat} {s : Nat → V3} (h : ∀ i' j' l', i' < j' → j' < l' → l' < k → Cov k q i' j' l' ss s) (hnf : ∀ n e, prim n → (∀ x, x < k → d3 n (q x) = e) → False) {n : V3} {e : Int} (hs : Sd3 (Mm k q) n e) : Mm ss s n := by
  obtain ⟨h1, h2, p, a, r, ⟨i, hi, ei⟩, ⟨j, hj, ej⟩, ⟨l, hl, el⟩, e1, e2, e3, h3⟩ := hs
  subst ei; subst ej; subst el
  have lt : ∀ x, d3 n (q x) = e → ∃ y, y < k ∧ d3 n (q y) < d3 n (q x) := fun x hx => by
    refine Classical.byContradiction fun hc => hnf n e h1 (fun y hy => ?_)
    have := h2 (q y) ⟨y, hy, rfl⟩
    have g : ¬ d3 n (q y) < d3 n (q x) := fun hh => hc ⟨y, hy, hh⟩
    omega
  have up : ∀ x, d3 n (q x) = e → ∀ y, y < k → d3 n (q y) ≤ d3 n (q x) := fun x hx y hy => by
    have := h2 (q y) ⟨y, hy, rfl⟩
    omega
  obtain ⟨n1, n2, n3⟩ := row_ne h3
  have n1' : i ≠ j := fun h => n1 (by rw [h])
  have n2' : i ≠ l := fun h => n2 (by rw [h])
  have n3' : j ≠ l := fun h => n3 (by rw [h])
  have go : ∀ a b c, a < b → b < c → c < k → d3 n (q a) = e → d3 n (q b) = e → d3 n (q c) = e → ¬ row3 (q a) (q b) (q c) → Mm ss s n := fun a b c h4 h5 h6 g1 g2 g3 g4 => h a b c h4 h5 h6 n h1 (up a g1) (by omega) (by omega) g4 (lt a g1)
  rcases Nat.lt_or_gt_of_ne n1' with c1 | c1
  · rcases Nat.lt_or_gt_of_ne n3' with c2 | c2
    · exact go i j l c1 c2 hl e1 e2 e3 h3
    · rcases Nat.lt_or_gt_of_ne n2' with c3 | c3
      · exact go i l j c3 c2 hj e1 e3 e2 (row_s1 h3)
      · exact go l i j c3 c1 hj e3 e1 e2 (row_s2 (row_s1 h3))
  · rcases Nat.lt_or_gt_of_ne n2' with c2 | c2
    · exact go j i l c1 c2 hl e2 e1 e3 (row_s2 h3)
    · rcases Nat.lt_or_gt_of_ne n3' with c3 | c3
      · exact go j l i c3 c2 hi e2 e3 e1 (row_s1 (row_s2 h3))
      · exact go l j i c3 c1 hi e3 e2 e1 (row_s2 (row_s1 (row_s2 h3)))
theorem SI_0 (W : V3 → Int → Prop) (s : Nat → V3) (e : Nat → Int) : SI W 0 s e := ⟨fun i j _ hj => by omega, fun i hi => by omega⟩
theorem faces_i {k : Nat} {q : Nat → V3} (hk : k ≤ 121) (hr : ∀ i, i < k → rc3 (q i)) (hW : ∀ u ne, Sd3 (Mm k q) u ne → sm100 u) (hB : ∀ m t', SS m t' → (∀ i, i < m → ∃ e, Sd3 (Mm k q) (t' i) e) → m ≤ 80) (hnf : ∀ n e, prim n → (∀ x, x < k → d3 n (q x) = e) → False) (s : Nat → V3) (e : Nat → Int) (l1 l2 l3 c1 c2 c3 f1 f2 f3 : Int32) : ∃ (ss' : Nat) (s' : Nat → V3) (e' : Nat → Int) (l1' l2' l3' c1' c2' c3' f1' f2' f3' : Int32), fX3_findFaces 3 (iz (k : Int)) (px q) (py q) (pz q) 0 (px s) (py s) (pz s) (pe e) l1 l2 l3 c1 c2 c3 f1 f2 f3 = some (iz (ss' : Int), px s', py s', pz s', pe e', l1', l2', l3', c1', c2', c3', f1', f2', f3') ∧ SI (Sd3 (Mm k q)) ss' s' e' ∧ ∀ n e, Sd3 (Mm k q) n e → Mm ss' s' n := by
  obtain ⟨ss', s', e', l1', l2', l3', c1', c2', c3', f1', f2', f3', h1, h2, h3, h4⟩ := faces_out hk hr hW hB 3 k FU 0 0 s e l1 l2 l3 c1 c2 c3 f1 f2 f3 (by omega) (by unfold FU; omega) (SI_0 _ s e)
  exact ⟨ss', s', e', l1', l2', l3', c1', c2', c3', f1', f2', f3', h1, h2, fun n e hs => Sd3_cov (fun i' j' l' a b c => h4 i' j' l' (Nat.zero_le _) a b c) hnf hs⟩
theorem cr_ne {a N : V3} (h : d3 N a = 0) (ha : a ≠ o3) (hN : N ≠ o3) : cr a N ≠ o3 := fun hc => by
  have hc := v3_iff.mp hc
  unfold cr o3 at hc
  unfold d3 at h
  dsimp only at hc
  obtain ⟨c1, c2, c3⟩ := hc
  have key : ∀ {x y : Int}, x * y = 0 → x ≠ 0 → y = 0 := fun hxy hx => (Int.mul_eq_zero.mp hxy).resolve_left hx
  have sq : (N.1 * N.1 + N.2.1 * N.2.1 + N.2.2 * N.2.2) ≠ 0 := fun h0 => hN (sq_z h0)
  refine ha (v3_ext (key (x := N.1 * N.1 + N.2.1 * N.2.1 + N.2.2 * N.2.2) ?_ sq) (key (x := N.1 * N.1 + N.2.1 * N.2.1 + N.2.2 * N.2.2) ?_ sq) (key (x := N.1 * N.1 + N.2.1 * N.2.1 + N.2.2 * N.2.2) ?_ sq)) <;> grind
def Cov2 (k : Nat) (q : Nat → V3) (N : V3) (a b : Nat) (ss : Nat) (s : Nat → V3) : Prop := ∀ n, prim n → d3 n N = 0 → (∀ x, x < k → d3 n (q x) ≤ d3 n (q a)) → d3 n (q b) = d3 n (q a) → (∃ x, x < k ∧ d3 n (q x) < d3 n (q a)) → Mm ss s n
theorem Cov2_mono {k : Nat} {q : Nat → V3} {N : V3} {a b ss ss' : Nat} {s s' : Nat → V3} (h : Cov2 k q N a b ss s) (hm : ∀ w, Mm ss s w → Mm ss' s' w) : Cov2 k q N a b ss' s' := fun n h1 h2 h3 h4 h5 => hm n (h n h1 h2 h3 h4 h5)
theorem edges_in {k : Nat} {q : Nat → V3} {N : V3} (hk : k ≤ 121) (hr : ∀ i, i < k → rc3 (q i)) (hq : SS k q) (hNb : bdv 1000 N) (hN0 : N ≠ o3) (hN : ∀ i j, i < k → j < k → d3 N (q i) = d3 N (q j)) (hW : ∀ u ne, Sd2 (Mm k q) N u ne → sm100 u) (hB : ∀ m t', SS m t' → (∀ i, i < m → ∃ e, Sd2 (Mm k q) N (t' i) e) → m ≤ 80) (fi : Int32) (K : Int32 → Int32 → (Nat → Int32) → (Nat → Int32) → (Nat → Int32) → (Nat → Int32) → Int32 → Int32 → Int32 → Int32 → Int32 → Int32 → Option (Int32 × (Nat → Int32) × (Nat → Int32) × (Nat → Int32) × (Nat → Int32) × Int32 × Int32 × Int32 × Int32 × Int32 × Int32)) {i : Nat} (hi : i < k) : ∀ (m fuel j ss : Nat) (s : Nat → V3) (e : Nat → Int) (l1 l2 l3 f1 f2 f3 : Int32), j + m = k → i < j → m < fuel → SI (Sd2 (Mm k q) N) ss s e → ∃ (ss' : Nat) (s' : Nat → V3) (e' : Nat → Int) (l1' l2' l3' f1' f2' f3' : Int32), LX3_findEdges_26 fi (iz (k : Int)) (px q) (py q) (pz q) (iz N.1) (iz N.2.1) (iz N.2.2) K fuel (iz (i : Int)) (iz (j : Int)) (iz (ss : Int)) (px s) (py s) (pz s) (pe e) l1 l2 l3 f1 f2 f3 = K (iz (i : Int)) (iz (ss' : Int)) (px s') (py s') (pz s') (pe e') l1' l2' l3' f1' f2' f3' ∧ SI (Sd2 (Mm k q) N) ss' s' e' ∧ (∀ w, Mm ss s w → Mm ss' s' w) ∧ ∀ j', j ≤ j' → j' < k → Cov2 k q N i j' ss' s' := by
  intro m
  induction m with
  | zero =>
    intro fuel j ss s e l1 l2 l3 f1 f2 f3 h1 h0 h2 h3
    obtain ⟨fuel, rfl⟩ : ∃ q, fuel = q + 1 := ⟨fuel - 1, by omega⟩
    refine ⟨ss, s, e, l1, l2, l3, f1, f2, f3, ?_, h3, fun w hw => hw, fun j' g1 g2 => by omega⟩
    rw [LX3_findEdges_26, if_pos ((ix_le (by omega) (by omega)).mpr (by omega))]
  | succ m ih =>
    intro fuel j ss s e l1 l2 l3 f1 f2 f3 h1 h0 h2 h3
    obtain ⟨fuel, rfl⟩ : ∃ q, fuel = q + 1 := ⟨fuel - 1, by omega⟩
    have hv : sm100 (cr (sb3 (q j) (q i)) N) := bdv_100 (by decide) (cr_bd (A := 10) (B := 1000) (sb_bd (hr j (by omega)) (hr i hi)) hNb)
    have ne : q i ≠ q j := fun h => lx_irr (a := q i) (by have := hq i j h0 (by omega); rw [← h] at this; exact this)
    have vne : cr (sb3 (q j) (q i)) N ≠ o3 := cr_ne (by rw [d3_sb, hN j i (by omega) hi]; omega) (fun h => ne (sb3_0.mp h).symm) hN0
    obtain ⟨ss1, s1, e1, f', g1, g2, g3, g4⟩ := try_i (k := k) (t := i) (q := q) hk hi hv hr hW hB (fun u hu hsup ⟨c, c0, cv⟩ => by
      have z : ∀ x, d3 (cr (sb3 (q j) (q i)) N) x = 0 → d3 u x = 0 := fun x hx => by
        rw [cv, d3_sm] at hx
        exact (Int.mul_eq_zero.mp hx).resolve_left c0
      refine ⟨hu, z N (d3_cr2 _ _), fun p ⟨x, hx, ex⟩ => by rw [← ex]; exact hsup x hx, q i, q j, ⟨i, hi, rfl⟩, ⟨j, by omega, rfl⟩, ne, rfl, ?_⟩
      have := z _ (d3_cr1 _ _)
      rw [d3_sb] at this
      omega) h3
    obtain ⟨ss2, s2, e2, l1', l2', l3', f1', f2', f3', k1, k2, k3, k4⟩ := ih fuel (j + 1) ss1 s1 e1 (iz (sb3 (q j) (q i)).1) (iz (sb3 (q j) (q i)).2.1) (iz (sb3 (q j) (q i)).2.2) (iz f'.1) (iz f'.2.1) (iz f'.2.2) (by omega) (by omega) (by omega) g2
    refine ⟨ss2, s2, e2, l1', l2', l3', f1', f2', f3', ?_, k2, fun w hw => k3 w (g3 w hw), fun j' g5 g6 => ?_⟩
    · rw [LX3_findEdges_26, if_neg (fun h => by have := (ix_le (by omega) (by omega)).mp h; omega), lead_i (by omega) (by omega) (by omega), bd_some, sq_i, bd_some, g1, bd_some, ix_s]
      exact k1
    · by_cases c : j' = j
      · subst c
        refine Cov2_mono (fun n n1 n2 n3 n4 n5 => g4 n n1 n3 ?_ n5) k3
        exact par_of n1 vne (cr_cr (by rw [d3_sb]; omega) n2)
      · exact k4 j' (by omega) g6
theorem edges_out {k : Nat} {q : Nat → V3} {N : V3} (hk : k ≤ 121) (hr : ∀ i, i < k → rc3 (q i)) (hq : SS k q) (hNb : bdv 1000 N) (hN0 : N ≠ o3) (hN : ∀ i j, i < k → j < k → d3 N (q i) = d3 N (q j)) (hW : ∀ u ne, Sd2 (Mm k q) N u ne → sm100 u) (hB : ∀ m t', SS m t' → (∀ i, i < m → ∃ e, Sd2 (Mm k q) N (t' i) e) → m ≤ 80) (fi : Int32) : ∀ (m fuel i ss : Nat) (s : Nat → V3) (e : Nat → Int) (l1 l2 l3 f1 f2 f3 : Int32), i + m = k → m < fuel → SI (Sd2 (Mm k q) N) ss s e → ∃ (ss' : Nat) (s' : Nat → V3) (e' : Nat → Int) (l1' l2' l3' f1' f2' f3' : Int32), LX3_findEdges_11 fi (iz (k : Int)) (px q) (py q) (pz q) (iz N.1) (iz N.2.1) (iz N.2.2) fuel (iz (i : Int)) (iz (ss : Int)) (px s) (py s) (pz s) (pe e) l1 l2 l3 f1 f2 f3 = some (iz (ss' : Int), px s', py s', pz s', pe e', l1', l2', l3', f1', f2', f3') ∧ SI (Sd2 (Mm k q) N) ss' s' e' ∧ (∀ w, Mm ss s w → Mm ss' s' w) ∧ ∀ i' j', i ≤ i' → i' < j' → j' < k → Cov2 k q N i' j' ss' s' := by
  intro m
  induction m with
  | zero =>
    intro fuel i ss s e l1 l2 l3 f1 f2 f3 h1 h2 h3
    obtain ⟨fuel, rfl⟩ : ∃ q, fuel = q + 1 := ⟨fuel - 1, by omega⟩
    refine ⟨ss, s, e, l1, l2, l3, f1, f2, f3, ?_, h3, fun w hw => hw, fun i' j' g1 g2 => by omega⟩
    rw [LX3_findEdges_11, if_pos ((ix_le (by omega) (by omega)).mpr (by omega))]
  | succ m ih =>
    intro fuel i ss s e l1 l2 l3 f1 f2 f3 h1 h2 h3
    obtain ⟨fuel, rfl⟩ : ∃ q, fuel = q + 1 := ⟨fuel - 1, by omega⟩
    obtain ⟨ss1, s1, e1, l1', l2', l3', f1', f2', f3', g1, g2, g3, g4⟩ := edges_in hk hr hq hNb hN0 hN hW hB fi (fun a1 mss mSA mSB mSC mSE ml1 ml2 ml3 mf1 mf2 mf3 => (LX3_findEdges_11 fi (iz (k : Int)) (px q) (py q) (pz q) (iz N.1) (iz N.2.1) (iz N.2.2) fuel (a1 + 1) mss mSA mSB mSC mSE ml1 ml2 ml3 mf1 mf2 mf3)) (i := i) (by omega) (k - (i + 1)) FU (i + 1) ss s e l1 l2 l3 f1 f2 f3 (by omega) (by omega) (by unfold FU; omega) h3
    obtain ⟨ss2, s2, e2, l1'', l2'', l3'', f1'', f2'', f3'', k1, k2, k3, k4⟩ := ih fuel (i + 1) ss1 s1 e1 l1' l2' l3' f1' f2' f3' (by omega) (by omega) g2
    refine ⟨ss2, s2, e2, l1'', l2'', l3'', f1'', f2'', f3'', ?_, k2, fun w hw => k3 w (g3 w hw), fun i' j' a1 a2 a3 => ?_⟩
    · rw [LX3_findEdges_11, if_neg (fun h => by have := (ix_le (by omega) (by omega)).mp h; omega), ix_s, g1, ix_s]
      exact k1
    · by_cases c : i' = i
      · subst c
        exact Cov2_mono (g4 j' (by omega) a3) k3
      · exact k4 i' j' (by omega) a2 a3
theorem Sd2_cov {k : Nat} {q : Nat → V3} {N : V3} {ss : Nat} {s : Nat → V3} (h : ∀ i' j', i' < j' → j' < k → Cov2 k q N i' j' ss s) (hnf : ∀ n e, prim n → d3 n N = 0 → (∀ x, x < k → d3 n (q x) = e) → False) {n : V3} {e : Int} (hs : Sd2 (Mm k q) N n e) : Mm ss s n := by
  obtain ⟨h1, h0, h2, p, a, ⟨i, hi, ei⟩, ⟨j, hj, ej⟩, hne, e1, e2⟩ := hs
  subst ei; subst ej
  have lt : ∀ x, d3 n (q x) = e → ∃ y, y < k ∧ d3 n (q y) < d3 n (q x) := fun x hx => by
    refine Classical.byContradiction fun hc => hnf n e h1 h0 (fun y hy => ?_)
    have := h2 (q y) ⟨y, hy, rfl⟩
    have g : ¬ d3 n (q y) < d3 n (q x) := fun hh => hc ⟨y, hy, hh⟩
    omega
  have up : ∀ x, d3 n (q x) = e → ∀ y, y < k → d3 n (q y) ≤ d3 n (q x) := fun x hx y hy => by
    have := h2 (q y) ⟨y, hy, rfl⟩
    omega
  have n1' : i ≠ j := fun h => hne (by rw [h])
  rcases Nat.lt_or_gt_of_ne n1' with c1 | c1
  · exact h i j c1 hj n h1 h0 (up i e1) (by omega) (lt i e1)
  · exact h j i c1 hi n h1 h0 (up j e2) (by omega) (lt j e2)
theorem edges_i {k : Nat} {q : Nat → V3} {N : V3} (hk : k ≤ 121) (hr : ∀ i, i < k → rc3 (q i)) (hq : SS k q) (hNb : bdv 1000 N) (hN0 : N ≠ o3) (hN : ∀ i j, i < k → j < k → d3 N (q i) = d3 N (q j)) (hW : ∀ u ne, Sd2 (Mm k q) N u ne → sm100 u) (hB : ∀ m t', SS m t' → (∀ i, i < m → ∃ e, Sd2 (Mm k q) N (t' i) e) → m ≤ 80) (hnf : ∀ n e, prim n → d3 n N = 0 → (∀ x, x < k → d3 n (q x) = e) → False) (s : Nat → V3) (e : Nat → Int) (l1 l2 l3 f1 f2 f3 : Int32) : ∃ (ss' : Nat) (s' : Nat → V3) (e' : Nat → Int) (l1' l2' l3' f1' f2' f3' : Int32), fX3_findEdges 2 (iz (k : Int)) (px q) (py q) (pz q) 0 (px s) (py s) (pz s) (pe e) l1 l2 l3 (iz N.1) (iz N.2.1) (iz N.2.2) f1 f2 f3 = some (iz (ss' : Int), px s', py s', pz s', pe e', l1', l2', l3', f1', f2', f3') ∧ SI (Sd2 (Mm k q) N) ss' s' e' ∧ ∀ n e, Sd2 (Mm k q) N n e → Mm ss' s' n := by
  obtain ⟨ss', s', e', l1', l2', l3', f1', f2', f3', h1, h2, h3, h4⟩ := edges_out hk hr hq hNb hN0 hN hW hB 2 k FU 0 0 s e l1 l2 l3 f1 f2 f3 (by omega) (by unfold FU; omega) (SI_0 _ s e)
  exact ⟨ss', s', e', l1', l2', l3', f1', f2', f3', h1, h2, fun n e hs => Sd2_cov (fun i' j' a b => h4 i' j' (Nat.zero_le _) a b) hnf hs⟩
theorem ends_out {k : Nat} {q : Nat → V3} {D : V3} {d : Int} (hk : k ≤ 121) (hr : ∀ i, i < k → rc3 (q i)) (hD : prim D) (hd : 0 < d) (hv0 : sb3 (q (k - 1)) (q 0) = sm3 d D) (hW : ∀ u ne, Sd1 (Mm k q) D u ne → sm100 u) (hB : ∀ m t', SS m t' → (∀ i, i < m → ∃ e, Sd1 (Mm k q) D (t' i) e) → m ≤ 80) (fi : Int32) : ∀ (m fuel i ss : Nat) (s : Nat → V3) (e : Nat → Int) (f1 f2 f3 : Int32), i + m = k → m < fuel → SI (Sd1 (Mm k q) D) ss s e → ∃ (ss' : Nat) (s' : Nat → V3) (e' : Nat → Int) (f1' f2' f3' : Int32), LX3_findEnds_11 fi (iz (k : Int)) (px q) (py q) (pz q) fuel (iz (i : Int)) (iz (ss : Int)) (px s) (py s) (pz s) (pe e) f1 f2 f3 = some (iz (ss' : Int), px s', py s', pz s', pe e', f1', f2', f3') ∧ SI (Sd1 (Mm k q) D) ss' s' e' ∧ (∀ w, Mm ss s w → Mm ss' s' w) ∧ ∀ i', i ≤ i' → i' < k → ∀ n, (n = D ∨ n = ng3 D) → (∀ x, x < k → d3 n (q x) ≤ d3 n (q i')) → (∃ x, x < k ∧ d3 n (q x) < d3 n (q i')) → Mm ss' s' n := by
  intro m
  induction m with
  | zero =>
    intro fuel i ss s e f1 f2 f3 h1 h2 h3
    obtain ⟨fuel, rfl⟩ : ∃ q, fuel = q + 1 := ⟨fuel - 1, by omega⟩
    refine ⟨ss, s, e, f1, f2, f3, ?_, h3, fun w hw => hw, fun i' g1 g2 => by omega⟩
    rw [LX3_findEnds_11, if_pos ((ix_le (by omega) (by omega)).mpr (by omega))]
  | succ m ih =>
    intro fuel i ss s e f1 f2 f3 h1 h2 h3
    obtain ⟨fuel, rfl⟩ : ∃ q, fuel = q + 1 := ⟨fuel - 1, by omega⟩
    have hv : sm100 (sb3 (q (k - 1)) (q 0)) := bdv_100 (B := 10) (by decide) (sb_bd (hr (k - 1) (by omega)) (hr 0 (by omega)))
    obtain ⟨ss1, s1, e1, f', g1, g2, g3, g4⟩ := try_i (k := k) (t := i) (q := q) hk (by omega) hv hr hW hB (fun u hu hsup ⟨c, c0, cv⟩ => by
      refine ⟨?_, fun p ⟨x, hx, ex⟩ => by rw [← ex]; exact hsup x hx, q i, ⟨i, by omega, rfl⟩, rfl⟩
      exact par_aux hD hu c0 (b := d) (by rw [← cv, hv0])) h3
    obtain ⟨ss2, s2, e2, f1', f2', f3', k1, k2, k3, k4⟩ := ih fuel (i + 1) ss1 s1 e1 (iz f'.1) (iz f'.2.1) (iz f'.2.2) (by omega) (by omega) g2
    refine ⟨ss2, s2, e2, f1', f2', f3', ?_, k2, fun w hw => k3 w (g3 w hw), fun i' a1 a2 n hn hsup hlt => ?_⟩
    · rw [LX3_findEnds_11, if_neg (fun h => by have := (ix_le (by omega) (by omega)).mp h; omega), ix_m1 (by omega), show (0 : Int32) = iz ((0 : Nat) : Int) from rfl, lead_i (by omega) (by omega) (by omega), bd_some, g1, bd_some, ix_s]
      exact k1
    · by_cases c : i' = i
      · subst c
        refine k3 n ?_
        rcases hn with hn | hn
        · exact g4 n (by rw [hn]; exact hD) hsup ⟨d, by omega, by rw [hn]; exact hv0⟩ hlt
        · exact g4 n (by rw [hn]; exact prim_ng hD) hsup ⟨-d, by omega, by rw [hn, hv0]; unfold sm3 ng3; exact v3_ext (by dsimp only; grind) (by dsimp only; grind) (by dsimp only; grind)⟩ hlt
      · exact k4 i' (by omega) a2 n hn hsup hlt
theorem ends_i {k : Nat} {q : Nat → V3} {D : V3} {d : Int} (hk : k ≤ 121) (hr : ∀ i, i < k → rc3 (q i)) (hD : prim D) (hd : 0 < d) (hv0 : sb3 (q (k - 1)) (q 0) = sm3 d D) (hk2 : 2 ≤ k) (hW : ∀ u ne, Sd1 (Mm k q) D u ne → sm100 u) (hB : ∀ m t', SS m t' → (∀ i, i < m → ∃ e, Sd1 (Mm k q) D (t' i) e) → m ≤ 80) (s : Nat → V3) (e : Nat → Int) (f1 f2 f3 : Int32) : ∃ (ss' : Nat) (s' : Nat → V3) (e' : Nat → Int) (f1' f2' f3' : Int32), fX3_findEnds 1 (iz (k : Int)) (px q) (py q) (pz q) 0 (px s) (py s) (pz s) (pe e) f1 f2 f3 = some (iz (ss' : Int), px s', py s', pz s', pe e', f1', f2', f3') ∧ SI (Sd1 (Mm k q) D) ss' s' e' ∧ ∀ n e, Sd1 (Mm k q) D n e → Mm ss' s' n := by
  obtain ⟨ss', s', e', f1', f2', f3', h1, h2, h3, h4⟩ := ends_out hk hr hD hd hv0 hW hB 1 k FU 0 0 s e f1 f2 f3 (by omega) (by unfold FU; omega) (SI_0 _ s e)
  refine ⟨ss', s', e', f1', f2', f3', by unfold fX3_findEnds; rw [if_pos rfl]; exact h1, h2, fun n e ⟨n1, n2, p, ⟨i, hi, ei⟩, n3⟩ => ?_⟩
  subst ei
  refine h4 i (Nat.zero_le _) hi n n1 (fun x hx => by rw [n3]; exact n2 _ ⟨x, hx, rfl⟩) ?_
  refine Classical.byContradiction fun hc => ?_
  have hall : ∀ x, x < k → d3 n (q x) = e := fun x hx => by
    have a1 := n2 _ ⟨x, hx, rfl⟩
    have a2 : ¬ d3 n (q x) < d3 n (q i) := fun h => hc ⟨x, hx, h⟩
    omega
  have z : d3 n (sm3 d D) = 0 := by rw [← hv0, d3_sb, hall _ (show k - 1 < k by omega), hall _ (show 0 < k by omega)]; omega
  have z2 : d3 D (sm3 d D) = 0 := by
    rcases n1 with c | c
    · rw [← c]; exact c ▸ z
    · rw [c, d3_ng] at z; omega
  have z3 : d * d3 D D = 0 := by rw [← z2]; unfold d3 sm3; grind
  have z4 := (Int.mul_eq_zero.mp z3).resolve_left (by omega)
  unfold d3 at z4
  exact prim_0 hD (sq_z z4)
