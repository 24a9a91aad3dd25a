/-! the class makes a body -/
theorem Sd_f {S : V3 → Prop} {N : V3} : (Sd S 1 N = Sd1 S N) ∧ (Sd S 2 N = Sd2 S N) ∧ (Sd S 3 N = Sd3 S) := by
  refine ⟨?_, ?_, ?_⟩ <;> funext n e <;> unfold Sd <;> simp
theorem bound_f {k : Nat} {q : Nat → V3} {f : Nat} {N : V3} (hk : k ≤ 40) (hr : ∀ p, Mm k q p → rc3 p) (hf : FD (Mm k q) f N) : ∀ m t', SS m t' → (∀ i, i < m → ∃ e, Sd (Mm k q) f N (t' i) e) → m ≤ 80 := by
  intro m t' ht h
  rcases hf with ⟨rfl, _⟩ | ⟨rfl, _⟩ | ⟨rfl, h1, h2, h3, x, y, z, hx, hy, hz, hr2⟩ | ⟨rfl, x, y, z, t, hx, hy, hz, ht2, hr2⟩
  · rcases Nat.eq_zero_or_pos m with c | c
    · omega
    · obtain ⟨e, g | g | g⟩ := h 0 c
      · omega
      · omega
      · omega
  · rw [Sd_f.1] at h
    have := bound1 m t' ht h
    omega
  · rw [Sd_f.2.1] at h
    have := bound2 (NF2_row h1 h3 hx hy hz hr2) m t' ht h
    omega
  · rw [Sd_f.2.2] at h
    have := bound3 hr (NF_det hx hy hz ht2 hr2) m t' ht h
    omega
theorem bdv_w {A B : Int} {v : V3} (h : bdv A v) (hAB : A ≤ B) : bdv B v := by
  obtain ⟨⟨a, b⟩, ⟨c, d⟩, e, f⟩ := h
  exact ⟨by omega, by omega, by omega⟩
theorem sides_i {β : Type} {k : Nat} {q : Nat → V3} {f : Nat} {N : V3} (hk : k ≤ 40) (hk1 : 1 ≤ k) (hr : ∀ i, i < k → rc3 (q i)) (hq : SS k q) (hf : FD (Mm k q) f N) (hN : bdv 200 N) {r1 r2 r3 : Int32} (h2 : f = 2 → r1 = iz N.1 ∧ r2 = iz N.2.1 ∧ r3 = iz N.2.2) (h1 : f = 1 → ∃ d, 0 < d ∧ sb3 (q (k - 1)) (q 0) = sm3 d N ∧ 2 ≤ k) (s0 : Nat → V3) (e0 : Nat → Int) (l1 l2 l3 c1 c2 c3 f1 f2 f3 : Int32) (K : Int32 × (Nat → Int32) × (Nat → Int32) × (Nat → Int32) × (Nat → Int32) × Int32 × Int32 × Int32 × Int32 × Int32 × Int32 × Int32 × Int32 × Int32 → Option β) : ∃ (ss : Nat) (s : Nat → V3) (e : Nat → Int) (g1 g2 g3 g4 g5 g6 g7 g8 g9 : Int32), (bd (fX3_findEnds (iz (f : Int)) (iz (k : Int)) (px q) (py q) (pz q) 0 (px s0) (py s0) (pz s0) (pe e0) f1 f2 f3) (fun v_5 => (bd (fX3_findEdges (iz (f : Int)) (iz (k : Int)) (px q) (py q) (pz q) v_5.1 v_5.2.1 v_5.2.2.1 v_5.2.2.2.1 v_5.2.2.2.2.1 l1 l2 l3 r1 r2 r3 v_5.2.2.2.2.2.1 v_5.2.2.2.2.2.2.1 v_5.2.2.2.2.2.2.2) (fun v_6 => (bd (fX3_findFaces (iz (f : Int)) (iz (k : Int)) (px q) (py q) (pz q) v_6.1 v_6.2.1 v_6.2.2.1 v_6.2.2.2.1 v_6.2.2.2.2.1 v_6.2.2.2.2.2.1 v_6.2.2.2.2.2.2.1 v_6.2.2.2.2.2.2.2.1 c1 c2 c3 v_6.2.2.2.2.2.2.2.2.1 v_6.2.2.2.2.2.2.2.2.2.1 v_6.2.2.2.2.2.2.2.2.2.2) K))))) = K (iz (ss : Int), px s, py s, pz s, pe e, g1, g2, g3, g4, g5, g6, g7, g8, g9) ∧ SI (Sd (Mm k q) f N) ss s e ∧ ∀ n e', Sd (Mm k q) f N n e' → Mm ss s n := by
  have hr' : ∀ p, Mm k q p → rc3 p := fun p ⟨i, hi, ei⟩ => by rw [← ei]; exact hr i hi
  have hB := bound_f hk hr' hf
  have hW : ∀ u ne, Sd (Mm k q) f N u ne → sm100 u := fun u ne hs => bdv_100 (by decide) (sd_bd hr' hf hN hs)
  have hf' := hf
  rcases hf with ⟨rfl, _⟩ | ⟨rfl, g1, g2, g3, _⟩ | ⟨rfl, g1, g2, g3, x, y, z, hx, hy, hz, hrw⟩ | ⟨rfl, x, y, z, t, hx, hy, hz, ht, hrw⟩
  · refine ⟨0, s0, e0, l1, l2, l3, c1, c2, c3, f1, f2, f3, ?_, SI_0 _ s0 e0, fun n e' hs => ?_⟩
    · unfold fX3_findEnds fX3_findEdges fX3_findFaces
      rw [if_neg (by decide), bd_some, if_neg (by decide), bd_some, if_neg (by decide), bd_some]
      rfl
    · rcases hs with ⟨c, _⟩ | ⟨c, _⟩ | ⟨c, _⟩ <;> omega
  · rw [Sd_f.1] at hB hW ⊢
    obtain ⟨d, d0, ed, k2⟩ := h1 rfl
    obtain ⟨ss, s, e, a1, a2, a3, q1, q2, q3⟩ := ends_i (by omega) hr g1 d0 ed k2 hW hB s0 e0 f1 f2 f3
    refine ⟨ss, s, e, l1, l2, l3, c1, c2, c3, a1, a2, a3, ?_, q2, q3⟩
    rw [show iz ((1 : Nat) : Int) = 1 from rfl, q1, bd_some]
    unfold fX3_findEdges fX3_findFaces
    rw [if_neg (by decide), bd_some, if_neg (by decide), bd_some]
  · rw [Sd_f.2.1] at hB hW ⊢
    obtain ⟨rfl, rfl, rfl⟩ := h2 rfl
    have nf := NF2_row g1 g3 hx hy hz hrw
    obtain ⟨ss, s, e, b1, b2, b3, a1, a2, a3, q1, q2, q3⟩ := edges_i (by omega) hr hq (bdv_w hN (by decide)) (prim_0 g1) (fun i j hi hj => g3 _ _ ⟨i, hi, rfl⟩ ⟨j, hj, rfl⟩) hW hB (fun n e pn nN hall => nf.2.2 n e pn nN (fun p ⟨i, hi, ei⟩ => by rw [← ei]; exact hall i hi)) s0 e0 l1 l2 l3 f1 f2 f3
    refine ⟨ss, s, e, b1, b2, b3, c1, c2, c3, a1, a2, a3, ?_, q2, q3⟩
    unfold fX3_findEnds
    rw [if_neg (by decide), bd_some, show iz ((2 : Nat) : Int) = 2 from rfl, q1, bd_some]
    unfold fX3_findFaces
    rw [if_neg (by decide), bd_some]
  · rw [Sd_f.2.2] at hB hW ⊢
    have nf := NF_det hx hy hz ht hrw
    obtain ⟨ss, s, e, b1, b2, b3, d1, d2, d3', a1, a2, a3, q1, q2, q3⟩ := faces_i (by omega) hr hW hB (fun n e pn hall => nf n e pn (fun p ⟨i, hi, ei⟩ => by rw [← ei]; exact hall i hi)) s0 e0 l1 l2 l3 c1 c2 c3 f1 f2 f3
    refine ⟨ss, s, e, b1, b2, b3, d1, d2, d3', a1, a2, a3, ?_, q2, q3⟩
    unfold fX3_findEnds fX3_findEdges
    rw [if_neg (by decide), bd_some, if_neg (by decide), bd_some, show iz ((3 : Nat) : Int) = 3 from rfl, q1, bd_some]
theorem SS_ne {n : Nat} {s : Nat → V3} (h : SS n s) {i j : Nat} (hi : i < n) (hj : j < n) (e : s i = s j) : i = j := by
  rcases Nat.lt_trichotomy i j with c | c | c
  · have := h i j c hj
    rw [e] at this
    exact (lx_irr this).elim
  · exact c
  · have := h j i c hi
    rw [e] at this
    exact (lx_irr this).elim
theorem Cn_tc {S : V3 → Prop} {f : Nat} {N : V3} {ss : Nat} {s : Nat → V3} {e : Nat → Int} (hf : f ≤ 3) (h : SI (Sd S f N) ss s e) (hc : ∀ n e', Sd S f N n e' → Mm ss s n) (v : V3) : (S v ∧ f ≤ tc s e v ss) ↔ Cn S f N v := by
  obtain ⟨hs, hw⟩ := h
  have ix : ∀ {n e'}, Sd S f N n e' → d3 n v = e' → ∃ i, i < ss ∧ s i = n ∧ d3 (s i) v = e i := fun {n e'} h1 h2 => by
    obtain ⟨i, hi, ei⟩ := hc n e' h1
    refine ⟨i, hi, ei, ?_⟩
    have := hw i hi
    rw [ei] at this
    rw [ei, h2]
    exact Sd_e h1 this
  have ne : ∀ i j, i < j → j < ss → s i ≠ s j := fun i j hij hj h => by have := SS_ne hs (by omega) hj h; omega
  unfold Cn
  constructor
  · rintro ⟨h1, h2⟩
    refine ⟨h1, ?_⟩
    rcases (show f = 0 ∨ f = 1 ∨ f = 2 ∨ f = 3 by omega) with c | c | c | c
    · exact Or.inl c
    · subst c
      obtain ⟨i, hi, o⟩ := (tc1 s e v ss).mp h2
      exact Or.inr (Or.inl ⟨rfl, s i, e i, hw i hi, o⟩)
    · subst c
      obtain ⟨i, j, hi, hj, o1, o2⟩ := (tc2 s e v ss).mp h2
      exact Or.inr (Or.inr (Or.inl ⟨rfl, s i, e i, s j, e j, ne i j hi hj, hw i (by omega), hw j hj, o1, o2⟩))
    · subst c
      obtain ⟨i, j, l, hi, hj, hl, o1, o2, o3⟩ := (tc3 s e v ss).mp h2
      exact Or.inr (Or.inr (Or.inr ⟨rfl, s i, e i, s j, e j, s l, e l, ne i j hi (by omega), ne i l (by omega) hl, ne j l hj hl, hw i (by omega), hw j (by omega), hw l hl, o1, o2, o3⟩))
  · rintro ⟨h1, h2⟩
    refine ⟨h1, ?_⟩
    rcases h2 with c | ⟨c, n, e', s1, o1⟩ | ⟨c, n, e', n', e'', ne1, s1, s2, o1, o2⟩ | ⟨c, n, e1, n', e2, n'', e3, ne1, ne2, ne3, s1, s2, s3, o1, o2, o3'⟩
    · omega
    · obtain ⟨i, hi, ei, oi⟩ := ix s1 o1
      subst c
      exact (tc1 s e v ss).mpr ⟨i, hi, oi⟩
    · obtain ⟨i, hi, ei, oi⟩ := ix s1 o1
      obtain ⟨j, hj, ej, oj⟩ := ix s2 o2
      subst c
      have nij : i ≠ j := fun h => ne1 (by rw [← ei, ← ej, h])
      rcases Nat.lt_or_gt_of_ne nij with c | c
      · exact (tc2 s e v ss).mpr ⟨i, j, c, hj, oi, oj⟩
      · exact (tc2 s e v ss).mpr ⟨j, i, c, hi, oj, oi⟩
    · obtain ⟨i, hi, ei, oi⟩ := ix s1 o1
      obtain ⟨j, hj, ej, oj⟩ := ix s2 o2
      obtain ⟨l, hl, el, ol⟩ := ix s3 o3'
      subst c
      have nij : i ≠ j := fun h => ne1 (by rw [← ei, ← ej, h])
      have nil : i ≠ l := fun h => ne2 (by rw [← ei, ← el, h])
      have njl : j ≠ l := fun h => ne3 (by rw [← ej, ← el, h])
      have go : ∀ a b c, a < b → b < c → c < ss → d3 (s a) v = e a → d3 (s b) v = e b → d3 (s c) v = e c → 3 ≤ tc s e v ss := fun a b c x1 x2 x3 x4 x5 x6 => (tc3 s e v ss).mpr ⟨a, b, c, x1, x2, x3, x4, x5, x6⟩
      rcases Nat.lt_or_gt_of_ne nij with c1 | c1
      · rcases Nat.lt_or_gt_of_ne njl with c2 | c2
        · exact go i j l c1 c2 hl oi oj ol
        · rcases Nat.lt_or_gt_of_ne nil with c3 | c3
          · exact go i l j c3 c2 hj oi ol oj
          · exact go l i j c3 c1 hj ol oi oj
      · rcases Nat.lt_or_gt_of_ne nil with c2 | c2
        · exact go j i l c1 c2 hl oj oi ol
        · rcases Nat.lt_or_gt_of_ne njl with c3 | c3
          · exact go j l i c3 c2 hi oj ol oi
          · exact go l j i c3 c1 hi ol oj oi
theorem thin_HQ {p0 p : Nat → V3} {k n : Nat} (h : ThI p0 k n p) : HQ (Mm k p) (Mm n p0) := by
  obtain ⟨h1, h2, h3, h4, h5, h6, h7, h8⟩ := h
  refine ⟨fun v ⟨i, hi, ei⟩ => by rw [← ei]; exact h4 i hi, fun v ⟨i, hi, ei⟩ => ?_⟩
  rw [← ei]
  rcases h6 i hi with ⟨j, hj, ej⟩ | ⟨a, ha, hb⟩
  · exact ⟨p j, p j, ⟨j, hj, rfl⟩, ⟨j, hj, rfl⟩, by rw [← ej]; exact btw_self _⟩
  · exact ⟨p a, p (a + 1), ⟨a, by omega, rfl⟩, ⟨a + 1, ha, rfl⟩, hb⟩
theorem make_i {n : Nat} {p : Nat → V3} (hn : 1 ≤ n) (hn2 : n ≤ 121) (hr : ∀ v, Mm n p v → rc3 v) (hcap : ∀ k q, k ≤ n → SS k q → (∀ a, a < k → Mm n p (q a)) → (∀ a, a + 2 < k → ¬ row3 (q a) (q (a + 1)) (q (a + 2))) → k ≤ 40) (fi ss0 bs0 : Int32) (SA SB SC SE BA BB BC BD : Nat → Int32) (l1 l2 l3 c1 c2 c3 r1 r2 r3 f1 f2 f3 : Int32) : ∃ (f : Nat) (N : V3) (cs : Nat) (c : Nat → V3) (ss : Nat) (s : Nat → V3) (e : Nat → Int) (b : Nat → V3) (be L G : Nat → Int) (w1 w2 : Int32) (w3 w4 w5 : Nat → Int32) (w6 : Int32) (w7 w8 w9 w10 : Nat → Int32) (w11 : Int32) (w12 w13 w14 w15 : Nat → Int32) (w16 w17 w18 w19 w20 w21 w22 w23 w24 w25 w26 w27 : Int32), fX3_make fi (iz (n : Int)) (px p) (py p) (pz p) ss0 SA SB SC SE bs0 BA BB BC BD l1 l2 l3 c1 c2 c3 r1 r2 r3 f1 f2 f3 = some (w1, w2, w3, w4, w5, w6, w7, w8, w9, w10, w11, w12, w13, w14, w15, w16, w17, w18, w19, w20, w21, w22, w23, w24, w25, w26, w27, iz (f : Int), iz (n : Int), iz (cs : Int), iz (ss : Int), iz ((nbd f : Nat) : Int), pe L, pe G, px c, cs, py c, pz c, px s, ss, py s, pz s, pe e, px b, nbd f, py b, pz b, pe be) ∧ BodyP (Mm n p) f N cs c ss s e b be L G := by
  obtain ⟨p1, e1, hw, hm⟩ := sort_i (n := 121) (sz := n) hn2 (by omega) p hr
  have hr1 : ∀ v, Mm n p1 v → rc3 v := fun v hv => hr v ((hm v).mp hv)
  obtain ⟨k, q, e2, ht⟩ := thin_i (n := 121) hn2 (by omega) hw hr1
  have ht' := ht
  obtain ⟨t1, t2, t3, t4, t5, t6, t7, t8⟩ := ht'
  have hk1 : 1 ≤ k := t2 hn
  have hk : k ≤ 40 := hcap k q t1 t3 (fun a ha => (hm _).mp (t4 a ha)) t7
  have hrq : ∀ i, i < k → rc3 (q i) := fun i hi => hr1 _ (t4 i hi)
  have hrQ : ∀ v, Mm k q v → rc3 v := fun v ⟨i, hi, ei⟩ => by rw [← ei]; exact hrq i hi
  have hHQ0 := thin_HQ ht
  have hHQ : HQ (Mm k q) (Mm n p) := ⟨fun v hv => (hm v).mp (hHQ0.1 v hv), fun v hv => hHQ0.2 v ((hm v).mpr hv)⟩
  obtain ⟨f, L1, L2, L3, C1, C2, C3, R1, R2, R3, e3, hsp⟩ := space_i (k := k) (q := q) (by omega) hk1 hrq fi l1 l2 l3 c1 c2 c3 r1 r2 r3
  obtain ⟨N, b, be, M1, M2, M3, T1, T2, T3, e4, hb, hfd, hNb, hf2, hf1⟩ := bindSpace_i (by omega) hk1 hrq t3 hsp (at3 BA BB BC) (at1 BD)
  rw [px_at, py_at, pz_at, pe_at] at e4
  have f3' : f ≤ 3 := by
    rcases hfd with ⟨c, _⟩ | ⟨c, _⟩ | ⟨c, _⟩ | ⟨c, _⟩ <;> omega
  have nb3 : nbd f ≤ 3 := by unfold nbd; split; omega; split <;> omega
  have hSd : ∀ {m e}, Sd (Mm k q) f N m e → bdv 4000 m := fun h => sd_bd hrQ hfd hNb h
  unfold fX3_make
  rw [e1, bd_some, e2, bd_some, e3, bd_some, e4, bd_some]
  dsimp only
  obtain ⟨ss, s, e, g1, g2, g3, g4, g5, g6, g7, g8, g9, e5, hSI, hall⟩ := sides_i (f1 := f1) (f2 := f2) (f3 := f3) (l1 := M1) (l2 := M2) (l3 := M3) (c1 := C1) (c2 := C2) (c3 := C3) hk hk1 hrq t3 hfd hNb hf2 hf1 (at3 SA SB SC) (at1 SE) (fun v_7 => (bd (fX3_cornersFound (iz (f : Int)) (iz (k : Int)) (px q) (py q) (pz q) v_7.1 v_7.2.1 v_7.2.2.1 v_7.2.2.2.1 v_7.2.2.2.2.1) (fun v_8 => (bd (fX1_trimmed 80 v_7.1 v_7.2.1 v_7.2.2.1 v_7.2.2.2.1 v_7.2.2.2.2.1) (fun v_10 => (bd (fX1_trimmed 3 (iz ((nbd f : Nat) : Int)) (px b) (py b) (pz b) (pe be)) (fun v_12 => (bd (fX0_init v_8.2.2.2.2.2.2.1 0 0 v_8.2.2.2.2.1 v_8.2.2.2.2.2.1 v_8.2.2.2.2.2.2.2.1 v_8.2.2.2.2.2.2.2.2 (iz (f : Int)) (iz (n : Int))) (fun v_14 => (some (iz (f : Int), v_8.1, v_8.2.1, v_8.2.2.1, v_8.2.2.2.1, v_7.1, v_7.2.1, v_7.2.2.1, v_7.2.2.2.1, v_7.2.2.2.2.1, iz ((nbd f : Nat) : Int), px b, py b, pz b, pe be, v_7.2.2.2.2.2.1, v_7.2.2.2.2.2.2.1, v_7.2.2.2.2.2.2.2.1, v_7.2.2.2.2.2.2.2.2.1, v_7.2.2.2.2.2.2.2.2.2.1, v_7.2.2.2.2.2.2.2.2.2.2.1, T1, T2, T3, v_7.2.2.2.2.2.2.2.2.2.2.2.1, v_7.2.2.2.2.2.2.2.2.2.2.2.2.1, v_7.2.2.2.2.2.2.2.2.2.2.2.2.2, v_14.1, v_14.2.1, v_8.2.2.2.2.1, v_10.1, v_12.1, v_14.2.2.1, v_14.2.2.2, v_8.2.2.2.2.2.1, v_8.2.2.2.2.2.2.1, v_8.2.2.2.2.2.2.2.1, v_8.2.2.2.2.2.2.2.2, v_10.2.1, v_10.2.2.1, v_10.2.2.2.1, v_10.2.2.2.2.1, v_10.2.2.2.2.2, v_12.2.1, v_12.2.2.1, v_12.2.2.2.1, v_12.2.2.2.2.1, v_12.2.2.2.2.2)))))))))))
  rw [px_at, py_at, pz_at, pe_at] at e5
  have hss : ss ≤ 80 := bound_f hk hrQ hfd ss s hSI.1 (fun i hi => ⟨_, hSI.2 i hi⟩)
  have hsb : ∀ i, i < ss → sm100 (s i) ∧ -2000000 ≤ e i ∧ e i ≤ 2000000 := fun i hi => by
    have h1 := hSI.2 i hi
    have h2 := bdv_100 (by decide) (hSd h1)
    obtain ⟨p', hp', ep'⟩ := (Sd_sup h1).2
    refine ⟨h2, ?_⟩
    rw [← ep']
    exact d3_bd h2 (hrQ p' hp')
  obtain ⟨cs, c, p2, e6, hcs, hcS, hcM⟩ := corners_i (ss := ss) (k := k) (f := f) (s := s) (q := q) (e := e) f3' hss (by omega) t3 hrq hsb
  have hcM' : ∀ v, Mm cs c v ↔ Cn (Mm k q) f N v := fun v => (hcM v).trans (Cn_tc f3' hSI hall v)
  have hcr : ∀ i, i < cs → rc3 (c i) := fun i hi => hrQ _ ((hcM (c i)).mp ⟨i, hi, rfl⟩).1
  have hcs1 : 1 ≤ cs := by
    obtain ⟨⟨v, hv, _⟩, _⟩ := ext_hi hk1 hrQ hfd hNb 0
    obtain ⟨i, hi, _⟩ := (hcM' v).mpr hv
    omega
  obtain ⟨L, G, e7, hLG⟩ := init0_i (cs := cs) (c := c) (by omega) hcs1 hcr (iz (f : Int)) (iz (n : Int))
  refine ⟨f, N, cs, c, ss, zp ss s, ze ss e, zp (nbd f) b, ze (nbd f) be, L, G, iz (f : Int), iz (cs : Int), px p2, py p2, pz p2, iz (ss : Int), px s, py s, pz s, pe e, iz ((nbd f : Nat) : Int), px b, py b, pz b, pe be, g1, g2, g3, g4, g5, g6, T1, T2, T3, g7, g8, g9, ?_, FD_hull hHQ hfd, hNb, hcS, fun v => (hcM' v).trans (Cn_hull hHQ hfd v), ⟨zp_SS hSI.1, fun i hi => ?_⟩, fun m e' hs => (zp_Mm ss s m).mpr (hall m e' ((Sd_hull hHQ f N m e').mpr hs)), ⟨q 0, hHQ.1 _ ⟨0, by omega, rfl⟩, fun i hi => ?_⟩, hLG, hcs1, by omega, hss⟩
  · refine e5.trans ?_
    dsimp only
    rw [e6, bd_some]
    dsimp only
    rw [trim1 s e hss (by omega), bd_some, trim1 b be nb3 (by omega), bd_some, e7, bd_some]
  · unfold zp ze
    rw [if_pos hi, if_pos hi]
    exact (Sd_hull hHQ f N _ _).mp (hSI.2 i hi)
  · unfold zp ze
    rw [if_pos hi, if_pos hi]
    exact hb i hi
