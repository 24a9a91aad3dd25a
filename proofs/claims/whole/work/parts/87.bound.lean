/-! how many sides there are at most -/
theorem pig2 : ∀ (k : Nat) (L : List Nat) (c : Nat → Nat), L.Nodup → (∀ i, i ∈ L → c i < k) → (∀ i j l, i ∈ L → j ∈ L → l ∈ L → i ≠ j → i ≠ l → j ≠ l → ¬ (c i = c j ∧ c j = c l)) → L.length ≤ 2 * k := by
  intro k
  induction k with
  | zero =>
    intro L c h1 h2 h3
    cases L with
    | nil => exact Nat.le_refl _
    | cons x L => exact absurd (h2 x (List.mem_cons_self ..)) (by omega)
  | succ k ih =>
    intro L c h1 h2 h3
    have hl : L.length = (L.filter (fun i => decide (c i = k))).length + (L.filter (fun i => ! decide (c i = k))).length := by
      rw [← List.countP_eq_length_filter, ← List.countP_eq_length_filter]
      have := List.length_eq_countP_add_countP (fun i => decide (c i = k)) (l := L)
      rw [this]
      congr 1
      apply List.countP_congr
      intro x _
      simp
    have h4 : (L.filter (fun i => ! decide (c i = k))).length ≤ 2 * k := by
      refine ih _ c (h1.filter _) (fun i hi => ?_) (fun i j l hi hj hl => h3 i j l (List.mem_filter.mp hi).1 (List.mem_filter.mp hj).1 (List.mem_filter.mp hl).1)
      obtain ⟨g1, g2⟩ := List.mem_filter.mp hi
      have := h2 i g1
      simp at g2
      omega
    have h5 : (L.filter (fun i => decide (c i = k))).length ≤ 2 := by
      have nd := h1.filter (fun i => decide (c i = k))
      have mem : ∀ i, i ∈ L.filter (fun i => decide (c i = k)) → i ∈ L ∧ c i = k := fun i hi => by
        obtain ⟨g1, g2⟩ := List.mem_filter.mp hi
        exact ⟨g1, by simpa using g2⟩
      generalize L.filter (fun i => decide (c i = k)) = M at *
      match M, nd, mem with
      | [], _, _ => exact Nat.zero_le _
      | [_], _, _ => exact Nat.le_succ _
      | [_, _], _, _ => exact Nat.le_refl _
      | x :: y :: z :: M, nd, mem =>
        exfalso
        obtain ⟨a1, a2⟩ := mem x (by simp)
        obtain ⟨b1, b2⟩ := mem y (by simp)
        obtain ⟨c1, c2⟩ := mem z (by simp)
        have nd1 := List.nodup_cons.mp nd
        have nd2 := List.nodup_cons.mp nd1.2
        refine h3 x y z a1 b1 c1 (fun h => nd1.1 (by rw [h]; simp)) (fun h => nd1.1 (by rw [h]; simp)) (fun h => nd2.1 (by rw [h]; simp)) ⟨by omega, by omega⟩
    omega
theorem pigSS {k m : Nat} {t : Nat → V3} (ht : SS m t) (R : V3 → Nat → Prop) (h1 : ∀ i, i < m → ∃ x, x < k ∧ R (t i) x) (h2 : ∀ a b c x, a ≠ b → a ≠ c → b ≠ c → R a x → R b x → R c x → False) : m ≤ 2 * k := by
  have h3 : ∀ i, ∃ x, i < m → (x < k ∧ R (t i) x) := fun i => by
    by_cases c : i < m
    · obtain ⟨x, hx⟩ := h1 i c
      exact ⟨x, fun _ => hx⟩
    · exact ⟨0, fun h => (c h).elim⟩
  obtain ⟨c, hc⟩ := Classical.axiomOfChoice h3
  have tne : ∀ i j, i < m → j < m → i ≠ j → t i ≠ t j := fun i j hi hj ne e => by
    rcases Nat.lt_or_gt_of_ne ne with c | c
    · have := ht i j c hj
      rw [e] at this
      exact lx_irr this
    · have := ht j i c hi
      rw [e] at this
      exact lx_irr this
  have := pig2 k (List.range m) c List.nodup_range (fun i hi => (hc i (List.mem_range.mp hi)).1) (fun i j l hi hj hl n1 n2 n3 ⟨e1, e2⟩ => by
    rw [List.mem_range] at hi hj hl
    obtain ⟨_, r1⟩ := hc i hi
    obtain ⟨_, r2⟩ := hc j hj
    obtain ⟨_, r3⟩ := hc l hl
    rw [e1] at r1
    rw [← e2] at r3
    exact h2 _ _ _ _ (tne i j hi hj n1) (tne i l hi hl n2) (tne j l hj hl n3) r1 r2 r3)
  rw [List.length_range] at this
  exact this
def gg (p : V3) : Int := 121 * p.1 + 11 * p.2.1 + p.2.2
theorem gg_inj {a b : V3} (ha : rc3 a) (hb : rc3 b) (h : gg a = gg b) : a = b := by
  obtain ⟨a1, a2, a3⟩ := ha
  obtain ⟨b1, b2, b3⟩ := hb
  unfold gg at h
  exact v3_ext (by omega) (by omega) (by omega)
def Mid (S : V3 → Prop) (n : V3) (m : V3) : Prop := prim n ∧ (∀ p, S p → d3 n p ≤ d3 n m) ∧ ∃ a b, S a ∧ S b ∧ d3 n a = d3 n m ∧ d3 n b = d3 n m ∧ gg a < gg m ∧ gg m < gg b ∧ ¬ row3 m a b
theorem mid_ex {S : V3 → Prop} (hr : ∀ p, S p → rc3 p) {n : V3} {e : Int} (h : Sd3 S n e) : ∃ m, S m ∧ Mid S n m := by
  obtain ⟨p1, u1, a, b, c, sa, sb, sc, ea, eb, ec, r⟩ := h
  obtain ⟨n1, n2, n3⟩ := row_ne r
  have g1 : gg a ≠ gg b := fun h => n1 (gg_inj (hr a sa) (hr b sb) h)
  have g2 : gg a ≠ gg c := fun h => n2 (gg_inj (hr a sa) (hr c sc) h)
  have g3 : gg b ≠ gg c := fun h => n3 (gg_inj (hr b sb) (hr c sc) h)
  have go : ∀ x m y, S x → S m → S y → d3 n x = e → d3 n m = e → d3 n y = e → gg x < gg m → gg m < gg y → ¬ row3 m x y → ∃ m, S m ∧ Mid S n m := fun x m y h1 h2 h3 k1 k2 k3 l1 l2 l3 => ⟨m, h2, p1, fun p hp => by rw [k2]; exact u1 p hp, x, y, h1, h3, by omega, by omega, l1, l2, l3⟩
  rcases Int.lt_or_lt_of_ne g1 with c1 | c1
  · rcases Int.lt_or_lt_of_ne g3 with c3 | c3
    · exact go a b c sa sb sc ea eb ec c1 c3 (row_s2 r)
    · rcases Int.lt_or_lt_of_ne g2 with c2 | c2
      · exact go a c b sa sc sb ea ec eb c2 c3 (row_s2 (row_s1 r))
      · exact go c a b sc sa sb ec ea eb c2 c1 (row_s1 r)
  · rcases Int.lt_or_lt_of_ne g2 with c2 | c2
    · exact go b a c sb sa sc eb ea ec c1 c2 r
    · rcases Int.lt_or_lt_of_ne g3 with c3 | c3
      · exact go b c a sb sc sa eb ec ea c3 c2 (row_s2 (row_s1 (row_s2 r)))
      · exact go c b a sc sb sa ec eb ea c3 c1 (row_s1 (row_s2 r))
def md (m a b : V3) : V3 := ((gg b - gg m) * (a.1 - m.1) + (gg m - gg a) * (b.1 - m.1), (gg b - gg m) * (a.2.1 - m.2.1) + (gg m - gg a) * (b.2.1 - m.2.1), (gg b - gg m) * (a.2.2 - m.2.2) + (gg m - gg a) * (b.2.2 - m.2.2))
theorem md_g (m a b : V3) : (md m a b).2.2 = -(121 * (md m a b).1) - 11 * (md m a b).2.1 := by
  unfold md gg
  grind
theorem md_d (n m a b : V3) : d3 n (md m a b) = (gg b - gg m) * (d3 n a - d3 n m) + (gg m - gg a) * (d3 n b - d3 n m) := by
  unfold md d3
  grind
theorem mid_lt {S : V3 → Prop} (hS : NF S) {n n' m a b : V3} (hn : prim n) (hu : ∀ p, S p → d3 n p ≤ d3 n m) (sa : S a) (sb : S b) (ea : d3 n a = d3 n m) (eb : d3 n b = d3 n m) (l1 : gg a < gg m) (l2 : gg m < gg b) (r : ¬ row3 m a b) (hn' : prim n') (hu' : ∀ p, S p → d3 n' p ≤ d3 n' m) (hne : n ≠ n') : d3 n (md m a b) = 0 ∧ d3 n' (md m a b) < 0 := by
  rw [md_d, md_d]
  constructor
  · rw [ea, eb]; grind
  · have h1 := hu' a sa
    have h2 := hu' b sb
    have q1 := Int.mul_nonneg (show 0 ≤ gg b - gg m by omega) (show 0 ≤ d3 n' m - d3 n' a by omega)
    have q2 := Int.mul_nonneg (show 0 ≤ gg m - gg a by omega) (show 0 ≤ d3 n' m - d3 n' b by omega)
    have e1 : (gg b - gg m) * (d3 n' m - d3 n' a) = - ((gg b - gg m) * (d3 n' a - d3 n' m)) := by grind
    have e2 : (gg m - gg a) * (d3 n' m - d3 n' b) = - ((gg m - gg a) * (d3 n' b - d3 n' m)) := by grind
    refine Classical.byContradiction fun hc => ?_
    have z1 : (gg b - gg m) * (d3 n' a - d3 n' m) = 0 := by omega
    have z2 : (gg m - gg a) * (d3 n' b - d3 n' m) = 0 := by omega
    have y1 := (Int.mul_eq_zero.mp z1).resolve_left (by omega)
    have y2 := (Int.mul_eq_zero.mp z2).resolve_left (by omega)
    have k1 : cr n (cr (sb3 a m) (sb3 b m)) = o3 := cr_cr (by rw [d3_sb]; omega) (by rw [d3_sb]; omega)
    have k2 : cr n' (cr (sb3 a m) (sb3 b m)) = o3 := cr_cr (by rw [d3_sb]; omega) (by rw [d3_sb]; omega)
    have k3 : cr (cr (sb3 a m) (sb3 b m)) n' = o3 := by
      have h := v3_iff.mp k2
      generalize cr (sb3 a m) (sb3 b m) = w at *
      unfold cr o3 at h ⊢
      dsimp only at h
      exact v3_ext (by dsimp only; grind) (by dsimp only; grind) (by dsimp only; grind)
    exact hne (sd_par hS hn hn' hu hu' rfl rfl (par_tr k1 k3 r)).symm
theorem mid3 {S : V3 → Prop} (hS : NF S) {n1 n2 n3 m : V3} (h12 : n1 ≠ n2) (h13 : n1 ≠ n3) (h23 : n2 ≠ n3) (m1 : Mid S n1 m) (m2 : Mid S n2 m) (m3 : Mid S n3 m) : False := by
  obtain ⟨p1, u1, a1, b1, sa1, sb1, ea1, eb1, la1, lb1, r1⟩ := m1
  obtain ⟨p2, u2, a2, b2, sa2, sb2, ea2, eb2, la2, lb2, r2⟩ := m2
  obtain ⟨p3, u3, a3, b3, sa3, sb3', ea3, eb3, la3, lb3, r3⟩ := m3
  obtain ⟨z11, l21⟩ := mid_lt hS p1 u1 sa1 sb1 ea1 eb1 la1 lb1 r1 p2 u2 h12
  obtain ⟨_, l31⟩ := mid_lt hS p1 u1 sa1 sb1 ea1 eb1 la1 lb1 r1 p3 u3 h13
  obtain ⟨z22, l12⟩ := mid_lt hS p2 u2 sa2 sb2 ea2 eb2 la2 lb2 r2 p1 u1 h12.symm
  obtain ⟨_, l32⟩ := mid_lt hS p2 u2 sa2 sb2 ea2 eb2 la2 lb2 r2 p3 u3 h23
  obtain ⟨z33, l13⟩ := mid_lt hS p3 u3 sa3 sb3' ea3 eb3 la3 lb3 r3 p1 u1 h13.symm
  obtain ⟨_, l23⟩ := mid_lt hS p3 u3 sa3 sb3' ea3 eb3 la3 lb3 r3 p2 u2 h23.symm
  have w1 := md_g m a1 b1
  have w2 := md_g m a2 b2
  have w3 := md_g m a3 b3
  generalize md m a1 b1 = x at *
  generalize md m a2 b2 = y at *
  generalize md m a3 b3 = z at *
  have id : ∀ n : V3, (x.1 * y.2.1 - y.1 * x.2.1) * d3 n z = (z.1 * y.2.1 - y.1 * z.2.1) * d3 n x + (x.1 * z.2.1 - z.1 * x.2.1) * d3 n y := fun n => by
    unfold d3
    rw [w1, w2, w3]
    grind
  have i1 := id n1
  have i2 := id n2
  have i3 := id n3
  rw [z11] at i1
  rw [z22] at i2
  rw [z33] at i3
  refine core3 (D := x.1 * y.2.1 - y.1 * x.2.1) (A := z.1 * y.2.1 - y.1 * z.2.1) (B := x.1 * z.2.1 - z.1 * x.2.1) (fun hD => ?_) (n12 := d3 n1 y) (n13 := d3 n1 z) (n21 := d3 n2 x) (n23 := d3 n2 z) (n31 := d3 n3 x) (n32 := d3 n3 y) (by omega) (by omega) (by omega) l12 l13 l21 l23 l31 l32
  have j1 : x.1 * d3 n1 y = y.1 * d3 n1 x := by
    unfold d3
    rw [w1, w2]
    grind
  have j2 : x.2.1 * d3 n1 y = y.2.1 * d3 n1 x := by
    unfold d3
    rw [w1, w2]
    grind
  rw [z11, Int.mul_zero] at j1 j2
  have x1 := (Int.mul_eq_zero.mp j1).resolve_right (by omega)
  have x2 := (Int.mul_eq_zero.mp j2).resolve_right (by omega)
  have x3 : x.2.2 = 0 := by rw [w1, x1, x2]; omega
  have : d3 n2 x = 0 := by unfold d3; rw [x1, x2, x3]; omega
  omega
theorem bound3 {k : Nat} {q : Nat → V3} (hr : ∀ p, Mm k q p → rc3 p) (hS : NF (Mm k q)) : ∀ m t', SS m t' → (∀ i, i < m → ∃ e, Sd3 (Mm k q) (t' i) e) → m ≤ 2 * k := by
  intro m t' ht h
  refine pigSS ht (fun n x => x < k ∧ Mid (Mm k q) n (q x)) (fun i hi => ?_) (fun a b c x h1 h2 h3 ⟨_, q1⟩ ⟨_, q2⟩ ⟨_, q3⟩ => mid3 hS h1 h2 h3 q1 q2 q3)
  obtain ⟨e, he⟩ := h i hi
  obtain ⟨p, ⟨x, hx, ex⟩, hp⟩ := mid_ex hr he
  exact ⟨x, hx, hx, by rw [ex]; exact hp⟩
/-- a flat body: no row holds all of it -/
def NF2 (S : V3 → Prop) (N : V3) : Prop := prim N ∧ (∀ p q, S p → S q → d3 N p = d3 N q) ∧ ∀ n e, prim n → d3 n N = 0 → (∀ p, S p → d3 n p = e) → False
theorem sd_par2 {S : V3 → Prop} {N : V3} (hS : NF2 S N) {n m : V3} {e e' : Int} {p : V3} (hn : prim n) (hnN : d3 n N = 0) (hm : prim m) (h1 : ∀ x, S x → d3 n x ≤ e) (h2 : ∀ x, S x → d3 m x ≤ e') (g1 : d3 n p = e) (g2 : d3 m p = e') (h : cr n m = o3) : m = n := by
  rcases par_prim hn hm h with c | c
  · exact c
  · exfalso
    refine hS.2.2 n e hn hnN (fun x hx => ?_)
    have a := h1 x hx
    have b := h2 x hx
    rw [c, d3_ng] at b g2
    omega
def On2 (S : V3 → Prop) (N : V3) (n : V3) (m : V3) : Prop := prim n ∧ d3 n N = 0 ∧ (∀ p, S p → d3 n p ≤ d3 n m) ∧ ∃ a, S a ∧ d3 n a = d3 n m ∧ a ≠ m
theorem on2_lt {S : V3 → Prop} {N : V3} (hS : NF2 S N) {n n' m a : V3} (sm : S m) (hn : prim n) (hN : d3 n N = 0) (hu : ∀ p, S p → d3 n p ≤ d3 n m) (sa : S a) (ea : d3 n a = d3 n m) (ne : a ≠ m) (hn' : prim n') (hN' : d3 n' N = 0) (hu' : ∀ p, S p → d3 n' p ≤ d3 n' m) (hne : n ≠ n') : d3 n (sb3 a m) = 0 ∧ d3 n' (sb3 a m) < 0 := by
  rw [d3_sb, d3_sb]
  refine ⟨by omega, ?_⟩
  have h1 := hu' a sa
  refine Classical.byContradiction fun hc => ?_
  have wne : cr (sb3 a m) N ≠ o3 := cr_ne (by rw [d3_sb, hS.2.1 a m sa sm]; omega) (fun h => ne (sb3_0.mp h)) (prim_0 hS.1)
  have k1 : cr n (cr (sb3 a m) N) = o3 := cr_cr (by rw [d3_sb]; omega) hN
  have k2 : cr n' (cr (sb3 a m) N) = o3 := cr_cr (by rw [d3_sb]; omega) hN'
  have k3 : cr (cr (sb3 a m) N) n' = o3 := by
    have h := v3_iff.mp k2
    generalize cr (sb3 a m) N = w at *
    unfold cr o3 at h ⊢
    dsimp only at h
    exact v3_ext (by dsimp only; grind) (by dsimp only; grind) (by dsimp only; grind)
  exact hne (sd_par2 hS hn hN hn' hu hu' rfl rfl (par_tr k1 k3 wne)).symm
theorem on3 {S : V3 → Prop} {N : V3} (hS : NF2 S N) {n1 n2 n3 m : V3} (sm : S m) (h12 : n1 ≠ n2) (h13 : n1 ≠ n3) (h23 : n2 ≠ n3) (m1 : On2 S N n1 m) (m2 : On2 S N n2 m) (m3 : On2 S N n3 m) : False := by
  obtain ⟨p1, N1, u1, a1, sa1, ea1, ne1⟩ := m1
  obtain ⟨p2, N2, u2, a2, sa2, ea2, ne2⟩ := m2
  obtain ⟨p3, N3, u3, a3, sa3, ea3, ne3⟩ := m3
  obtain ⟨z11, l21⟩ := on2_lt hS sm p1 N1 u1 sa1 ea1 ne1 p2 N2 u2 h12
  obtain ⟨_, l31⟩ := on2_lt hS sm p1 N1 u1 sa1 ea1 ne1 p3 N3 u3 h13
  obtain ⟨z22, l12⟩ := on2_lt hS sm p2 N2 u2 sa2 ea2 ne2 p1 N1 u1 h12.symm
  obtain ⟨_, l32⟩ := on2_lt hS sm p2 N2 u2 sa2 ea2 ne2 p3 N3 u3 h23
  obtain ⟨z33, l13⟩ := on2_lt hS sm p3 N3 u3 sa3 ea3 ne3 p1 N1 u1 h13.symm
  obtain ⟨_, l23⟩ := on2_lt hS sm p3 N3 u3 sa3 ea3 ne3 p2 N2 u2 h23.symm
  have i1 := four_id (sb3 a1 m) (sb3 a2 m) (sb3 a3 m) N n1
  have i2 := four_id (sb3 a1 m) (sb3 a2 m) (sb3 a3 m) N n2
  have i3 := four_id (sb3 a1 m) (sb3 a2 m) (sb3 a3 m) N n3
  have cc := cauchy (sb3 a1 m) (sb3 a2 m) n1 n2
  rw [z11, N1] at i1
  rw [z22, N2] at i2
  rw [z33, N3] at i3
  rw [z11, z22] at cc
  have pp := Int.mul_pos_of_neg_of_neg l21 l12
  refine core3 (D := d3 (cr (sb3 a1 m) (sb3 a2 m)) N) (A := d3 (cr (sb3 a3 m) (sb3 a2 m)) N) (B := d3 (cr (sb3 a1 m) (sb3 a3 m)) N) (fun hD => ?_) (n12 := d3 n1 (sb3 a2 m)) (n13 := d3 n1 (sb3 a3 m)) (n21 := d3 n2 (sb3 a1 m)) (n23 := d3 n2 (sb3 a3 m)) (n31 := d3 n3 (sb3 a1 m)) (n32 := d3 n3 (sb3 a2 m)) (by omega) (by omega) (by omega) l12 l13 l21 l23 l31 l32
  have wne : cr n1 n2 ≠ o3 := fun h => by
    rw [h] at cc
    have : d3 (cr (sb3 a1 m) (sb3 a2 m)) o3 = 0 := by unfold d3 o3; dsimp only; omega
    omega
  obtain ⟨c, c0, ec⟩ := par_of hS.1 wne (cr_cr (by rw [d3_comm]; exact N1) (by rw [d3_comm]; exact N2))
  rw [ec, d3_comm, d3_sm, d3_comm N, hD] at cc
  omega
theorem bound2 {k : Nat} {q : Nat → V3} {N : V3} (hS : NF2 (Mm k q) N) : ∀ m t', SS m t' → (∀ i, i < m → ∃ e, Sd2 (Mm k q) N (t' i) e) → m ≤ 2 * k := by
  intro m t' ht h
  refine pigSS ht (fun n x => x < k ∧ On2 (Mm k q) N n (q x)) (fun i hi => ?_) (fun a b c x h1 h2 h3 ⟨hx, q1⟩ ⟨_, q2⟩ ⟨_, q3⟩ => on3 hS ⟨x, hx, rfl⟩ h1 h2 h3 q1 q2 q3)
  obtain ⟨e, p1, p2, p3, a, b, ⟨x, hx, ex⟩, sb, ne, ea, eb⟩ := h i hi
  exact ⟨x, hx, hx, p1, p2, fun p hp => by rw [ex, ea]; exact p3 p hp, b, sb, by rw [ex, ea, eb], fun h => ne (by rw [← ex]; exact h.symm)⟩
theorem bound1 {S : V3 → Prop} {D : V3} : ∀ m t', SS m t' → (∀ i, i < m → ∃ e, Sd1 S D (t' i) e) → m ≤ 2 := by
  intro m t' ht h
  refine Classical.byContradiction fun hm => ?_
  obtain ⟨_, h0, _⟩ := h 0 (by omega)
  obtain ⟨_, h1, _⟩ := h 1 (by omega)
  obtain ⟨_, h2, _⟩ := h 2 (by omega)
  have a := ht 0 1 (by omega) (by omega)
  have b := ht 0 2 (by omega) (by omega)
  have c := ht 1 2 (by omega) (by omega)
  rcases h0 with e0 | e0 <;> rcases h1 with e1 | e1 <;> rcases h2 with e2 | e2 <;> rw [e0, e1] at a <;> rw [e0, e2] at b <;> rw [e1, e2] at c <;> first | exact lx_irr a | exact lx_irr b | exact lx_irr c
