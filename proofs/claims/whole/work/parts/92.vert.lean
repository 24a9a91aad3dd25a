/-! corners at the ends of each direction -/
theorem bd_of_mul {B c : Int} {v n : V3} (hc : c ≠ 0) (e : v = sm3 c n) (h : bdv B v) : bdv B n := by
  have e := v3_iff.mp e
  unfold sm3 at e
  dsimp only at e
  have key : ∀ x y : Int, -B ≤ y ∧ y ≤ B → y = c * x → -B ≤ x ∧ x ≤ B := by
    intro x y hy e
    have h1 : x.natAbs ≤ y.natAbs := by
      rw [e, Int.natAbs_mul]
      exact Nat.le_mul_of_pos_left _ (by omega)
    omega
  exact ⟨key _ _ h.1 e.1, key _ _ h.2.1 e.2.1, key _ _ h.2.2 e.2.2⟩
theorem sd_bd {S : V3 → Prop} {f : Nat} {N n : V3} {e : Int} (hr : ∀ p, S p → rc3 p) (hf : FD S f N) (hN : bdv 200 N) (h : Sd S f N n e) : bdv 4000 n := by
  rcases h with ⟨_, c, _⟩ | ⟨f2, pn, nN, _, a, b, sa, sb, ne, ea, eb⟩ | ⟨_, pn, _, a, b, c, sa, sb, sc, ea, eb, ec, r⟩
  · obtain ⟨h1, h2, h3⟩ := hN
    rcases c with c | c
    · rw [c]; exact ⟨by omega, by omega, by omega⟩
    · rw [c]; unfold ng3; exact ⟨by dsimp only; omega, by dsimp only; omega, by dsimp only; omega⟩
  · rcases hf with ⟨g, _⟩ | ⟨g, _⟩ | ⟨_, g1, g2, g3, _⟩ | ⟨g, _⟩
    · omega
    · omega
    · have wne : cr (sb3 b a) N ≠ o3 := cr_ne (by rw [d3_sb, g3 b a sb sa]; omega) (fun h => ne (sb3_0.mp h).symm) (prim_0 g1)
      obtain ⟨k, k0, ek⟩ := par_of pn wne (cr_cr (by rw [d3_sb]; omega) nN)
      exact bd_of_mul k0 ek (cr_bd (A := 10) (B := 200) (sb_bd (hr b sb) (hr a sa)) hN)
    · omega
  · obtain ⟨k, k0, ek⟩ := par_of pn r (cr_cr (by rw [d3_sb]; omega) (by rw [d3_sb]; omega))
    obtain ⟨h1, h2, h3⟩ := bd_of_mul k0 ek (cr_bd (A := 10) (B := 10) (sb_bd (hr b sb) (hr a sa)) (sb_bd (hr c sc) (hr a sa)))
    exact ⟨by omega, by omega, by omega⟩
theorem perp2 (a b : V3) : ∃ w : V3, w ≠ o3 ∧ d3 a w = 0 ∧ d3 b w = 0 := by
  by_cases c : cr a b = o3
  · by_cases ca : a = o3
    · by_cases cb : b = o3
      · exact ⟨(1, 0, 0), (by unfold o3; decide), (by rw [ca]; unfold d3 o3; dsimp only; omega), (by rw [cb]; unfold d3 o3; dsimp only; omega)⟩
      · obtain ⟨m, m1, m2⟩ := perp1 cb
        exact ⟨m, m1, (by rw [ca]; unfold d3 o3; dsimp only; omega), (by rw [d3_comm]; exact m2)⟩
    · obtain ⟨m, m1, m2⟩ := perp1 ca
      refine ⟨m, m1, by rw [d3_comm]; exact m2, ?_⟩
      have e := v3_iff.mp c
      unfold cr o3 at e
      dsimp only at e
      obtain ⟨e1, e2, e3⟩ := e
      have key : ∀ x y : Int, x ≠ 0 → x * d3 b m = y * d3 m a → d3 b m = 0 := fun x y hx hxy => by
        rw [m2, Int.mul_zero] at hxy
        exact (Int.mul_eq_zero.mp hxy).resolve_left hx
      by_cases c1 : a.1 = 0
      · by_cases c2 : a.2.1 = 0
        · have c3 : a.2.2 ≠ 0 := fun c3 => ca (v3_ext c1 c2 c3)
          exact key _ b.2.2 c3 (by unfold d3; grind)
        · exact key _ b.2.1 c2 (by unfold d3; grind)
      · exact key _ b.1 c1 (by unfold d3; grind)
  · exact ⟨cr a b, c, by rw [d3_comm]; exact d3_cr1 a b, by rw [d3_comm]; exact d3_cr2 a b⟩
def pl (p w : V3) (Q : Int) : V3 := (Q * p.1 + w.1, Q * p.2.1 + w.2.1, Q * p.2.2 + w.2.2)
theorem d3_pl (n p w : V3) (Q : Int) : d3 n (pl p w Q) = Q * d3 n p + d3 n w := by unfold d3 pl; grind
theorem from_pl (p w t : V3) (Q : Int) : from3 (pl p w Q) Q t = pl (sb3 p t) w Q := by
  unfold from3 pl sb3
  exact v3_ext (by dsimp only; grind) (by dsimp only; grind) (by dsimp only; grind)
theorem cr_pl {N p w : V3} (Q : Int) (h1 : cr N p = o3) (h2 : cr N w = o3) : cr N (pl p w Q) = o3 := by
  have h1 := v3_iff.mp h1
  have h2 := v3_iff.mp h2
  unfold cr o3 at h1 h2
  unfold cr pl o3
  dsimp only at h1 h2
  exact v3_ext (by dsimp only; grind) (by dsimp only; grind) (by dsimp only; grind)
theorem vert_w {k : Nat} {q : Nat → V3} {f : Nat} {N : V3} (hk : 1 ≤ k) (hr : ∀ p, Mm k q p → rc3 p) (hf : FD (Mm k q) f N) (hN : bdv 200 N) {p w : V3} (hp : Mm k q p) (f0 : f ≠ 0) (hw1 : f = 1 → cr N w = o3) (hw2 : f = 2 → d3 N w = 0) (hws : ∀ n e, Sd (Mm k q) f N n e → d3 n p = e → d3 n w = 0) {h : V3} (hh : ∀ t, Mm k q t → d3 h t ≤ d3 h p) : d3 h w ≤ 0 := by
  have sp : ∀ t, Mm k q t → f = 1 → cr N (sb3 p t) = o3 := fun t ht h1 => by
    rcases hf with ⟨g, _⟩ | ⟨_, g1, g2, g3, _⟩ | ⟨g, _⟩ | ⟨g, _⟩
    · omega
    · exact g3 t p ht hp
    · omega
    · omega
  have sp2 : ∀ t, Mm k q t → f = 2 → d3 N (sb3 p t) = 0 := fun t ht h1 => by
    rcases hf with ⟨g, _⟩ | ⟨g, _⟩ | ⟨_, g1, g2, g3, _⟩ | ⟨g, _⟩
    · omega
    · omega
    · rw [d3_sb, g3 p t hp ht]; omega
    · omega
  let Q : Int := 1 + 4000 * (w.1.natAbs + w.2.1.natAbs + w.2.2.natAbs)
  have hQ : 0 < Q := by show 0 < 1 + 4000 * ((w.1.natAbs : Int) + w.2.1.natAbs + w.2.2.natAbs); omega
  have key := wm (X := pl p w Q) (Q := Q) (h := h) (c := d3 h p) hk hf hQ ⟨fun h => (f0 h).elim, fun h1 t ht => by rw [from_pl]; exact cr_pl Q (sp t ht h1) (hw1 h1), fun h2 t ht => by rw [from_pl, d3_pl, sp2 t ht h2, hw2 h2]; omega⟩ (fun n e hs => by
    rw [d3_pl]
    by_cases c : d3 n p = e
    · rw [hws n e hs c, c]; omega
    · have h1 := (Sd_sup hs).1 p hp
      have h2 := Int.mul_le_mul_of_nonneg_left (show d3 n p ≤ e - 1 by omega) (Int.le_of_lt hQ)
      have e2 : Q * (e - 1) = Q * e - Q := by grind
      obtain ⟨⟨b1, b2⟩, ⟨b3, b4⟩, b5, b6⟩ := sd_bd hr hf hN hs
      have m1 := mbd (a := n.1) (b := w.1) 4000 w.1.natAbs b1 b2 (by omega) (by omega)
      have m2 := mbd (a := n.2.1) (b := w.2.1) 4000 w.2.1.natAbs b3 b4 (by omega) (by omega)
      have m3 := mbd (a := n.2.2) (b := w.2.2) 4000 w.2.2.natAbs b5 b6 (by omega) (by omega)
      have hd : d3 n w ≤ 4000 * ((w.1.natAbs : Int) + w.2.1.natAbs + w.2.2.natAbs) := by unfold d3; omega
      have hQ2 : Q = 1 + 4000 * ((w.1.natAbs : Int) + w.2.1.natAbs + w.2.2.natAbs) := rfl
      omega) hh
  rw [d3_pl] at key
  omega
theorem d3_nr (n w : V3) : d3 n (ng3 w) = - d3 n w := by rw [d3_comm, d3_ng, d3_comm]
theorem vert {k : Nat} {q : Nat → V3} {f : Nat} {N : V3} (hk : 1 ≤ k) (hr : ∀ p, Mm k q p → rc3 p) (hf : FD (Mm k q) f N) (hN : bdv 200 N) {p : V3} (hp : Mm k q p) {h1 h2 h3 : V3} (hi : ∀ w, d3 h1 w = 0 → d3 h2 w = 0 → d3 h3 w = 0 → w = o3) (m1 : ∀ t, Mm k q t → d3 h1 t ≤ d3 h1 p) (m2 : ∀ t, Mm k q t → d3 h2 t ≤ d3 h2 p) (m3 : ∀ t, Mm k q t → d3 h3 t ≤ d3 h3 p) : Cn (Mm k q) f N p := by
  refine Classical.byContradiction fun hc => ?_
  have go : ∀ w, w ≠ o3 → f ≠ 0 → (f = 1 → cr N w = o3) → (f = 2 → d3 N w = 0) → (∀ n e, Sd (Mm k q) f N n e → d3 n p = e → d3 n w = 0) → False := by
    intro w wne f0 hw1 hw2 hws
    have z : ∀ h, (∀ t, Mm k q t → d3 h t ≤ d3 h p) → d3 h w = 0 := fun h hh => by
      have a := vert_w hk hr hf hN hp f0 hw1 hw2 hws hh
      have b := vert_w (w := ng3 w) hk hr hf hN hp f0 (fun h1 => by
        have e := v3_iff.mp (hw1 h1)
        unfold cr o3 at e
        unfold cr ng3 o3
        dsimp only at e
        exact v3_ext (by dsimp only; grind) (by dsimp only; grind) (by dsimp only; grind)) (fun h2 => by rw [d3_nr, hw2 h2]; omega) (fun n e hs hn => by rw [d3_nr, hws n e hs hn]; omega) hh
      rw [d3_nr] at b
      omega
    exact wne (hi w (z h1 m1) (z h2 m2) (z h3 m3))
  have hf' := hf
  rcases hf with ⟨rfl, _⟩ | ⟨rfl, g1, _⟩ | ⟨rfl, _⟩ | ⟨rfl, _⟩
  · exact hc ⟨hp, Or.inl rfl⟩
  · refine go N (prim_0 g1) (by omega) (fun _ => by unfold cr o3; exact v3_ext (by dsimp only; grind) (by dsimp only; grind) (by dsimp only; grind)) (fun h => by omega) (fun n e hs hn => (hc ⟨hp, Or.inr (Or.inl ⟨rfl, n, e, hs, hn⟩)⟩).elim)
  · have one : ∃ n1 : V3, ∀ n e, Sd (Mm k q) 2 N n e → d3 n p = e → n = n1 := by
      by_cases c : ∃ n e, Sd (Mm k q) 2 N n e ∧ d3 n p = e
      · obtain ⟨n1, e1, s1, o1⟩ := c
        exact ⟨n1, fun n e hs hn => Classical.byContradiction fun ne => hc ⟨hp, Or.inr (Or.inr (Or.inl ⟨rfl, n, e, n1, e1, ne, hs, s1, hn, o1⟩))⟩⟩
      · exact ⟨o3, fun n e hs hn => (c ⟨n, e, hs, hn⟩).elim⟩
    obtain ⟨n1, hn1⟩ := one
    obtain ⟨w, w0, w1, w2⟩ := perp2 N n1
    exact go w w0 (by omega) (fun h => by omega) (fun _ => w1) (fun n e hs hn => by rw [hn1 n e hs hn]; exact w2)
  · have two : ∃ n1 n2 : V3, ∀ n e, Sd (Mm k q) 3 N n e → d3 n p = e → n = n1 ∨ n = n2 := by
      by_cases c : ∃ n e n' e', n ≠ n' ∧ Sd (Mm k q) 3 N n e ∧ Sd (Mm k q) 3 N n' e' ∧ d3 n p = e ∧ d3 n' p = e'
      · obtain ⟨n1, e1, n2, e2, ne, s1, s2, o1, o2⟩ := c
        refine ⟨n1, n2, fun n e hs hn => Classical.byContradiction fun hh => hc ⟨hp, Or.inr (Or.inr (Or.inr ⟨rfl, n1, e1, n2, e2, n, e, ne, fun h => hh (Or.inl h.symm), fun h => hh (Or.inr h.symm), s1, s2, hs, o1, o2, hn⟩))⟩⟩
      · by_cases c2 : ∃ n e, Sd (Mm k q) 3 N n e ∧ d3 n p = e
        · obtain ⟨n1, e1, s1, o1⟩ := c2
          exact ⟨n1, n1, fun n e hs hn => Or.inl (Classical.byContradiction fun ne => c ⟨n, e, n1, e1, ne, hs, s1, hn, o1⟩)⟩
        · exact ⟨o3, o3, fun n e hs hn => (c2 ⟨n, e, hs, hn⟩).elim⟩
    obtain ⟨n1, n2, hn⟩ := two
    obtain ⟨w, w0, w1, w2⟩ := perp2 n1 n2
    exact go w w0 (by omega) (fun h => by omega) (fun h => by omega) (fun n e hs ho => by
      rcases hn n e hs ho with c | c
      · rw [c]; exact w1
      · rw [c]; exact w2)
def co (v : V3) (w : Nat) : Int := if w = 0 then v.1 else if w = 1 then v.2.1 else v.2.2
theorem ext_hi {k : Nat} {q : Nat → V3} {f : Nat} {N : V3} (hk : 1 ≤ k) (hr : ∀ p, Mm k q p → rc3 p) (hf : FD (Mm k q) f N) (hN : bdv 200 N) (w : Nat) : (∃ p, Cn (Mm k q) f N p ∧ ∀ t, Mm k q t → co t w ≤ co p w) ∧ (∃ p, Cn (Mm k q) f N p ∧ ∀ t, Mm k q t → co p w ≤ co t w) := by
  have gen : ∀ h1 h2 h3 : V3, (∀ w, d3 h1 w = 0 → d3 h2 w = 0 → d3 h3 w = 0 → w = o3) → (∀ p t, rc3 p → rc3 t → d3 h3 t ≤ d3 h3 p → d3 h1 t ≤ d3 h1 p ∧ d3 h2 t ≤ d3 h2 p) → ∃ p, Cn (Mm k q) f N p ∧ ∀ t, Mm k q t → d3 h1 t ≤ d3 h1 p := by
    intro h1 h2 h3 hi hl
    obtain ⟨p, mp, hp⟩ := argmax (d3 h3) k q hk
    refine ⟨p, vert hk hr hf hN mp hi (fun t ht => (hl p t (hr p mp) (hr t ht) (hp t ht)).1) (fun t ht => (hl p t (hr p mp) (hr t ht) (hp t ht)).2) hp, fun t ht => (hl p t (hr p mp) (hr t ht) (hp t ht)).1⟩
  have fin : ∀ h1 h2 h3 : V3, (∀ w, d3 h1 w = 0 → d3 h2 w = 0 → d3 h3 w = 0 → w.1 = 0 ∧ w.2.1 = 0 ∧ w.2.2 = 0) → (∀ p t, rc3 p → rc3 t → d3 h3 t ≤ d3 h3 p → d3 h1 t ≤ d3 h1 p ∧ d3 h2 t ≤ d3 h2 p) → ∃ p, Cn (Mm k q) f N p ∧ ∀ t, Mm k q t → d3 h1 t ≤ d3 h1 p := fun h1 h2 h3 hi hl => gen h1 h2 h3 (fun w a b c => by obtain ⟨x, y, z⟩ := hi w a b c; exact v3_ext x y z) hl
  rcases (show w = 0 ∨ w = 1 ∨ (w ≠ 0 ∧ w ≠ 1) by omega) with rfl | rfl | ⟨w0, w1⟩
  · constructor
    · obtain ⟨p, h1, h2⟩ := fin (1, 0, 0) (11, 1, 0) (121, 11, 1) (fun w a b c => by unfold d3 at a b c; dsimp only at a b c; omega) (fun p t ⟨p1, p2, p3⟩ ⟨t1, t2, t3⟩ h => by unfold d3 at h ⊢; dsimp only at h ⊢; omega)
      exact ⟨p, h1, fun t ht => by have := h2 t ht; unfold d3 at this; dsimp only at this; show t.1 ≤ p.1; omega⟩
    · obtain ⟨p, h1, h2⟩ := fin (-1, 0, 0) (-11, 1, 0) (-121, 11, 1) (fun w a b c => by unfold d3 at a b c; dsimp only at a b c; omega) (fun p t ⟨p1, p2, p3⟩ ⟨t1, t2, t3⟩ h => by unfold d3 at h ⊢; dsimp only at h ⊢; omega)
      exact ⟨p, h1, fun t ht => by have := h2 t ht; unfold d3 at this; dsimp only at this; show p.1 ≤ t.1; omega⟩
  · constructor
    · obtain ⟨p, h1, h2⟩ := fin (0, 1, 0) (1, 11, 0) (11, 121, 1) (fun w a b c => by unfold d3 at a b c; dsimp only at a b c; omega) (fun p t ⟨p1, p2, p3⟩ ⟨t1, t2, t3⟩ h => by unfold d3 at h ⊢; dsimp only at h ⊢; omega)
      exact ⟨p, h1, fun t ht => by have := h2 t ht; unfold d3 at this; dsimp only at this; show t.2.1 ≤ p.2.1; omega⟩
    · obtain ⟨p, h1, h2⟩ := fin (0, -1, 0) (1, -11, 0) (11, -121, 1) (fun w a b c => by unfold d3 at a b c; dsimp only at a b c; omega) (fun p t ⟨p1, p2, p3⟩ ⟨t1, t2, t3⟩ h => by unfold d3 at h ⊢; dsimp only at h ⊢; omega)
      exact ⟨p, h1, fun t ht => by have := h2 t ht; unfold d3 at this; dsimp only at this; show p.2.1 ≤ t.2.1; omega⟩
  · have ec : ∀ v : V3, co v w = v.2.2 := fun v => by unfold co; rw [if_neg w0, if_neg w1]
    simp only [ec]
    constructor
    · obtain ⟨p, h1, h2⟩ := fin (0, 0, 1) (1, 0, 11) (11, 1, 121) (fun w a b c => by unfold d3 at a b c; dsimp only at a b c; omega) (fun p t ⟨p1, p2, p3⟩ ⟨t1, t2, t3⟩ h => by unfold d3 at h ⊢; dsimp only at h ⊢; omega)
      exact ⟨p, h1, fun t ht => by have := h2 t ht; unfold d3 at this; dsimp only at this; omega⟩
    · obtain ⟨p, h1, h2⟩ := fin (0, 0, -1) (1, 0, -11) (11, 1, -121) (fun w a b c => by unfold d3 at a b c; dsimp only at a b c; omega) (fun p t ⟨p1, p2, p3⟩ ⟨t1, t2, t3⟩ h => by unfold d3 at h ⊢; dsimp only at h ⊢; omega)
      exact ⟨p, h1, fun t ht => by have := h2 t ht; unfold d3 at this; dsimp only at this; omega⟩
