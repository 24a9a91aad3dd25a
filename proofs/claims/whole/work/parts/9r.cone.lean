/-! the points of a swelling at every height, as vectors of V4 -/
def v3of (X : V4) : V3 := (X.1, X.2.1, X.2.2.1)
def sF (n : V3) (e : Int) : V4 := (-n.1, -n.2.1, -n.2.2, e)
theorem dt_sF (n : V3) (e : Int) (X : V4) : dt (sF n e) X = e * X.2.2.2 - d3 n (v3of X) := by unfold dt sF d3 v3of; grind
def CB (f : Nat) (N : V3) (ss : Nat) (s : Nat → V3) (e be : Nat → Int) (X : V3) (Q : Int) : Prop := (∀ i, i < nbd f → d3 (bnd f N i) X - be i * Q = 0) ∧ ∀ i, i < ss → d3 (s i) X - e i * Q ≤ 0
def CI (f : Nat) (N : V3) (ss : Nat) (s : Nat → V3) (e be : Nat → Int) (X : V3) (Q : Int) : Prop := (∀ i, i < nbd f → d3 (bnd f N i) X - be i * Q = 0) ∧ ∀ i, i < ss → d3 (s i) X - e i * Q < 0
theorem CI_CB {f : Nat} {N : V3} {ss : Nat} {s : Nat → V3} {e be : Nat → Int} {X : V3} {Q : Int} (h : CI f N ss s e be X Q) : CB f N ss s e be X Q := ⟨h.1, fun i hi => Int.le_of_lt (h.2 i hi)⟩
theorem lp_one (s : Nat → V3) (e : Nat → Int) (X : V3) (Q : Int) : ∀ (m i : Nat), lp s e X Q m i 1 ≤ 1 := by
  intro m
  induction m with
  | zero => intro i; exact Int.le_refl _
  | succ m ih =>
    intro i
    rw [lp]
    by_cases c : 0 < d3 (s i) X - e i * Q
    · rw [if_pos c]; omega
    · rw [if_neg c, ite_self]
      exact ih (i + 1)
theorem lp_two (s : Nat → V3) (e : Nat → Int) (X : V3) (Q : Int) : ∀ (m i : Nat), 2 ≤ lp s e X Q m i 2 ↔ ∀ j, i ≤ j → j < i + m → d3 (s j) X - e j * Q < 0 := by
  intro m
  induction m with
  | zero => intro i; exact ⟨fun _ j h1 h2 => by omega, fun _ => Int.le_refl _⟩
  | succ m ih =>
    intro i
    rw [lp]
    by_cases c : 0 < d3 (s i) X - e i * Q
    · rw [if_pos c]
      exact ⟨fun h => by omega, fun h => by have := h i (Nat.le_refl _) (by omega); omega⟩
    · rw [if_neg c]
      by_cases c2 : d3 (s i) X - e i * Q = 0
      · rw [if_pos c2]
        exact ⟨fun h => by have := lp_one s e X Q m (i + 1); omega, fun h => by have := h i (Nat.le_refl _) (by omega); omega⟩
      · rw [if_neg c2]
        refine (ih (i + 1)).trans ⟨fun h j h1 h2 => ?_, fun h j h1 h2 => h j (by omega) (by omega)⟩
        by_cases ej : j = i
        · rw [ej]; omega
        · exact h j (by omega) (by omega)
theorem wh_two (f : Nat) (N : V3) (ss : Nat) (s : Nat → V3) (e be : Nat → Int) (X : V3) (Q : Int) : 2 ≤ wh f N ss s e be X Q ↔ CI f N ss s e be X Q := by
  unfold wh CI
  by_cases c : ∀ i, i < nbd f → d3 (bnd f N i) X - be i * Q = 0
  · rw [if_pos c]
    exact (lp_two s e X Q ss 0).trans ⟨fun h => ⟨c, fun i hi => h i (by omega) (by omega)⟩, fun h j _ h2 => h.2 j (by omega)⟩
  · rw [if_neg c]
    exact ⟨fun h => by omega, fun h => (c h.1).elim⟩
theorem HC.one (Y : V4) : HC (fun X => X = Y) 1 := ⟨[Y], by simp, fun X => by simp, rfl⟩
theorem HC_z (P : Int → Int → Int → Bool) (x y z0 h : Int) (n : Nat) : HC (fun X => X.2.2.2 = h ∧ X.1 = x ∧ X.2.1 = y ∧ (z0 ≤ X.2.2.1 ∧ X.2.2.1 < z0 + n) ∧ P X.1 X.2.1 X.2.2.1 = true) (cz P x y z0 n) := by
  induction n with
  | zero => exact HC.none fun X hX => by omega
  | succ n ih =>
    rw [cz]
    by_cases c : P x y (z0 + n) = true
    · rw [if_pos c]
      refine (ih.sum (HC.one (x, y, z0 + n, h)) fun X hX e => ?_).iff fun X => ⟨?_, ?_⟩
      · rw [e] at hX; dsimp only at hX; omega
      · rintro (hX | e)
        · exact ⟨hX.1, hX.2.1, hX.2.2.1, by omega, hX.2.2.2.2⟩
        · rw [e]; exact ⟨rfl, rfl, rfl, by dsimp only; omega, c⟩
      · rintro ⟨h1, h2, h3, h4, h5⟩
        by_cases ez : X.2.2.1 = z0 + n
        · refine Or.inr ?_
          obtain ⟨a, b, c, d⟩ := X
          dsimp only at h1 h2 h3 ez
          rw [h1, h2, h3, ez]
        · exact Or.inl ⟨h1, h2, h3, by omega, h5⟩
    · rw [if_neg c, Nat.add_zero]
      refine ih.iff fun X => ⟨fun hX => ⟨hX.1, hX.2.1, hX.2.2.1, by omega, hX.2.2.2.2⟩, ?_⟩
      rintro ⟨h1, h2, h3, h4, h5⟩
      refine ⟨h1, h2, h3, ⟨h4.1, ?_⟩, h5⟩
      refine Classical.byContradiction fun hc => c ?_
      rw [h2, h3, show X.2.2.1 = z0 + n by omega] at h5
      exact h5
theorem HC_y (P : Int → Int → Int → Bool) (x y0 z0 h : Int) (Zn n : Nat) : HC (fun X => X.2.2.2 = h ∧ X.1 = x ∧ (y0 ≤ X.2.1 ∧ X.2.1 < y0 + n) ∧ (z0 ≤ X.2.2.1 ∧ X.2.2.1 < z0 + Zn) ∧ P X.1 X.2.1 X.2.2.1 = true) (cy P x y0 z0 Zn n) := by
  induction n with
  | zero => exact HC.none fun X hX => by omega
  | succ n ih =>
    rw [cy]
    refine (ih.sum (HC_z P x (y0 + n) z0 h Zn) fun X hX e => by omega).iff fun X => ⟨?_, ?_⟩
    · rintro (hX | hX)
      · exact ⟨hX.1, hX.2.1, by omega, hX.2.2.2.1, hX.2.2.2.2⟩
      · exact ⟨hX.1, hX.2.1, by omega, hX.2.2.2.1, hX.2.2.2.2⟩
    · rintro ⟨h1, h2, h3, h4, h5⟩
      by_cases ez : X.2.1 = y0 + n
      · exact Or.inr ⟨h1, h2, ez, h4, h5⟩
      · exact Or.inl ⟨h1, h2, by omega, h4, h5⟩
theorem HC_x (P : Int → Int → Int → Bool) (x0 y0 z0 h : Int) (Yn Zn n : Nat) : HC (fun X => X.2.2.2 = h ∧ (x0 ≤ X.1 ∧ X.1 < x0 + n) ∧ (y0 ≤ X.2.1 ∧ X.2.1 < y0 + Yn) ∧ (z0 ≤ X.2.2.1 ∧ X.2.2.1 < z0 + Zn) ∧ P X.1 X.2.1 X.2.2.1 = true) (cx P x0 y0 Yn z0 Zn n) := by
  induction n with
  | zero => exact HC.none fun X hX => by omega
  | succ n ih =>
    rw [cx]
    refine (ih.sum (HC_y P (x0 + n) y0 z0 h Zn Yn) fun X hX e => by omega).iff fun X => ⟨?_, ?_⟩
    · rintro (hX | hX)
      · exact ⟨hX.1, by omega, hX.2.2.1, hX.2.2.2.1, hX.2.2.2.2⟩
      · exact ⟨hX.1, by omega, hX.2.2.1, hX.2.2.2.1, hX.2.2.2.2⟩
    · rintro ⟨h1, h2, h3, h4, h5⟩
      by_cases ez : X.1 = x0 + n
      · exact Or.inr ⟨h1, ez, h3, h4, h5⟩
      · exact Or.inl ⟨h1, by omega, h3, h4, h5⟩
section
variable {f : Nat} {N : V3} {cs : Nat} {c : Nat → V3} {ss : Nat} {s : Nat → V3} {e : Nat → Int} {bd' : Nat → V3} {be L G : Nat → Int} {n : Nat} {p : Nat → V3}
theorem bond_all (hB : BodyP (Mm n p) f N cs c ss s e bd' be L G) {t : V3} (ht : Mm n p t) {i : Nat} (hi : i < nbd f) : d3 (bnd f N i) t = be i := by
  obtain ⟨h1, h2, h3, h4, h5, h6, ⟨p0, hp0, h7⟩, _⟩ := hB
  rw [(h7 i hi).2]
  rcases h1 with ⟨rfl, g⟩ | ⟨rfl, g1, g2, g3, _⟩ | ⟨rfl, g1, g2, g3, _⟩ | ⟨rfl, _⟩
  · rw [g p0 t hp0 ht]
  · have k := v3_iff.mp (g3 p0 t hp0 ht)
    unfold cr sb3 o3 at k
    dsimp only at k
    obtain ⟨k1, k2, k3⟩ := k
    rcases (show i = 0 ∨ i = 1 ∨ i = 2 by unfold nbd at hi; simp at hi; omega) with rfl | rfl | rfl
    · show d3 (0, N.2.2, -N.2.1) t = d3 (0, N.2.2, -N.2.1) p0
      unfold d3; dsimp only; grind
    · show d3 (-N.2.2, 0, N.1) t = d3 (-N.2.2, 0, N.1) p0
      unfold d3; dsimp only; grind
    · show d3 (N.2.1, -N.1, 0) t = d3 (N.2.1, -N.1, 0) p0
      unfold d3; dsimp only; grind
  · exact g3 t p0 ht hp0
  · unfold nbd at hi; simp at hi
theorem side_all (hB : BodyP (Mm n p) f N cs c ss s e bd' be L G) {t : V3} (ht : Mm n p t) {i : Nat} (hi : i < ss) : d3 (s i) t ≤ e i := (Sd_sup (hB.2.2.2.2.1.2 i hi)).1 t ht
theorem CB_in (hB : BodyP (Mm n p) f N cs c ss s e bd' be L G) {X : V3} {Q : Int} (h : ∀ i, i < nbd f → d3 (bnd f N i) X - be i * Q = 0) : InSp (Mm n p) f N X Q := by
  refine ⟨fun f0 t ht => ?_, fun f1 t ht => ?_, fun f2 t ht => ?_⟩
  · subst f0
    have b0 := bond_all hB ht (i := 0) (by decide)
    have b1 := bond_all hB ht (i := 1) (by decide)
    have b2 := bond_all hB ht (i := 2) (by decide)
    have a0 := h 0 (by decide)
    have a1 := h 1 (by decide)
    have a2 := h 2 (by decide)
    rw [← b0] at a0
    rw [← b1] at a1
    rw [← b2] at a2
    have u0 : ∀ v, d3 (bnd 0 N 0) v = v.1 := fun v => by show 1 * v.1 + 0 * v.2.1 + 0 * v.2.2 = v.1; omega
    have u1 : ∀ v, d3 (bnd 0 N 1) v = v.2.1 := fun v => by show 0 * v.1 + 1 * v.2.1 + 0 * v.2.2 = v.2.1; omega
    have u2 : ∀ v, d3 (bnd 0 N 2) v = v.2.2 := fun v => by show 0 * v.1 + 0 * v.2.1 + 1 * v.2.2 = v.2.2; omega
    rw [u0, u0] at a0
    rw [u1, u1] at a1
    rw [u2, u2] at a2
    exact v3_ext (by show X.1 - Q * t.1 = 0; rw [Int.mul_comm]; exact a0) (by show X.2.1 - Q * t.2.1 = 0; rw [Int.mul_comm]; exact a1) (by show X.2.2 - Q * t.2.2 = 0; rw [Int.mul_comm]; exact a2)
  · subst f1
    have b0 := bond_all hB ht (i := 0) (by decide)
    have b1 := bond_all hB ht (i := 1) (by decide)
    have b2 := bond_all hB ht (i := 2) (by decide)
    have a0 := h 0 (by decide)
    have a1 := h 1 (by decide)
    have a2 := h 2 (by decide)
    rw [← b0] at a0
    rw [← b1] at a1
    rw [← b2] at a2
    have u0 : ∀ v, d3 (bnd 1 N 0) v = 0 * v.1 + N.2.2 * v.2.1 + (- N.2.1) * v.2.2 := fun v => rfl
    have u1 : ∀ v, d3 (bnd 1 N 1) v = (- N.2.2) * v.1 + 0 * v.2.1 + N.1 * v.2.2 := fun v => rfl
    have u2 : ∀ v, d3 (bnd 1 N 2) v = N.2.1 * v.1 + (- N.1) * v.2.1 + 0 * v.2.2 := fun v => rfl
    rw [u0, u0] at a0
    rw [u1, u1] at a1
    rw [u2, u2] at a2
    unfold from3 cr
    exact v3_ext (by show _ = (0 : Int); dsimp only; grind) (by show _ = (0 : Int); dsimp only; grind) (by show _ = (0 : Int); dsimp only; grind)
  · subst f2
    have b0 := bond_all hB ht (i := 0) (by decide)
    have a0 := h 0 (by decide)
    rw [← b0] at a0
    rw [d3_from]
    have u0 : bnd 2 N 0 = N := rfl
    rw [u0, Int.mul_comm] at a0
    exact a0
theorem CB_up (hB : BodyP (Mm n p) f N cs c ss s e bd' be L G) {X : V3} {Q : Int} (h : CB f N ss s e be X Q) {t : V3} (ht : Mm n p t) {k : Int} (hk : 0 ≤ k) : CB f N ss s e be (pl t X k) (Q + k) := by
  refine ⟨fun i hi => ?_, fun i hi => ?_⟩
  · have := h.1 i hi
    have b := bond_all hB ht hi
    rw [d3_pl, b]
    grind
  · have := h.2 i hi
    have b := Int.mul_le_mul_of_nonneg_left (side_all hB ht hi) hk
    rw [d3_pl, Int.mul_add, Int.mul_comm (e i) k]
    omega
theorem wm_CB (hn : 1 ≤ n) (hB : BodyP (Mm n p) f N cs c ss s e bd' be L G) {X : V3} {Q : Int} (hQ : 0 < Q) (h : CB f N ss s e be X Q) {g : V3} {m : Int} (hh : ∀ t, Mm n p t → d3 g t ≤ m) : d3 g X ≤ Q * m := by
  refine wm hn hB.1 hQ (CB_in hB h.1) (fun n' e' hs => ?_) hh
  obtain ⟨i, hi, ei⟩ := hB.2.2.2.2.2.1 n' e' hs
  have g1 := hB.2.2.2.2.1.2 i hi
  rw [ei] at g1
  have := h.2 i hi
  rw [ei, Sd_e g1 hs, Int.mul_comm] at this
  omega
/-- at every height -/
theorem cone (hn : 1 ≤ n) (hB : BodyP (Mm n p) f N cs c ss s e bd' be L G) {X : V3} {Q : Int} (h : CB f N ss s e be X Q) {g : V3} {t : V3} (ht : Mm n p t) (hh : ∀ r, Mm n p r → d3 g r ≤ d3 g t) : d3 g X ≤ Q * d3 g t := by
  by_cases c0 : 0 < Q
  · exact wm_CB hn hB c0 h hh
  · have := wm_CB hn hB (Q := Q + (1 - Q)) (by omega) (CB_up hB h ht (k := 1 - Q) (by omega)) hh
    rw [d3_pl] at this
    grind
theorem cone_0 (hn : 1 ≤ n) (hB : BodyP (Mm n p) f N cs c ss s e bd' be L G) {X : V3} (h : CB f N ss s e be X 0) : X = o3 := by
  have k : ∀ g, d3 g X ≤ 0 := fun g => by
    obtain ⟨t, ht, hh⟩ := argmax (d3 g) n p hn
    have := cone hn hB h ht hh
    omega
  have k1 := k (1, 0, 0)
  have k2 := k (-1, 0, 0)
  have k3 := k (0, 1, 0)
  have k4 := k (0, -1, 0)
  have k5 := k (0, 0, 1)
  have k6 := k (0, 0, -1)
  unfold d3 at k1 k2 k3 k4 k5 k6
  dsimp only at k1 k2 k3 k4 k5 k6
  exact v3_ext (by show X.1 = 0; omega) (by show X.2.1 = 0; omega) (by show X.2.2 = 0; omega)
theorem cone_neg (hn : 1 ≤ n) (hB : BodyP (Mm n p) f N cs c ss s e bd' be L G) (hf : 1 ≤ f) {X : V3} {Q : Int} (hQ : Q < 0) : ¬ CB f N ss s e be X Q := by
  intro h
  have eq : ∀ g a b, Mm n p a → Mm n p b → d3 g a ≤ d3 g b := fun g a b ha hb => by
    obtain ⟨t, ht, hh⟩ := argmax (d3 g) n p hn
    obtain ⟨t', ht', hh'⟩ := argmax (d3 (ng3 g)) n p hn
    have k1 := cone hn hB h ht hh
    have k2 := cone hn hB h ht' hh'
    have a1 := hh a ha
    have b1 := hh' b hb
    rw [d3_ng, d3_ng] at b1
    rw [d3_ng, d3_ng] at k2
    refine Classical.byContradiction fun hc => ?_
    have m := Int.mul_pos_of_neg_of_neg hQ (show d3 g t' - d3 g t < 0 by omega)
    rw [Int.mul_sub] at m
    rw [Int.mul_neg] at k2
    omega
  have same : ∀ a b, Mm n p a → Mm n p b → a = b := fun a b ha hb => by
    have k1 := eq (1, 0, 0) a b ha hb
    have k2 := eq (1, 0, 0) b a hb ha
    have k3 := eq (0, 1, 0) a b ha hb
    have k4 := eq (0, 1, 0) b a hb ha
    have k5 := eq (0, 0, 1) a b ha hb
    have k6 := eq (0, 0, 1) b a hb ha
    unfold d3 at k1 k2 k3 k4 k5 k6
    dsimp only at k1 k2 k3 k4 k5 k6
    exact v3_ext (by omega) (by omega) (by omega)
  rcases hB.1 with ⟨g, _⟩ | ⟨_, _, _, _, a, b, ha, hb, ne⟩ | ⟨_, _, _, _, a, b, r, ha, hb, hr, ne⟩ | ⟨_, a, b, r, t, ha, hb, hr, ht, ne⟩
  · omega
  · exact ne (same a b ha hb)
  · refine ne ?_
    rw [same b a hb ha, same r a hr ha]
    unfold row3 cr sb3 o3
    simp
  · refine ne ?_
    rw [same b a hb ha, same r a hr ha, same t a ht ha]
    unfold cr sb3 d3
    simp
theorem LG_all (hn : 1 ≤ n) (hr : ∀ v, Mm n p v → rc3 v) (hB : BodyP (Mm n p) f N cs c ss s e bd' be L G) {w : Nat} (hw : w < 3) : (∃ t, Mm n p t ∧ co t w = G w ∧ ∀ r, Mm n p r → co r w ≤ G w) ∧ (∃ t, Mm n p t ∧ co t w = L w ∧ ∀ r, Mm n p r → L w ≤ co r w) := by
  obtain ⟨h1, h2, h3, h4, h5, h6, h7, h8, h9, h10, h11⟩ := hB
  obtain ⟨⟨a, ha, ma⟩, b, hb, mb⟩ := ext_hi hn hr h1 h2 w
  obtain ⟨⟨m1, i, hi, ei⟩, m2, j, hj, ej⟩ := h8 w hw
  obtain ⟨ia, hia, eia⟩ := (h4 a).mpr ha
  obtain ⟨ib, hib, eib⟩ := (h4 b).mpr hb
  have q1 := m2 ia hia
  have q2 := m1 ib hib
  have ci := ((h4 (c i)).mp ⟨i, hi, rfl⟩).1
  have cj := ((h4 (c j)).mp ⟨j, hj, rfl⟩).1
  have q3 := ma _ cj
  have q4 := mb _ ci
  rw [eia] at q1
  rw [eib] at q2
  exact ⟨⟨a, ha.1, by omega, fun r hr => by have := ma r hr; omega⟩, b, hb.1, by omega, fun r hr => by have := mb r hr; omega⟩
/-- what lies in the swelling lies in its box -/
theorem CB_box (hn : 1 ≤ n) (hr : ∀ v, Mm n p v → rc3 v) (hB : BodyP (Mm n p) f N cs c ss s e bd' be L G) {X : V3} {Q : Int} (hQ : 0 < Q) (h : CB f N ss s e be X Q) {w : Nat} (hw : w < 3) : bl L Q w ≤ co X w ∧ co X w < bl L Q w + bn L G Q w := by
  obtain ⟨⟨a, ha, ea, ma⟩, b, hb, eb, mb⟩ := LG_all hn hr hB hw
  have cod : ∃ g : V3, ∀ v, d3 g v = co v w := by
    rcases (show w = 0 ∨ w = 1 ∨ w = 2 by omega) with rfl | rfl | rfl
    · exact ⟨(1, 0, 0), fun v => by show 1 * v.1 + 0 * v.2.1 + 0 * v.2.2 = v.1; omega⟩
    · exact ⟨(0, 1, 0), fun v => by show 0 * v.1 + 1 * v.2.1 + 0 * v.2.2 = v.2.1; omega⟩
    · exact ⟨(0, 0, 1), fun v => by show 0 * v.1 + 0 * v.2.1 + 1 * v.2.2 = v.2.2; omega⟩
  obtain ⟨g, hg⟩ := cod
  have k1 := wm_CB hn hB hQ h (g := g) (m := G w) (fun t ht => by rw [hg]; exact ma t ht)
  have k2 := wm_CB hn hB hQ h (g := ng3 g) (m := - L w) (fun t ht => by rw [d3_ng, hg]; have := mb t ht; omega)
  rw [hg] at k1
  rw [d3_ng, hg, Int.mul_neg] at k2
  unfold bl bn
  rw [Int.mul_comm (L w) Q, Int.mul_comm (G w) Q]
  omega
theorem HC_CB (hn : 1 ≤ n) (hr : ∀ v, Mm n p v → rc3 v) (hB : BodyP (Mm n p) f N cs c ss s e bd' be L G) {Q : Int} (hQ : 0 < Q) : HC (fun X => X.2.2.2 = Q ∧ CB f N ss s e be (v3of X) Q) (cx (pB f N ss s e be Q) (bl L Q 0) (bl L Q 1) (bn L G Q 1) (bl L Q 2) (bn L G Q 2) (bn L G Q 0)) := by
  refine (HC_x (pB f N ss s e be Q) (bl L Q 0) (bl L Q 1) (bl L Q 2) Q (bn L G Q 1) (bn L G Q 2) (bn L G Q 0)).iff fun X => ⟨?_, ?_⟩
  · rintro ⟨h1, _, _, _, h5⟩
    unfold pB at h5
    rw [decide_eq_true_iff] at h5
    exact ⟨h1, (wh_ne f N ss s e be (v3of X) Q).mp h5⟩
  · rintro ⟨h1, h2⟩
    refine ⟨h1, CB_box hn hr hB hQ h2 (w := 0) (by omega), CB_box hn hr hB hQ h2 (w := 1) (by omega), CB_box hn hr hB hQ h2 (w := 2) (by omega), ?_⟩
    unfold pB
    rw [decide_eq_true_iff]
    exact (wh_ne f N ss s e be (v3of X) Q).mpr h2
theorem HC_CI (hn : 1 ≤ n) (hr : ∀ v, Mm n p v → rc3 v) (hB : BodyP (Mm n p) f N cs c ss s e bd' be L G) {Q : Int} (hQ : 0 < Q) : HC (fun X => X.2.2.2 = Q ∧ CI f N ss s e be (v3of X) Q) (cx (pS f N ss s e be Q 2) (bl L Q 0) (bl L Q 1) (bn L G Q 1) (bl L Q 2) (bn L G Q 2) (bn L G Q 0)) := by
  refine (HC_x (pS f N ss s e be Q 2) (bl L Q 0) (bl L Q 1) (bl L Q 2) Q (bn L G Q 1) (bn L G Q 2) (bn L G Q 0)).iff fun X => ⟨?_, ?_⟩
  · rintro ⟨h1, _, _, _, h5⟩
    unfold pS at h5
    rw [decide_eq_true_iff] at h5
    exact ⟨h1, (wh_two f N ss s e be (v3of X) Q).mp h5⟩
  · rintro ⟨h1, h2⟩
    have h2' := CI_CB h2
    refine ⟨h1, CB_box hn hr hB hQ h2' (w := 0) (by omega), CB_box hn hr hB hQ h2' (w := 1) (by omega), CB_box hn hr hB hQ h2' (w := 2) (by omega), ?_⟩
    unfold pS
    rw [decide_eq_true_iff]
    exact (wh_two f N ss s e be (v3of X) Q).mpr h2
/-- how many points lie in the swelling, and within it, at every height -/
def Kc (f : Nat) (N : V3) (ss : Nat) (s : Nat → V3) (e be L G : Nat → Int) (Q : Int) : Nat := if Q < 0 then 0 else if Q = 0 then 1 else cx (pB f N ss s e be Q) (bl L Q 0) (bl L Q 1) (bn L G Q 1) (bl L Q 2) (bn L G Q 2) (bn L G Q 0)
def Ki (f : Nat) (N : V3) (ss : Nat) (s : Nat → V3) (e be L G : Nat → Int) (Q : Int) : Nat := if Q ≤ 0 then 0 else cx (pS f N ss s e be Q 2) (bl L Q 0) (bl L Q 1) (bn L G Q 1) (bl L Q 2) (bn L G Q 2) (bn L G Q 0)
theorem HC_Kc (hn : 1 ≤ n) (hr : ∀ v, Mm n p v → rc3 v) (hB : BodyP (Mm n p) f N cs c ss s e bd' be L G) (hf : 1 ≤ f) (Q : Int) : HC (fun X => X.2.2.2 = Q ∧ CB f N ss s e be (v3of X) Q) (Kc f N ss s e be L G Q) := by
  unfold Kc
  by_cases c1 : Q < 0
  · rw [if_pos c1]
    exact HC.none fun X hX => cone_neg hn hB hf c1 hX.2
  · rw [if_neg c1]
    by_cases c2 : Q = 0
    · rw [if_pos c2]
      subst c2
      refine (HC.one (0, 0, 0, 0)).iff fun X => ⟨fun eX => ?_, fun hX => ?_⟩
      · rw [eX]
        have z : ∀ g : V3, d3 g (v3of (0, 0, 0, 0)) = 0 := fun g => by show g.1 * 0 + g.2.1 * 0 + g.2.2 * 0 = 0; omega
        exact ⟨rfl, fun i _ => by rw [z]; omega, fun i _ => by rw [z]; omega⟩
      · have := v3_iff.mp (cone_0 hn hB hX.2)
        obtain ⟨a, b, c, d⟩ := X
        obtain ⟨e1, e2, e3⟩ := this
        have e4 := hX.1
        change a = 0 at e1
        change b = 0 at e2
        change c = 0 at e3
        change d = 0 at e4
        rw [e1, e2, e3, e4]
    · rw [if_neg c2]
      exact HC_CB hn hr hB (by omega)
theorem HC_Ki (hn : 1 ≤ n) (hr : ∀ v, Mm n p v → rc3 v) (hB : BodyP (Mm n p) f N cs c ss s e bd' be L G) (hf : 1 ≤ f) (hs : 1 ≤ ss) (Q : Int) : HC (fun X => X.2.2.2 = Q ∧ CI f N ss s e be (v3of X) Q) (Ki f N ss s e be L G Q) := by
  unfold Ki
  by_cases c1 : Q ≤ 0
  · rw [if_pos c1]
    refine HC.none fun X hX => ?_
    by_cases c2 : Q = 0
    · subst c2
      have e0 := cone_0 hn hB (CI_CB hX.2)
      have := hX.2.2 0 (by omega)
      rw [e0] at this
      have z : d3 (s 0) o3 = 0 := by show (s 0).1 * 0 + (s 0).2.1 * 0 + (s 0).2.2 * 0 = 0; omega
      omega
    · exact cone_neg hn hB hf (by omega) (CI_CB hX.2)
  · rw [if_neg c1]
    exact HC_CI hn hr hB (by omega)
end
