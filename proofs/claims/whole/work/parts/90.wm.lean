/-! what all sides hold lies between the points (Weyl, Minkowski) -/
theorem argmax (h : V3 → Int) : ∀ (k : Nat) (q : Nat → V3), 1 ≤ k → ∃ t, Mm k q t ∧ ∀ p, Mm k q p → h p ≤ h t := by
  intro k
  induction k with
  | zero => intro q hk; omega
  | succ k ih =>
    intro q hk
    by_cases c : k = 0
    · subst c
      exact ⟨q 0, ⟨0, by omega, rfl⟩, fun p ⟨i, hi, ei⟩ => by rw [← ei, show i = 0 by omega]; exact Int.le_refl _⟩
    · obtain ⟨t, ⟨j, hj, ej⟩, ht⟩ := ih q (by omega)
      by_cases c2 : h (q k) ≤ h t
      · refine ⟨t, ⟨j, by omega, ej⟩, fun p ⟨i, hi, ei⟩ => ?_⟩
        by_cases ci : i = k
        · rw [← ei, ci]; exact c2
        · exact ht p ⟨i, by omega, ei⟩
      · refine ⟨q k, ⟨k, by omega, rfl⟩, fun p ⟨i, hi, ei⟩ => ?_⟩
        by_cases ci : i = k
        · rw [← ei, ci]; exact Int.le_refl _
        · have := ht p ⟨i, by omega, ei⟩
          omega
/-- of the points with u > 0 one has the least v / u -/
theorem argrat (u v : V3 → Int) : ∀ (k : Nat) (q : Nat → V3), (∀ p, Mm k q p → 0 ≤ v p) → (∃ p, Mm k q p ∧ 0 < u p) → ∃ t, Mm k q t ∧ 0 < u t ∧ ∀ p, Mm k q p → 0 < u p → v t * u p ≤ v p * u t := by
  intro k
  induction k with
  | zero => rintro q _ ⟨p, ⟨i, hi, _⟩, _⟩; omega
  | succ k ih =>
    intro q hv hex
    by_cases c : ∃ p, Mm k q p ∧ 0 < u p
    · obtain ⟨t, ⟨j, hj, ej⟩, ut, ht⟩ := ih q (fun p ⟨i, hi, ei⟩ => hv p ⟨i, by omega, ei⟩) c
      by_cases c2 : 0 < u (q k) ∧ v (q k) * u t < v t * u (q k)
      · refine ⟨q k, ⟨k, by omega, rfl⟩, c2.1, fun p ⟨i, hi, ei⟩ up => ?_⟩
        by_cases ci : i = k
        · rw [← ei, ci]; exact Int.le_refl _
        · have h1 := ht p ⟨i, by omega, ei⟩ up
          have h2 := Int.mul_le_mul_of_nonneg_right (Int.le_of_lt c2.2) (Int.le_of_lt up)
          have h3 := Int.mul_le_mul_of_nonneg_right h1 (Int.le_of_lt c2.1)
          have e1 : v (q k) * u t * u p = u t * (v (q k) * u p) := by grind
          have e2 : v t * u (q k) * u p = v t * u p * u (q k) := by grind
          have e3 : v p * u t * u (q k) = u t * (v p * u (q k)) := by grind
          exact Int.le_of_mul_le_mul_left (by omega) ut
      · refine ⟨t, ⟨j, by omega, ej⟩, ut, fun p ⟨i, hi, ei⟩ up => ?_⟩
        by_cases ci : i = k
        · have : ¬ v (q k) * u t < v t * u (q k) := fun h => c2 ⟨by rw [← ci, ei]; exact up, h⟩
          rw [← ei, ci]; omega
        · exact ht p ⟨i, by omega, ei⟩ up
    · obtain ⟨p, ⟨i, hi, ei⟩, up⟩ := hex
      have ik : i = k := by
        refine Classical.byContradiction fun h => c ⟨p, ⟨i, by omega, ei⟩, up⟩
      refine ⟨p, ⟨i, hi, ei⟩, up, fun p' ⟨i', hi', ei'⟩ up' => ?_⟩
      have ik' : i' = k := by
        refine Classical.byContradiction fun h => c ⟨p', ⟨i', by omega, ei'⟩, up'⟩
      rw [← ei, ← ei', ik, ik']
      exact Int.le_refl _
def lc (a : Int) (h : V3) (b : Int) (m : V3) : V3 := (a * h.1 + b * m.1, a * h.2.1 + b * m.2.1, a * h.2.2 + b * m.2.2)
theorem d3_lc (a b : Int) (h m p : V3) : d3 (lc a h b m) p = a * d3 h p + b * d3 m p := by unfold d3 lc; grind
/-- a condition that holds at all points is turned about those where it is tight until it is tight at another one -/
theorem rotate {k : Nat} {q : Nat → V3} {h m t0 : V3} (hv : ∀ p, Mm k q p → d3 h p ≤ d3 h t0) (hm : ∃ p, Mm k q p ∧ d3 m t0 < d3 m p) : ∃ (a b : Int) (p1 : V3), 0 < a ∧ Mm k q p1 ∧ d3 m t0 < d3 m p1 ∧ (∀ p, Mm k q p → d3 (lc a h b m) p ≤ d3 (lc a h b m) t0) ∧ d3 (lc a h b m) p1 = d3 (lc a h b m) t0 := by
  obtain ⟨p, hp, lp⟩ := hm
  obtain ⟨t, mt, ut, ht⟩ := argrat (fun p => d3 m p - d3 m t0) (fun p => d3 h t0 - d3 h p) k q (fun p hp => by have := hv p hp; omega) ⟨p, hp, by omega⟩
  refine ⟨d3 m t - d3 m t0, d3 h t0 - d3 h t, t, ut, mt, by omega, fun p hp => ?_, ?_⟩
  · rw [d3_lc, d3_lc]
    have h1 := hv p hp
    have h2 := hv t mt
    by_cases c : d3 m t0 < d3 m p
    · have := ht p hp (by omega)
      grind
    · have a1 := Int.mul_nonneg (Int.le_of_lt ut) (show 0 ≤ d3 h t0 - d3 h p by omega)
      have a2 := Int.mul_nonneg (show 0 ≤ d3 h t0 - d3 h t by omega) (show 0 ≤ d3 m t0 - d3 m p by omega)
      grind
  · rw [d3_lc, d3_lc]
    grind
/-- X / Q, looked at from t -/
def from3 (X : V3) (Q : Int) (t : V3) : V3 := (X.1 - Q * t.1, X.2.1 - Q * t.2.1, X.2.2 - Q * t.2.2)
theorem d3_from (h X : V3) (Q : Int) (t : V3) : d3 h (from3 X Q t) = d3 h X - Q * d3 h t := by unfold d3 from3; grind
theorem perp1 {u : V3} (_ : u ≠ o3) : ∃ m : V3, m ≠ o3 ∧ d3 m u = 0 := by
  by_cases c : u.1 = 0 ∧ u.2.1 = 0
  · exact ⟨(1, 0, 0), (by unfold o3; decide), (by unfold d3; dsimp only; omega)⟩
  · refine ⟨(u.2.1, -u.1, 0), fun h => c ?_, by unfold d3; dsimp only; grind⟩
    have h := v3_iff.mp h
    unfold o3 at h
    dsimp only at h
    omega
theorem NF_off {S : V3 → Prop} (hS : NF S) {m t : V3} (hm : m ≠ o3) : ∃ m', (m' = m ∨ m' = ng3 m) ∧ ∃ p, S p ∧ d3 m' t < d3 m' p := by
  obtain ⟨p1, p2⟩ := sh_prim hm
  have em := sh_mul m
  have ex : ∃ p, S p ∧ d3 m p ≠ d3 m t := Classical.byContradiction fun hc => hS (sh m) (d3 (sh m) t) p1 (fun p hp => by
    have : d3 m p = d3 m t := Classical.byContradiction fun h => hc ⟨p, hp, h⟩
    rw [em, d3_sm, d3_sm] at this
    exact mul_eqz (by omega) this)
  obtain ⟨p, hp, ne⟩ := ex
  rcases Int.lt_or_lt_of_ne ne with c | c
  · exact ⟨ng3 m, Or.inr rfl, p, hp, by rw [d3_ng, d3_ng]; omega⟩
  · exact ⟨m, Or.inl rfl, p, hp, c⟩
theorem pm_0 {m m' u : V3} (h : m' = m ∨ m' = ng3 m) (h2 : d3 m u = 0) : d3 m' u = 0 := by
  rcases h with h | h
  · rw [h]; exact h2
  · rw [h, d3_ng]; omega
theorem wm3 {k : Nat} {q : Nat → V3} (hk : 1 ≤ k) (hS : NF (Mm k q)) {X : V3} {Q : Int} (hQ : 0 < Q) (hX : ∀ n e, Sd3 (Mm k q) n e → d3 n X ≤ Q * e) {h : V3} {c : Int} (hh : ∀ p, Mm k q p → d3 h p ≤ c) : d3 h X ≤ Q * c := by
  refine Classical.byContradiction fun hn => ?_
  obtain ⟨t0, m0, ht0⟩ := argmax (d3 h) k q hk
  have u0 : 0 < d3 h (from3 X Q t0) := by
    rw [d3_from]
    have := Int.mul_le_mul_of_nonneg_left (hh t0 m0) (Int.le_of_lt hQ)
    omega
  have une : from3 X Q t0 ≠ o3 := fun e => by
    rw [e] at u0
    have : d3 h o3 = 0 := by unfold d3 o3; dsimp only; omega
    omega
  obtain ⟨m, mne, mz⟩ := perp1 une
  obtain ⟨m1, pm, hm1⟩ := NF_off hS (t := t0) mne
  have m1z := pm_0 pm mz
  obtain ⟨a, b, p1, a0, mp1, l1, v1, e1⟩ := rotate ht0 hm1
  have u1 : 0 < d3 (lc a h b m1) (from3 X Q t0) := by
    rw [d3_lc, m1z]
    have := Int.mul_pos a0 u0
    omega
  generalize lc a h b m1 = h1 at *
  have pne : sb3 p1 t0 ≠ o3 := fun e => by rw [sb3_0.mp e] at l1; omega
  have z1 : d3 h1 (sb3 p1 t0) = 0 := by rw [d3_sb]; omega
  have wne : cr (sb3 p1 t0) (from3 X Q t0) ≠ o3 := fun e => by
    have e := v3_iff.mp (cr_sw e)
    unfold cr o3 at e
    dsimp only at e
    generalize from3 X Q t0 = u at *
    generalize sb3 p1 t0 = w at *
    have key : ∀ x y : Int, d3 h1 u * x = d3 h1 w * y → x = 0 := fun x y hxy => by
      rw [z1, Int.zero_mul] at hxy
      exact (Int.mul_eq_zero.mp hxy).resolve_left (by omega)
    unfold d3 at key
    obtain ⟨f1, f2, f3⟩ := e
    exact pne (v3_ext (key _ u.1 (by grind)) (key _ u.2.1 (by grind)) (key _ u.2.2 (by grind)))
  obtain ⟨m2, pm2, hm2⟩ := NF_off hS (t := t0) wne
  have y1 := pm_0 pm2 (d3_cr1 (sb3 p1 t0) (from3 X Q t0))
  have y2 := pm_0 pm2 (d3_cr2 (sb3 p1 t0) (from3 X Q t0))
  obtain ⟨a', b', p2, a0', mp2, l2, v2, e2⟩ := rotate v1 hm2
  have u2 : 0 < d3 (lc a' h1 b' m2) (from3 X Q t0) := by
    rw [d3_lc, y2]
    have := Int.mul_pos a0' u1
    omega
  have e1' : d3 (lc a' h1 b' m2) p1 = d3 (lc a' h1 b' m2) t0 := by
    rw [d3_lc, d3_lc, e1]
    rw [d3_sb] at y1
    have : d3 m2 p1 = d3 m2 t0 := by omega
    rw [this]
  have nr : ¬ row3 t0 p1 p2 := fun hr => by
    unfold row3 at hr
    obtain ⟨x, hx⟩ : ∃ x : Int, d3 m2 (sb3 p2 t0) = d3 m2 (sb3 p2 t0) := ⟨0, rfl⟩
    have e := v3_iff.mp hr
    unfold cr o3 at e
    dsimp only at e
    have y3 : 0 < d3 m2 (sb3 p2 t0) := by rw [d3_sb]; omega
    generalize sb3 p2 t0 = v at *
    generalize sb3 p1 t0 = w at *
    have key : ∀ x y : Int, d3 m2 v * x = d3 m2 w * y → x = 0 := fun x y hxy => by
      rw [y1, Int.zero_mul] at hxy
      exact (Int.mul_eq_zero.mp hxy).resolve_left (by omega)
    unfold d3 at key
    obtain ⟨f1, f2, f3⟩ := e
    exact pne (v3_ext (key _ v.1 (by grind)) (key _ v.2.1 (by grind)) (key _ v.2.2 (by grind)))
  generalize lc a' h1 b' m2 = h2 at *
  have h2ne : h2 ≠ o3 := fun e => by
    rw [e] at u2
    have : d3 o3 (from3 X Q t0) = 0 := by unfold d3 o3; dsimp only; omega
    omega
  obtain ⟨pr, gp⟩ := sh_prim h2ne
  have em := sh_mul h2
  have sc : ∀ x, d3 h2 x = gv h2 * d3 (sh h2) x := fun x => by rw [← d3_sm, ← em]
  have eqs : ∀ x, d3 h2 x = d3 h2 t0 → d3 (sh h2) x = d3 (sh h2) t0 := fun x hx => by rw [sc, sc t0] at hx; exact mul_eqz (by omega) hx
  have := hX (sh h2) (d3 (sh h2) t0) ⟨pr, fun p hp => by
    have := v2 p hp
    rw [sc, sc t0] at this
    exact Int.le_of_mul_le_mul_left this (by omega), t0, p1, p2, m0, mp1, mp2, rfl, eqs p1 e1', eqs p2 e2, nr⟩
  rw [sc, d3_from] at u2
  have : 0 < d3 (sh h2) X - Q * d3 (sh h2) t0 := by
    refine Classical.byContradiction fun hc => ?_
    have := Int.mul_nonneg (show (0 : Int) ≤ gv h2 by omega) (show 0 ≤ -(d3 (sh h2) X - Q * d3 (sh h2) t0) by omega)
    rw [Int.mul_neg] at this
    omega
  omega
