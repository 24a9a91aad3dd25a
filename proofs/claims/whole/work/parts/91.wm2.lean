/-! the same of flat ones; corners at the ends of each direction -/
theorem NF2_off {S : V3 → Prop} {N : V3} (hS : NF2 S N) {m t : V3} (hm : m ≠ o3) (hmN : d3 m N = 0) : ∃ m', (m' = m ∨ m' = ng3 m) ∧ ∃ p, S p ∧ d3 m' t < d3 m' p := by
  obtain ⟨p1, p2⟩ := sh_prim hm
  have em := sh_mul m
  have ex : ∃ p, S p ∧ d3 m p ≠ d3 m t := Classical.byContradiction fun hc => hS.2.2 (sh m) (d3 (sh m) t) p1 (by rw [em, d3_sm] at hmN; exact (Int.mul_eq_zero.mp hmN).resolve_left (by omega)) (fun p hp => by
    have : d3 m p = d3 m t := Classical.byContradiction fun h => hc ⟨p, hp, h⟩
    rw [em, d3_sm, d3_sm] at this
    exact mul_eqz (by omega) this)
  obtain ⟨p, hp, ne⟩ := ex
  rcases Int.lt_or_lt_of_ne ne with c | c
  · exact ⟨ng3 m, Or.inr rfl, p, hp, by rw [d3_ng, d3_ng]; omega⟩
  · exact ⟨m, Or.inl rfl, p, hp, c⟩
/-- in a plane a form that is nought along a is as one square to a -/
theorem plane_id {a N h y : V3} (ha : d3 h a = 0) (haN : d3 N a = 0) (hy : d3 N y = 0) : d3 (cr a N) (cr a N) * d3 h y = d3 (cr a N) y * d3 h (cr a N) := by
  have e : d3 (cr a N) (cr a N) * d3 h y - d3 (cr a N) y * d3 h (cr a N) = d3 N N * d3 a y * d3 h a + d3 N a * (d3 N a * d3 h y - d3 N y * d3 h a - d3 a y * d3 h N) + d3 N y * (d3 a a * d3 h N) - 0 - 2 * (d3 N a * d3 N a * d3 h y) + 2 * (d3 N a * d3 N a * d3 h y) - (d3 N a * d3 N a * d3 h y) - (d3 N a * d3 N a * d3 h y) + (d3 N a * d3 N a * d3 h y) - 0 := by
    unfold d3 cr
    grind
  rw [ha, haN, hy] at e
  simp at e
  omega
theorem wm2 {k : Nat} {q : Nat → V3} {N : V3} (hk : 1 ≤ k) (hS : NF2 (Mm k q) N) {X : V3} {Q : Int} (hQ : 0 < Q) (hXN : ∀ t, Mm k q t → d3 N X = Q * d3 N t) (hX : ∀ n e, Sd2 (Mm k q) N n e → d3 n X ≤ Q * e) {h : V3} {c : Int} (hh : ∀ p, Mm k q p → d3 h p ≤ c) : d3 h X ≤ Q * c := by
  refine Classical.byContradiction fun hn => ?_
  obtain ⟨t0, m0, ht0⟩ := argmax (d3 h) k q hk
  have u0 : 0 < d3 h (from3 X Q t0) := by
    rw [d3_from]
    have := Int.mul_le_mul_of_nonneg_left (hh t0 m0) (Int.le_of_lt hQ)
    omega
  have uN : d3 N (from3 X Q t0) = 0 := by rw [d3_from, hXN t0 m0]; omega
  have une : from3 X Q t0 ≠ o3 := fun e => by
    rw [e] at u0
    have : d3 h o3 = 0 := by unfold d3 o3; dsimp only; omega
    omega
  have mne := cr_ne uN une (prim_0 hS.1)
  obtain ⟨m1, pm, hm1⟩ := NF2_off hS (t := t0) mne (d3_cr2 _ _)
  have m1z := pm_0 pm (d3_cr1 (from3 X Q t0) N)
  obtain ⟨a, b, p1, a0, mp1, l1, v1, e1⟩ := rotate ht0 hm1
  have u1 : 0 < d3 (lc a h b m1) (from3 X Q t0) := by
    rw [d3_lc, m1z]
    have := Int.mul_pos a0 u0
    omega
  generalize lc a h b m1 = h1 at *
  have pne : sb3 p1 t0 ≠ o3 := fun e => by rw [sb3_0.mp e] at l1; omega
  have pne' : t0 ≠ p1 := fun e => by rw [e] at l1; omega
  have z1 : d3 h1 (sb3 p1 t0) = 0 := by rw [d3_sb]; omega
  have zN : d3 N (sb3 p1 t0) = 0 := by rw [d3_sb, hS.2.1 p1 t0 mp1 m0]; omega
  have wne := cr_ne zN pne (prim_0 hS.1)
  have wN : d3 (cr (sb3 p1 t0) N) N = 0 := d3_cr2 _ _
  have wa : d3 (cr (sb3 p1 t0) N) (sb3 p1 t0) = 0 := d3_cr1 _ _
  have id : ∀ y, d3 N y = 0 → d3 (cr (sb3 p1 t0) N) (cr (sb3 p1 t0) N) * d3 h1 y = d3 (cr (sb3 p1 t0) N) y * d3 h1 (cr (sb3 p1 t0) N) := fun y hy => plane_id z1 zN hy
  generalize cr (sb3 p1 t0) N = w at *
  have ww : 0 < d3 w w := by
    have : d3 w w ≠ 0 := fun e => wne (sq_z e)
    have h0 : 0 ≤ d3 w w := by
      unfold d3
      have q1 := sqn w.1
      have q2 := sqn w.2.1
      have q3 := sqn w.2.2
      omega
    omega
  have fin : ∀ s : V3, s ≠ o3 → d3 s N = 0 → d3 s (sb3 p1 t0) = 0 → (∀ y, d3 N y = 0 → d3 h1 y ≤ 0 → d3 s y ≤ 0) → 0 < d3 s (from3 X Q t0) → False := by
    intro s sne sN sa sle spos
    obtain ⟨pr, gp⟩ := sh_prim sne
    have em := sh_mul s
    have sc : ∀ x, d3 s x = gv s * d3 (sh s) x := fun x => by rw [← d3_sm, ← em]
    have zz : ∀ x, d3 s x = 0 → d3 (sh s) x = 0 := fun x hx => by rw [sc] at hx; exact (Int.mul_eq_zero.mp hx).resolve_left (by omega)
    have := hX (sh s) (d3 (sh s) t0) ⟨pr, zz N sN, fun p hp => by
      have k1 := sle (sb3 p t0) (by rw [d3_sb, hS.2.1 p t0 hp m0]; omega) (by rw [d3_sb]; have := v1 p hp; omega)
      rw [sc] at k1
      have k2 : d3 (sh s) (sb3 p t0) ≤ 0 := by
        refine Classical.byContradiction fun hc => ?_
        have := Int.mul_pos (show (0 : Int) < gv s by omega) (show 0 < d3 (sh s) (sb3 p t0) by omega)
        omega
      rw [d3_sb] at k2
      omega, t0, p1, m0, mp1, pne', rfl, by have := zz _ sa; rw [d3_sb] at this; omega⟩
    rw [sc, d3_from] at spos
    have k3 : 0 < d3 (sh s) X - Q * d3 (sh s) t0 := by
      refine Classical.byContradiction fun hc => ?_
      have := Int.mul_nonneg (show (0 : Int) ≤ gv s by omega) (show 0 ≤ -(d3 (sh s) X - Q * d3 (sh s) t0) by omega)
      rw [Int.mul_neg] at this
      omega
    omega
  have iu := id _ uN
  have pu := Int.mul_pos ww u1
  rcases Int.lt_trichotomy (d3 h1 w) 0 with cs | cs | cs
  · refine fin (ng3 w) (fun e => wne ?_) (by rw [d3_ng]; omega) (by rw [d3_ng]; omega) (fun y hy hl => ?_) ?_
    · have e := v3_iff.mp e
      unfold ng3 o3 at e
      dsimp only at e
      exact v3_ext (by show w.1 = 0; omega) (by show w.2.1 = 0; omega) (by show w.2.2 = 0; omega)
    · rw [d3_ng]
      have i1 := id y hy
      have a1 := Int.mul_nonneg (Int.le_of_lt ww) (show 0 ≤ - d3 h1 y by omega)
      rw [Int.mul_neg] at a1
      refine Classical.byContradiction fun hc => ?_
      have := Int.mul_pos_of_neg_of_neg (show d3 w y < 0 by omega) cs
      omega
    · rw [d3_ng]
      refine Classical.byContradiction fun hc => ?_
      have := Int.mul_nonneg (show 0 ≤ d3 w (from3 X Q t0) by omega) (show 0 ≤ - d3 h1 w by omega)
      rw [Int.mul_neg] at this
      omega
  · rw [cs, Int.mul_zero] at iu
    omega
  · refine fin w wne wN wa (fun y hy hl => ?_) ?_
    · have i1 := id y hy
      have a1 := Int.mul_nonneg (Int.le_of_lt ww) (show 0 ≤ - d3 h1 y by omega)
      rw [Int.mul_neg] at a1
      refine Classical.byContradiction fun hc => ?_
      have := Int.mul_pos (show 0 < d3 w y by omega) cs
      omega
    · refine Classical.byContradiction fun hc => ?_
      have := Int.mul_nonneg (show 0 ≤ - d3 w (from3 X Q t0) by omega) (Int.le_of_lt cs)
      rw [Int.neg_mul] at this
      omega
theorem wm1 {k : Nat} {q : Nat → V3} {D : V3} (hk : 1 ≤ k) (hD : prim D) (hS : ∀ p r, Mm k q p → Mm k q r → cr D (sb3 r p) = o3) {X : V3} {Q : Int} (hQ : 0 < Q) (hXD : ∀ t, Mm k q t → cr D (from3 X Q t) = o3) (hX : ∀ n e, Sd1 (Mm k q) D n e → d3 n X ≤ Q * e) {h : V3} {c : Int} (hh : ∀ p, Mm k q p → d3 h p ≤ c) : d3 h X ≤ Q * c := by
  refine Classical.byContradiction fun hn => ?_
  obtain ⟨t0, m0, ht0⟩ := argmax (d3 h) k q hk
  have u0 : 0 < d3 h (from3 X Q t0) := by
    rw [d3_from]
    have := Int.mul_le_mul_of_nonneg_left (hh t0 m0) (Int.le_of_lt hQ)
    omega
  have une : from3 X Q t0 ≠ o3 := fun e => by
    rw [e] at u0
    have : d3 h o3 = 0 := by unfold d3 o3; dsimp only; omega
    omega
  obtain ⟨cu, cu0, eu⟩ := par_of hD une (hXD t0 m0)
  have DD : 0 < d3 D D := by
    have : d3 D D ≠ 0 := fun e => prim_0 hD (sq_z e)
    have h0 : 0 ≤ d3 D D := by
      unfold d3
      have q1 := sqn D.1
      have q2 := sqn D.2.1
      have q3 := sqn D.2.2
      omega
    omega
  have line : ∀ p, Mm k q p → ∃ x, sb3 p t0 = sm3 x D := fun p hp => by
    by_cases e : sb3 p t0 = o3
    · exact ⟨0, by rw [e]; unfold sm3 o3; simp⟩
    · obtain ⟨x, _, ex⟩ := par_of hD e (hS t0 p m0 hp)
      exact ⟨x, ex⟩
  have eh : d3 h (from3 X Q t0) = cu * d3 h D := by rw [eu, d3_comm, d3_sm, d3_comm]
  have eD : d3 D (from3 X Q t0) = cu * d3 D D := by rw [eu, d3_comm, d3_sm]
  have ep : ∀ p x, sb3 p t0 = sm3 x D → d3 h p - d3 h t0 = x * d3 h D ∧ d3 D p - d3 D t0 = x * d3 D D := fun p x ex => by
    rw [← d3_sb, ← d3_sb, ex, d3_comm, d3_sm, d3_comm D h, d3_comm D (sm3 x D), d3_sm]
    exact ⟨rfl, rfl⟩
  rw [d3_from] at eD
  rw [eh] at u0
  rcases Int.lt_trichotomy (d3 h D) 0 with cs | cs | cs
  · have cneg : cu < 0 := by
      refine Classical.byContradiction fun hc => ?_
      have := Int.mul_nonneg (show 0 ≤ cu by omega) (show 0 ≤ - d3 h D by omega)
      rw [Int.mul_neg] at this
      omega
    have := hX (ng3 D) (d3 (ng3 D) t0) ⟨Or.inr rfl, fun p hp => by
      obtain ⟨x, ex⟩ := line p hp
      obtain ⟨e1, e2⟩ := ep p x ex
      have := ht0 p hp
      have xp : 0 ≤ x := by
        refine Classical.byContradiction fun hc => ?_
        have := Int.mul_pos_of_neg_of_neg (show x < 0 by omega) cs
        omega
      have := Int.mul_nonneg xp (Int.le_of_lt DD)
      rw [d3_ng, d3_ng]
      omega, t0, m0, rfl⟩
    rw [d3_ng, d3_ng, Int.mul_neg] at this
    have k1 := Int.mul_pos (show 0 < -cu by omega) DD
    rw [Int.neg_mul] at k1
    omega
  · rw [cs, Int.mul_zero] at u0
    omega
  · have cpos : 0 < cu := by
      refine Classical.byContradiction fun hc => ?_
      have := Int.mul_nonneg (show 0 ≤ -cu by omega) (Int.le_of_lt cs)
      rw [Int.neg_mul] at this
      omega
    have := hX D (d3 D t0) ⟨Or.inl rfl, fun p hp => by
      obtain ⟨x, ex⟩ := line p hp
      obtain ⟨e1, e2⟩ := ep p x ex
      have := ht0 p hp
      have xp : x ≤ 0 := by
        refine Classical.byContradiction fun hc => ?_
        have := Int.mul_pos (show 0 < x by omega) cs
        omega
      have := Int.mul_nonneg (show 0 ≤ -x by omega) (Int.le_of_lt DD)
      rw [Int.neg_mul] at this
      omega, t0, m0, rfl⟩
    have k1 := Int.mul_pos cpos DD
    omega
/-- X / Q lies in the space of S -/
def InSp (S : V3 → Prop) (f : Nat) (N : V3) (X : V3) (Q : Int) : Prop := (f = 0 → ∀ t, S t → from3 X Q t = o3) ∧ (f = 1 → ∀ t, S t → cr N (from3 X Q t) = o3) ∧ (f = 2 → ∀ t, S t → d3 N (from3 X Q t) = 0)
theorem wm {k : Nat} {q : Nat → V3} {f : Nat} {N : V3} (hk : 1 ≤ k) (hf : FD (Mm k q) f N) {X : V3} {Q : Int} (hQ : 0 < Q) (hI : InSp (Mm k q) f N X Q) (hX : ∀ n e, Sd (Mm k q) f N n e → d3 n X ≤ Q * e) {h : V3} {c : Int} (hh : ∀ p, Mm k q p → d3 h p ≤ c) : d3 h X ≤ Q * c := by
  rcases hf with ⟨rfl, h1⟩ | ⟨rfl, h1, h2, h3, _⟩ | ⟨rfl, h1, h2, h3, x, y, z, hx, hy, hz, hr⟩ | ⟨rfl, x, y, z, t, hx, hy, hz, ht, hr⟩
  · have e := hI.1 rfl (q 0) ⟨0, by omega, rfl⟩
    have g := d3_from h X Q (q 0)
    rw [e] at g
    have : d3 h o3 = 0 := by unfold d3 o3; dsimp only; omega
    have := Int.mul_le_mul_of_nonneg_left (hh (q 0) ⟨0, by omega, rfl⟩) (Int.le_of_lt hQ)
    omega
  · exact wm1 hk h1 h3 hQ (hI.2.1 rfl) (fun n e hs => hX n e (Or.inl ⟨rfl, hs⟩)) hh
  · refine wm2 hk (NF2_row h1 h3 hx hy hz hr) hQ (fun t ht => ?_) (fun n e hs => hX n e (Or.inr (Or.inl ⟨rfl, hs⟩))) hh
    have := hI.2.2 rfl t ht
    rw [d3_from] at this
    omega
  · exact wm3 hk (NF_det hx hy hz ht hr) hQ (fun n e hs => hX n e (Or.inr (Or.inr ⟨rfl, hs⟩))) hh
