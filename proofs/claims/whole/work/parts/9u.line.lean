/-! segments and points grow by the rule; all bodies -/
theorem DD_pos {D : V3} (h : D ≠ o3) : 0 < d3 D D := by
  have : d3 D D ≠ 0 := fun e => h (sq_z e)
  have h0 : 0 ≤ d3 D D := by
    unfold d3
    have q1 := sqn D.1
    have q2 := sqn D.2.1
    have q3 := sqn D.2.2
    omega
  omega
theorem HC_line {D : V3} (hD : D ≠ o3) (t0 : V3) (Q a : Int) (k : Nat) : HC (fun X => X.2.2.2 = Q ∧ ∃ x, (a ≤ x ∧ x < a + k) ∧ v3of X = pl t0 (sm3 x D) Q) k := by
  induction k with
  | zero => exact HC.none fun X ⟨_, x, hx, _⟩ => by omega
  | succ k ih =>
    have DD := DD_pos hD
    refine (ih.sum (HC.one ((pl t0 (sm3 (a + k) D) Q).1, (pl t0 (sm3 (a + k) D) Q).2.1, (pl t0 (sm3 (a + k) D) Q).2.2, Q)) ?_).iff fun X => ⟨?_, ?_⟩
    · rintro X ⟨_, x, hx, ex⟩ eX
      have : v3of X = pl t0 (sm3 (a + k) D) Q := by rw [eX]; rfl
      rw [this] at ex
      have q : d3 D (pl t0 (sm3 (a + k) D) Q) = d3 D (pl t0 (sm3 x D) Q) := by rw [ex]
      rw [d3_pl, d3_pl, d3_comm D (sm3 _ D), d3_comm D (sm3 _ D), d3_sm, d3_sm] at q
      have q2 := Int.mul_pos (show 0 < a + k - x by omega) DD
      rw [Int.sub_mul] at q2
      omega
    · rintro (⟨h1, x, hx, ex⟩ | eX)
      · exact ⟨h1, x, by omega, ex⟩
      · rw [eX]
        exact ⟨rfl, a + k, by omega, rfl⟩
    · rintro ⟨h1, x, hx, ex⟩
      by_cases cx : x = a + k
      · refine Or.inr ?_
        rw [cx] at ex
        obtain ⟨y1, y2, y3, y4⟩ := X
        have := v3_iff.mp ex
        obtain ⟨u1, u2, u3⟩ := this
        change y1 = _ at u1
        change y2 = _ at u2
        change y3 = _ at u3
        change y4 = _ at h1
        rw [u1, u2, u3, h1]
      · exact Or.inl ⟨h1, x, by omega, ex⟩
section
variable {f : Nat} {N : V3} {cs : Nat} {c : Nat → V3} {ss : Nat} {s : Nat → V3} {e : Nat → Int} {bd' : Nat → V3} {be L G : Nat → Int} {n : Nat} {p : Nat → V3}
theorem grow_1 (hn : 1 ≤ n) (hr : ∀ v, Mm n p v → rc3 v) (hB : BodyP (Mm n p) 1 N cs c ss s e bd' be L G) : ∃ g : Int, 1 ≤ g ∧ ∀ Q, 1 ≤ Q → (Kc 1 N ss s e be L G Q : Int) = Q * g + 1 ∧ (Ki 1 N ss s e be L G Q : Int) = Q * g - 1 := by
  have hFD := hB.1
  rcases hFD with ⟨q, _⟩ | ⟨_, pN, lN, hline, x, y, hx, hy, hxy⟩ | ⟨q, _⟩ | ⟨q, _⟩
  · omega
  · have DD := DD_pos (prim_0 pN)
    obtain ⟨t1, ht1, m1⟩ := argmax (d3 N) n p hn
    obtain ⟨t0, ht0, m0⟩ := argmax (d3 (ng3 N)) n p hn
    have m0' : ∀ r, Mm n p r → d3 N t0 ≤ d3 N r := fun r hr => by have := m0 r hr; rw [d3_ng, d3_ng] at this; omega
    have lineof : ∀ r, Mm n p r → ∃ k, sb3 r t0 = sm3 k N := fun r hr => by
      by_cases e0 : sb3 r t0 = o3
      · exact ⟨0, by rw [e0]; unfold sm3 o3; simp⟩
      · obtain ⟨k, _, ek⟩ := par_of pN e0 (hline t0 r ht0 hr)
        exact ⟨k, ek⟩
    have dk : ∀ r k, sb3 r t0 = sm3 k N → d3 N r = d3 N t0 + k * d3 N N := fun r k ek => by
      have := d3_sb N r t0
      rw [ek, d3_comm, d3_sm] at this
      omega
    obtain ⟨g, eg⟩ := lineof t1 ht1
    have dg := dk t1 g eg
    have g1 : 1 ≤ g := by
      refine Classical.byContradiction fun hc => ?_
      have h01 : d3 N t1 = d3 N t0 := by
        have := Int.mul_nonneg (show 0 ≤ -g by omega) (Int.le_of_lt DD)
        rw [Int.neg_mul] at this
        have := m0' t1 ht1
        omega
      have all : ∀ r, Mm n p r → r = t0 := fun r hr => by
        obtain ⟨k, ek⟩ := lineof r hr
        have d := dk r k ek
        have q1 := m1 r hr
        have q2 := m0' r hr
        have k0 : k * d3 N N = 0 := by omega
        rw [(Int.mul_eq_zero.mp k0).resolve_right (by omega)] at ek
        exact sb3_0.mp (by rw [ek]; unfold sm3 o3; simp)
      exact hxy ((all x hx).trans (all y hy).symm)
    refine ⟨g, g1, fun Q hQ => ?_⟩
    have sdD : Sd (Mm n p) 1 N N (d3 N t1) := Or.inl ⟨rfl, Or.inl rfl, m1, t1, ht1, rfl⟩
    have sdn : Sd (Mm n p) 1 N (ng3 N) (d3 (ng3 N) t0) := Or.inl ⟨rfl, Or.inr rfl, m0, t0, ht0, rfl⟩
    obtain ⟨iD, hiD, eD⟩ := hB.2.2.2.2.2.1 _ _ sdD
    obtain ⟨jD, hjD, fD⟩ := hB.2.2.2.2.2.1 _ _ sdn
    have sI : ∀ i, i < ss → (s i = N ∧ e i = d3 N t1) ∨ (s i = ng3 N ∧ e i = d3 (ng3 N) t0) := fun i hi => by
      have g2 := hB.2.2.2.2.1.2 i hi
      have g3 := g2
      rcases g3 with ⟨_, q, _⟩ | ⟨q, _⟩ | ⟨q, _⟩
      · rcases q with q | q
        · rw [q] at g2; exact Or.inl ⟨q, Sd_e g2 sdD⟩
        · rw [q] at g2; exact Or.inr ⟨q, Sd_e g2 sdn⟩
      · omega
      · omega
    have at_ : ∀ x, d3 N (pl t0 (sm3 x N) Q) = Q * d3 N t0 + x * d3 N N := fun x => by rw [d3_pl, d3_comm N (sm3 x N), d3_sm]
    have up : ∀ x, d3 N (pl t0 (sm3 x N) Q) - d3 N t1 * Q = (x - Q * g) * d3 N N := fun x => by rw [at_, dg]; grind
    have dn : ∀ x, d3 (ng3 N) (pl t0 (sm3 x N) Q) - d3 (ng3 N) t0 * Q = -(x * d3 N N) := fun x => by rw [d3_ng, d3_ng, at_]; grind
    have bonds : ∀ x i, i < nbd 1 → d3 (bnd 1 N i) (pl t0 (sm3 x N) Q) - be i * Q = 0 := fun x i hi => by
      have b := bond_all hB ht0 hi
      rw [d3_pl, b, d3_comm (bnd 1 N i) (sm3 x N), d3_sm]
      have z : d3 N (bnd 1 N i) = 0 := by
        rcases (show i = 0 ∨ i = 1 ∨ i = 2 by unfold nbd at hi; simp at hi; omega) with rfl | rfl | rfl
        · show N.1 * 0 + N.2.1 * N.2.2 + N.2.2 * (- N.2.1) = 0; grind
        · show N.1 * (- N.2.2) + N.2.1 * 0 + N.2.2 * N.1 = 0; grind
        · show N.1 * N.2.1 + N.2.1 * (- N.1) + N.2.2 * 0 = 0; grind
      rw [z]
      grind
    have put : ∀ X, (∀ i, i < nbd 1 → d3 (bnd 1 N i) X - be i * Q = 0) → ∃ x, X = pl t0 (sm3 x N) Q := fun X hX => by
      have h1 := (CB_in hB hX).2.1 rfl t0 ht0
      by_cases e0 : from3 X Q t0 = o3
      · refine ⟨0, ?_⟩
        have := v3_iff.mp e0
        unfold from3 o3 at this
        dsimp only at this
        unfold pl sm3
        exact v3_ext (by dsimp only; omega) (by dsimp only; omega) (by dsimp only; omega)
      · obtain ⟨k, _, ek⟩ := par_of pN e0 h1
        refine ⟨k, ?_⟩
        have := v3_iff.mp ek
        unfold from3 sm3 at this
        dsimp only at this
        unfold pl sm3
        exact v3_ext (by dsimp only; omega) (by dsimp only; omega) (by dsimp only; omega)
    have q0 : 0 ≤ Q * g := Int.mul_nonneg (by omega) (by omega)
    have q1 : Q ≤ Q * g := by
      have := Int.mul_le_mul_of_nonneg_left g1 (show 0 ≤ Q by omega)
      omega
    have sgn : ∀ y : Int, y * d3 N N ≤ 0 ↔ y ≤ 0 := fun y => by
      constructor
      · intro h
        refine Classical.byContradiction fun hc => ?_
        have := Int.mul_pos (show 0 < y by omega) DD
        omega
      · intro h
        have := Int.mul_nonneg (show 0 ≤ -y by omega) (Int.le_of_lt DD)
        rw [Int.neg_mul] at this
        omega
    have sgs : ∀ y : Int, y * d3 N N < 0 ↔ y < 0 := fun y => by
      constructor
      · intro h
        refine Classical.byContradiction fun hc => ?_
        have := Int.mul_nonneg (show 0 ≤ y by omega) (Int.le_of_lt DD)
        omega
      · intro h
        have := Int.mul_pos (show 0 < -y by omega) DD
        rw [Int.neg_mul] at this
        omega
    have k1 : Kc 1 N ss s e be L G Q = (Q * g + 1).toNat := by
      refine (HC_Kc hn hr hB (by omega) Q).uniq ((HC_line (prim_0 pN) t0 Q 0 (Q * g + 1).toNat).iff fun X => ⟨?_, ?_⟩)
      · rintro ⟨h1, x, hx, ex⟩
        refine ⟨h1, ?_⟩
        rw [ex]
        refine ⟨bonds x, fun i hi => ?_⟩
        rcases sI i hi with ⟨s1, s2⟩ | ⟨s1, s2⟩
        · rw [s1, s2, up, sgn]; omega
        · rw [s1, s2, dn, ← Int.neg_mul, sgn]; omega
      · rintro ⟨h1, h2⟩
        obtain ⟨x, ex⟩ := put _ h2.1
        refine ⟨h1, x, ?_, ex⟩
        have a1 := h2.2 iD hiD
        have a2 := h2.2 jD hjD
        have b1 := (sI iD hiD)
        have e1 : e iD = d3 N t1 := by
          have g2 := hB.2.2.2.2.1.2 iD hiD
          rw [eD] at g2
          exact Sd_e g2 sdD
        have e2 : e jD = d3 (ng3 N) t0 := by
          have g2 := hB.2.2.2.2.1.2 jD hjD
          rw [fD] at g2
          exact Sd_e g2 sdn
        rw [eD, e1, ex, up, sgn] at a1
        rw [fD, e2, ex, dn, ← Int.neg_mul, sgn] at a2
        omega
    have k2 : Ki 1 N ss s e be L G Q = (Q * g - 1).toNat := by
      refine (HC_Ki hn hr hB (by omega) (by omega) Q).uniq ((HC_line (prim_0 pN) t0 Q 1 (Q * g - 1).toNat).iff fun X => ⟨?_, ?_⟩)
      · rintro ⟨h1, x, hx, ex⟩
        refine ⟨h1, ?_⟩
        rw [ex]
        refine ⟨bonds x, fun i hi => ?_⟩
        rcases sI i hi with ⟨s1, s2⟩ | ⟨s1, s2⟩
        · rw [s1, s2, up, sgs]; omega
        · rw [s1, s2, dn, ← Int.neg_mul, sgs]; omega
      · rintro ⟨h1, h2⟩
        obtain ⟨x, ex⟩ := put _ h2.1
        refine ⟨h1, x, ?_, ex⟩
        have a1 := h2.2 iD hiD
        have a2 := h2.2 jD hjD
        have e1 : e iD = d3 N t1 := by
          have g2 := hB.2.2.2.2.1.2 iD hiD
          rw [eD] at g2
          exact Sd_e g2 sdD
        have e2 : e jD = d3 (ng3 N) t0 := by
          have g2 := hB.2.2.2.2.1.2 jD hjD
          rw [fD] at g2
          exact Sd_e g2 sdn
        rw [eD, e1, ex, up, sgs] at a1
        rw [fD, e2, ex, dn, ← Int.neg_mul, sgs] at a2
        omega
    rw [k1, k2]
    omega
  · omega
  · omega
theorem grow_0 (hn : 1 ≤ n) (hr : ∀ v, Mm n p v → rc3 v) (hB : BodyP (Mm n p) 0 N cs c ss s e bd' be L G) {Q : Int} (hQ : 1 ≤ Q) : Kc 0 N ss s e be L G Q = 1 ∧ Ki 0 N ss s e be L G Q = 1 := by
  have ht0 : Mm n p (p 0) := ⟨0, by omega, rfl⟩
  have s0 : ss = 0 := by
    rcases Nat.eq_zero_or_pos ss with q | q
    · exact q
    · rcases hB.2.2.2.2.1.2 0 q with ⟨g, _⟩ | ⟨g, _⟩ | ⟨g, _⟩ <;> omega
  have key : ∀ X : V4, X = ((sm3 Q (p 0)).1, (sm3 Q (p 0)).2.1, (sm3 Q (p 0)).2.2, Q) ↔ X.2.2.2 = Q ∧ ∀ i, i < nbd 0 → d3 (bnd 0 N i) (v3of X) - be i * Q = 0 := fun X => by
    constructor
    · intro eX
      refine ⟨by rw [eX], fun i hi => ?_⟩
      have : v3of X = sm3 Q (p 0) := by rw [eX]; rfl
      rw [this, d3_comm, d3_sm, d3_comm, bond_all hB ht0 hi, Int.mul_comm]
      omega
    · rintro ⟨h1, h2⟩
      have := v3_iff.mp ((CB_in hB h2).1 rfl (p 0) ht0)
      obtain ⟨u1, u2, u3⟩ := this
      obtain ⟨y1, y2, y3, y4⟩ := X
      change y1 - Q * (p 0).1 = 0 at u1
      change y2 - Q * (p 0).2.1 = 0 at u2
      change y3 - Q * (p 0).2.2 = 0 at u3
      change y4 = Q at h1
      unfold sm3
      dsimp only
      rw [show y1 = Q * (p 0).1 by omega, show y2 = Q * (p 0).2.1 by omega, show y3 = Q * (p 0).2.2 by omega, h1]
  constructor
  · unfold Kc
    rw [if_neg (by omega), if_neg (by omega)]
    exact (HC_CB hn hr hB (by omega)).uniq ((HC.one _).iff fun X => (key X).trans ⟨fun h => ⟨h.1, h.2, fun i hi => by omega⟩, fun h => ⟨h.1, h.2.1⟩⟩)
  · unfold Ki
    rw [if_neg (by omega)]
    exact (HC_CI hn hr hB (by omega)).uniq ((HC.one _).iff fun X => (key X).trans ⟨fun h => ⟨h.1, h.2, fun i hi => by omega⟩, fun h => ⟨h.1, h.2.1⟩⟩)
end
/-- the numbers of the rule, six times over -/
def nu3 (f : Nat) (K : Int → Nat) : Int := if f = 3 then (K 3 : Int) - 3 * K 2 + 3 * K 1 - 1 else 0
def nu2 (f : Nat) (K : Int → Nat) : Int := if 2 ≤ f then 3 * ((K 2 : Int) - 2 * K 1 + 1 - nu3 f K) else 0
def nu1 (f : Nat) (K : Int → Nat) : Int := if 1 ≤ f then 6 * ((K 1 : Int) - 1) - nu2 f K - nu3 f K else 0
theorem grow_all {f : Nat} {N : V3} {cs : Nat} {c : Nat → V3} {ss : Nat} {s : Nat → V3} {e : Nat → Int} {bd' : Nat → V3} {be L G : Nat → Int} (h : GB f N cs c ss s e bd' be L G) {K I : Int → Nat} (hK : K = Kc f N ss s e be L G) (hI : I = Ki f N ss s e be L G) : (∀ k, 0 ≤ k → k ≤ 5 → 6 * (K k : Int) = nu3 f K * k ^ 3 + nu2 f K * k ^ 2 + nu1 f K * k + 6) ∧ ∀ k, 1 ≤ k → k ≤ 5 → (if f % 2 = 0 then 6 * (I k : Int) else -(6 * (I k : Int))) = nu3 f K * (-k) ^ 3 + nu2 f K * (-k) ^ 2 + nu1 f K * (-k) + 6 := by
  obtain ⟨n, p, hn, hr, hB⟩ := h
  have K0 : K 0 = 1 := by rw [hK]; rfl
  have pw3 : ∀ k : Int, (-k) ^ 3 = - (k ^ 3) := fun k => by grind
  have pw2 : ∀ k : Int, (-k) ^ 2 = k ^ 2 := fun k => by grind
  rcases hB.1 with ⟨rfl, _⟩ | ⟨rfl, _⟩ | ⟨rfl, _⟩ | ⟨rfl, _⟩
  · have n3 : nu3 0 K = 0 := rfl
    have n2 : nu2 0 K = 0 := rfl
    have n1 : nu1 0 K = 0 := rfl
    rw [n3, n2, n1]
    constructor
    · intro k k1 k2
      by_cases k0 : k = 0
      · rw [k0, K0]; decide
      · have := (grow_0 hn hr hB (Q := k) (by omega)).1
        rw [← hK] at this
        rw [this]; omega
    · intro k k1 k2
      have := (grow_0 hn hr hB (Q := k) (by omega)).2
      rw [← hI] at this
      rw [if_pos (by decide), this]; omega
  · obtain ⟨g, g1, hg⟩ := grow_1 hn hr hB
    rw [← hK, ← hI] at hg
    have n3 : nu3 1 K = 0 := rfl
    have n2 : nu2 1 K = 0 := rfl
    have n1 : nu1 1 K = 6 * g := by
      unfold nu1
      rw [n3, n2, if_pos (by omega), (hg 1 (by omega)).1]; omega
    rw [n3, n2, n1]
    constructor
    · intro k k1 k2
      by_cases k0 : k = 0
      · rw [k0, K0]; omega
      · rw [(hg k (by omega)).1]; grind
    · intro k k1 k2
      rw [if_neg (by decide), (hg k (by omega)).2]; grind
  · obtain ⟨h1, h2⟩ := grow_2 hn hr hB
    rw [← hK, K0] at h1
    rw [← hK, ← hI, K0] at h2
    have n3 : nu3 2 K = 0 := rfl
    have n2 : nu2 2 K = 3 * ((K 2 : Int) - 2 * K 1 + 1) := by
      unfold nu2
      rw [n3, if_pos (by omega)]; omega
    have n1 : nu1 2 K = 3 * (4 * K 1 - K 2 - 3) := by
      unfold nu1
      rw [n3, n2, if_pos (by omega)]; omega
    rw [n3, n2, n1]
    constructor
    · intro k k1 k2
      have := h1 k k1 k2
      grind
    · intro k k1 k2
      have := h2 k k1 k2
      rw [if_pos (by decide)]
      grind
  · obtain ⟨h1, h2⟩ := grow_3 hn hr hB
    rw [← hK, K0] at h1
    rw [← hK, ← hI, K0] at h2
    have n3 : nu3 3 K = ru3 K := by
      unfold nu3 ru3
      rw [if_pos rfl, K0]; omega
    have n2 : nu2 3 K = ru2 K := by
      unfold nu2 ru2
      rw [n3, if_pos (by omega), K0]; omega
    have n1 : nu1 3 K = ru1 K := by
      unfold nu1 ru1
      rw [n3, n2, if_pos (by omega), K0]; omega
    rw [n3, n2, n1]
    constructor
    · intro k k1 k2
      have := h1 k k1 k2
      omega
    · intro k k1 k2
      have := h2 k k1 k2
      rw [if_neg (by decide), pw3, pw2]
      grind
