/-! flat bodies grow by the rule -/
theorem bez_nat : ∀ (k a b : Nat), a + b ≤ k → ∃ x y : Int, (a : Int) * x + b * y = (Nat.gcd a b : Nat) := by
  intro k
  induction k with
  | zero =>
    intro a b h
    obtain rfl : a = 0 := by omega
    obtain rfl : b = 0 := by omega
    exact ⟨0, 0, by simp⟩
  | succ k ih =>
    intro a b h
    by_cases ha : a = 0
    · subst ha
      exact ⟨0, 1, by rw [Nat.gcd_zero_left]; omega⟩
    · by_cases hb : b = 0
      · subst hb
        exact ⟨1, 0, by rw [Nat.gcd_zero_right]; omega⟩
      · by_cases hab : a ≤ b
        · obtain ⟨x, y, e⟩ := ih a (b - a) (by omega)
          refine ⟨x - y, y, ?_⟩
          have g : Nat.gcd a (b - a) = Nat.gcd a b := by
            rw [← Nat.gcd_add_self_right a (b - a), Nat.sub_add_cancel hab]
          rw [← g, ← e, show ((b - a : Nat) : Int) = (b : Int) - a by omega]
          grind
        · obtain ⟨x, y, e⟩ := ih (a - b) b (by omega)
          refine ⟨x, y - x, ?_⟩
          have g : Nat.gcd (a - b) b = Nat.gcd a b := by
            rw [← Nat.gcd_add_self_left b (a - b), Nat.sub_add_cancel (by omega)]
          rw [← g, ← e, show ((a - b : Nat) : Int) = (a : Int) - b by omega]
          grind
theorem bez_int (a b : Int) : ∃ x y : Int, a * x + b * y = (Nat.gcd a.natAbs b.natAbs : Nat) := by
  obtain ⟨x, y, e⟩ := bez_nat _ a.natAbs b.natAbs (Nat.le_refl _)
  have sg : ∀ c : Int, ∃ t : Int, ((c.natAbs : Nat) : Int) = c * t := fun c => by
    rcases Int.le_total 0 c with h | h
    · exact ⟨1, by omega⟩
    · exact ⟨-1, by omega⟩
  obtain ⟨t, ht⟩ := sg a
  obtain ⟨u, hu⟩ := sg b
  exact ⟨t * x, u * y, by rw [← e, ht, hu, Int.mul_assoc, Int.mul_assoc]⟩
theorem bez3 {N : V3} (h : prim N) : ∃ W : V3, d3 N W = 1 := by
  obtain ⟨x, y, e1⟩ := bez_int N.1 N.2.1
  obtain ⟨u, z, e2⟩ := bez_int (Nat.gcd N.1.natAbs N.2.1.natAbs : Nat) N.2.2
  rw [Int.natAbs_natCast] at e2
  refine ⟨(x * u, y * u, z), ?_⟩
  unfold prim gv at h
  rw [h, ← e1] at e2
  unfold d3
  dsimp only
  grind
section
variable {f : Nat} {N : V3} {cs : Nat} {c : Nat → V3} {ss : Nat} {s : Nat → V3} {e : Nat → Int} {bd' : Nat → V3} {be L G : Nat → Int} {n : Nat} {p : Nat → V3}
def eN (N : V3) (b : Int) : V4 := (N.1, N.2.1, N.2.2, -b)
theorem dt_eN (N : V3) (b : Int) (X : V4) : dt (eN N b) X = d3 N (v3of X) - b * X.2.2.2 := by unfold dt eN d3 v3of; grind
theorem CB_2 (X : V4) : CB 2 N ss s e be (v3of X) X.2.2.2 ↔ dt (eN N (be 0)) X = 0 ∧ ∀ g, g ∈ sL ss s e → 0 ≤ dt g X := by
  constructor
  · intro h
    refine ⟨by rw [dt_eN]; exact h.1 0 (by decide), fun g hg => ?_⟩
    obtain ⟨i, hi, rfl⟩ := sL_mem.mp hg
    rw [dt_sF]
    have := h.2 i hi
    omega
  · rintro ⟨h0, h⟩
    refine ⟨fun i hi => ?_, fun i hi => ?_⟩
    · obtain rfl : i = 0 := by unfold nbd at hi; simp at hi; omega
      rw [dt_eN] at h0
      exact h0
    · have := h _ (sL_mem.mpr ⟨i, hi, rfl⟩)
      rw [dt_sF] at this
      omega
theorem CI_2 (X : V4) : CI 2 N ss s e be (v3of X) X.2.2.2 ↔ dt (eN N (be 0)) X = 0 ∧ ∀ g, g ∈ sL ss s e → 0 < dt g X := by
  constructor
  · intro h
    refine ⟨by rw [dt_eN]; exact h.1 0 (by decide), fun g hg => ?_⟩
    obtain ⟨i, hi, rfl⟩ := sL_mem.mp hg
    rw [dt_sF]
    have := h.2 i hi
    omega
  · rintro ⟨h0, h⟩
    refine ⟨fun i hi => ?_, fun i hi => ?_⟩
    · obtain rfl : i = 0 := by unfold nbd at hi; simp at hi; omega
      rw [dt_eN] at h0
      exact h0
    · have := h _ (sL_mem.mpr ⟨i, hi, rfl⟩)
      rw [dt_sF] at this
      omega
theorem sides_2 (hn : 1 ≤ n) (hB : BodyP (Mm n p) 2 N cs c ss s e bd' be L G) (hN : prim N) : 1 ≤ ss := by
  refine Classical.byContradiction fun hc => ?_
  obtain ⟨m, m0, mN⟩ := perp1 (prim_0 hN)
  refine m0 (cone_0 hn hB (X := m) ⟨fun i hi => ?_, fun i hi => by omega⟩)
  obtain rfl : i = 0 := by unfold nbd at hi; simp at hi; omega
  show d3 N m - be 0 * 0 = 0
  rw [d3_comm, mN]
  omega
theorem grow_2 (hn : 1 ≤ n) (hr : ∀ v, Mm n p v → rc3 v) (hB : BodyP (Mm n p) 2 N cs c ss s e bd' be L G) : (∀ k, 0 ≤ k → k ≤ 5 → 2 * (Kc 2 N ss s e be L G k : Int) = ((Kc 2 N ss s e be L G 2 : Int) - 2 * Kc 2 N ss s e be L G 1 + Kc 2 N ss s e be L G 0) * k ^ 2 + (4 * Kc 2 N ss s e be L G 1 - Kc 2 N ss s e be L G 2 - 3 * Kc 2 N ss s e be L G 0) * k + 2 * Kc 2 N ss s e be L G 0) ∧ ∀ k, 1 ≤ k → k ≤ 5 → 2 * (Ki 2 N ss s e be L G k : Int) = ((Kc 2 N ss s e be L G 2 : Int) - 2 * Kc 2 N ss s e be L G 1 + Kc 2 N ss s e be L G 0) * k ^ 2 - (4 * Kc 2 N ss s e be L G 1 - Kc 2 N ss s e be L G 2 - 3 * Kc 2 N ss s e be L G 0) * k + 2 * Kc 2 N ss s e be L G 0 := by
  have hFD := hB.1
  rcases hFD with ⟨q, _⟩ | ⟨q, _⟩ | ⟨_, pN, lN, hflat, x, y, z, ⟨i0, hi0, e0⟩, ⟨i1, hi1, e1⟩, ⟨i2, hi2, e2⟩, hrow⟩ | ⟨q, _⟩
  · omega
  · omega
  · have s1 := sides_2 hn hB pN
    obtain ⟨W0, hW0⟩ := bez3 pN
    have hbe : ∀ t, Mm n p t → d3 N t = be 0 := fun t ht => bond_all hB ht (i := 0) (by decide)
    -- the apex
    have hW3 : d3 N (sm3 (1 + be 0) W0) = 1 + be 0 := by rw [d3_comm, d3_sm, d3_comm, hW0]; omega
    generalize sm3 (1 + be 0) W0 = W at hW3
    have hW : dt (eN N (be 0)) (v4of W) = 1 := by
      rw [dt_eN]
      show d3 N W - be 0 * 1 = 1
      omega
    obtain ⟨M, M', m1, m2, m3, m4, _, _⟩ := pyr_all hW (show (v4of W).2.2.2 = 1 from rfl) (S := sL ss s e) (Kc 2 N ss s e be L G) (Ki 2 N ss s e be L G) (fun Q => (HC_Kc hn hr hB (by omega) Q).iff fun X => ⟨fun ⟨h1, h2⟩ => ⟨h1, (CB_2 X).mp (by rw [h1]; exact h2)⟩, fun ⟨h1, h2⟩ => ⟨h1, by rw [← h1]; exact (CB_2 X).mpr h2⟩⟩) (fun k hk => by unfold Kc; rw [if_pos hk]) (fun Q => (HC_Ki hn hr hB (by omega) s1 Q).iff fun X => ⟨fun ⟨h1, h2⟩ => ⟨h1, (CI_2 X).mp (by rw [h1]; exact h2)⟩, fun ⟨h1, h2⟩ => ⟨h1, by rw [← h1]; exact (CI_2 X).mpr h2⟩⟩) (fun k hk => by unfold Ki; rw [if_pos hk])
    have hd : d3 (cr (sb3 y x) (sb3 z x)) (sb3 W x) ≠ 0 := by
      have nx : d3 N x = be 0 := hbe x ⟨i0, hi0, e0⟩
      have ny : d3 N y = be 0 := hbe y ⟨i1, hi1, e1⟩
      have nz : d3 N z = be 0 := hbe z ⟨i2, hi2, e2⟩
      have a1 : d3 N (sb3 y x) = 0 := by rw [d3_sb]; omega
      have a2 : d3 N (sb3 z x) = 0 := by rw [d3_sb]; omega
      have par : cr N (cr (sb3 y x) (sb3 z x)) = o3 := by
        have a1' : N.1 * (sb3 y x).1 + N.2.1 * (sb3 y x).2.1 + N.2.2 * (sb3 y x).2.2 = 0 := a1
        have a2' : N.1 * (sb3 z x).1 + N.2.1 * (sb3 z x).2.1 + N.2.2 * (sb3 z x).2.2 = 0 := a2
        generalize sb3 y x = a at a1'
        generalize sb3 z x = b at a2'
        unfold cr
        exact v3_ext (by show _ = (0 : Int); dsimp only; grind) (by show _ = (0 : Int); dsimp only; grind) (by show _ = (0 : Int); dsimp only; grind)
      obtain ⟨k, k0, ek⟩ := par_of pN hrow par
      rw [ek, d3_sm, d3_sb, hW3, nx]
      intro hk
      exact k0 (by omega)
    have vk : ∀ k, k < n → v4of (if k < n then p k else W) = v4of (p k) := fun k hk => by rw [if_pos hk]
    have vn : v4of (if n < n then p n else W) = v4of W := by rw [if_neg (by omega)]
    obtain ⟨sg, hF⟩ := Fr_four hd (fun i => (fun k => v4of (if k < n then p k else W)) (if i = 0 then i0 else if i = 1 then i1 else if i = 2 then i2 else n)) (by rw [← e0]; exact vk i0 hi0) (by rw [← e1]; exact vk i1 hi1) (by rw [← e2]; exact vk i2 hi2) vn
    have onp : ∀ k, k < n → dt (eN N (be 0)) (v4of (p k)) = 0 := fun k hk => by
      rw [dt_eN]
      have := hbe (p k) ⟨k, hk, rfl⟩
      show d3 N (p k) - be 0 * 1 = 0
      omega
    have gp : ∀ i, i < ss → ∀ k, k < n → 0 ≤ dt (sF (s i) (e i)) (v4of (p k)) := fun i hi k hk => by
      rw [dt_sF]
      have := side_all hB (t := p k) ⟨k, hk, rfl⟩ hi
      show 0 ≤ e i * 1 - d3 (s i) (p k)
      omega
    obtain ⟨β, b1, b2, b3⟩ := ehrhart (v := fun k => v4of (if k < n then p k else W)) (m := n + 1) (fun k _ => rfl) (B := fun i => if i = 0 then i0 else if i = 1 then i1 else if i = 2 then i2 else n) hF (fun i hi => by
        rcases (show i = 0 ∨ i = 1 ∨ i = 2 ∨ i = 3 by omega) with rfl | rfl | rfl | rfl
        · show i0 < n + 1; omega
        · show i1 < n + 1; omega
        · show i2 < n + 1; omega
        · show n < n + 1; omega) (pyS (eN N (be 0)) (v4of W) (sL ss s e)) (fun g hg k hk => by
        by_cases ck : k < n
        · refine pyS_all.mpr ?_ g hg
          rw [vk k ck, onp k ck]
          refine ⟨Int.le_refl _, fun g hg => ?_⟩
          obtain ⟨i, hi, rfl⟩ := sL_mem.mp hg
          have := gp i hi k ck
          omega
        · obtain rfl : k = n := by omega
          refine pyS_all.mpr ?_ g hg
          rw [vn, hW]
          exact ⟨by omega, fun g hg => by omega⟩) (fun ix fr d i hi hfr hix hpos X hX => by
        obtain ⟨k1, k2⟩ := pyS_all.mp hX
        have hY : 0 ≤ dt (fr i) (sb X (sm (dt (eN N (be 0)) X) (v4of W))) := by
          refine cone_g hn hB ((CB_2 _).mpr ⟨?_, fun g hg => ?_⟩) (fun h => by omega) (fun k hk => ?_)
          · rw [dt_sb, dt_sm, hW]; omega
          · rw [dt_sb, dt_sm, Int.mul_comm]
            exact k2 g hg
          · have := hpos k (by omega)
            rw [vk k hk] at this
            exact this
        have hw := hpos n (by omega)
        rw [vn] at hw
        rw [dt_sb, dt_sm] at hY
        have := Int.mul_nonneg k1 hw
        omega) (fun g hg => by
        unfold pyS at hg
        rcases List.mem_cons.mp hg with rfl | hg
        · exact ⟨n, by omega, by rw [vn, hW]; omega⟩
        · obtain ⟨g', hg', rfl⟩ := List.mem_map.mp hg
          obtain ⟨i, hi, rfl⟩ := sL_mem.mp hg'
          refine Classical.byContradiction fun hc => ?_
          have gi := hB.2.2.2.2.1.2 i hi
          have pr : prim (s i) ∧ d3 (s i) N = 0 := by
            rcases gi with ⟨q, _⟩ | ⟨_, q⟩ | ⟨q, _⟩
            · omega
            · exact ⟨q.1, q.2.1⟩
            · omega
          have nf : NF2 (Mm n p) N := NF2_row pN hflat (p := x) (q := y) (r := z) ⟨i0, hi0, e0⟩ ⟨i1, hi1, e1⟩ ⟨i2, hi2, e2⟩ hrow
          refine nf.2.2 (s i) (e i) pr.1 pr.2 ?_
          rintro v ⟨k, hk, rfl⟩
          have q1 := side_all hB (t := p k) ⟨k, hk, rfl⟩ hi
          have q2 : ¬ 0 < dt (ad (sF (s i) (e i)) (sm (- dt (sF (s i) (e i)) (v4of W)) (eN N (be 0)))) (v4of (p k)) := fun q => hc ⟨k, by omega, by rw [vk k hk]; exact q⟩
          rw [pyS_dt, onp k hk, dt_sF] at q2
          change ¬ 0 < e i * 1 - d3 (s i) (p k) - _ * 0 at q2
          omega) M M' m1 m2
    exact flat_num m3 m4 b1 b2 b3 (fun k hk => by unfold Kc; rw [if_pos hk]) (fun k hk => by unfold Ki; rw [if_pos hk])
  · omega
end
