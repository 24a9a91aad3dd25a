/-- Ehrhart and Macdonald for what lies between points at height 1: the fourth differences of the counts, closed and within, are one row and that row turned over; the row ends before 4 -/
theorem ehrhart {v : Nat → V4} {m : Nat} (hv : ∀ k, k < m → (v k).2.2.2 = 1) {B : Nat → Nat} {f0 : Nat → V4} {d0 : Int} (h0 : Fr (fun i => v (B i)) f0 d0) (hB : ∀ i, i < 4 → B i < m) (S : List V4) (S1 : ∀ g, g ∈ S → ∀ k, k < m → 0 ≤ dt g (v k))
    (S2 : ∀ (ix : Nat → Nat) (f : Nat → V4) (d : Int) (i : Nat), i < 4 → Fr (fun i => v (ix i)) f d → (∀ i, i < 4 → ix i < m) → (∀ k, k < m → 0 ≤ dt (f i) (v k)) → ∀ X, (∀ g, g ∈ S → 0 ≤ dt g X) → 0 ≤ dt (f i) X) (S3 : ∀ g, g ∈ S → ∃ k, k < m ∧ 0 < dt g (v k))
    (N N' : Int → Nat) (hN : ∀ n, HC (fun X => X.2.2.2 = n ∧ ∀ g, g ∈ S → 0 ≤ dt g X) (N n)) (hN' : ∀ n, HC (fun X => X.2.2.2 = n ∧ ∀ g, g ∈ S → 0 < dt g X) (N' n)) :
    ∃ β : Int → Nat, (∀ n, (N n : Int) - 4 * N (n - 1) + 6 * N (n - 2) - 4 * N (n - 3) + N (n - 4) = β n) ∧ (∀ n, (N' n : Int) - 4 * N' (n - 1) + 6 * N' (n - 2) - 4 * N' (n - 3) + N' (n - 4) = β (4 - n)) ∧ ∀ n, 4 ≤ n ∨ n < 0 → β n = 0 := by
  obtain ⟨w, hw0, hw⟩ := tri_gen h0 hB
  obtain ⟨F, hF⟩ := pick_frames v
  have dfr : ∀ c : Cd, Decidable (∃ f d, Fr (fun i => v (ixc c i)) f d) := fun c => Classical.propDecidable _
  -- the middle
  obtain ⟨k, hk, hC⟩ := gen_pt (fun i => v (B i)) ((cds m).flatMap fun c => if (∃ f d, Fr (fun i => v (ixc c i)) f d) then (List.range 4).map fun i => (F c).1 i else []) (by
    intro g hg
    obtain ⟨c, hc, hg⟩ := List.mem_flatMap.mp hg
    by_cases hex : ∃ f d, Fr (fun i => v (ixc c i)) f d
    · rw [if_pos hex] at hg
      obtain ⟨i, hi, rfl⟩ := List.mem_map.mp hg
      have hi := List.mem_range.mp hi
      have hFc := hF c hex
      refine form_nz h0 _ (v (ixc c i)) ?_
      have a1 : dt ((F c).1 i) (v (ixc c i)) = (F c).2 := by have := hFc.2.1 i i hi hi; rw [if_pos rfl] at this; exact this
      rw [a1]
      have := hFc.1
      omega
    · rw [if_neg hex] at hg
      exact absurd hg List.not_mem_nil)
  generalize hCe : t4 k (fun i => v (B i)) = C at hC
  have hCn : ∀ c, c ∈ cds m → (∃ f d, Fr (fun i => v (ixc c i)) f d) → ∀ i, i < 4 → dt ((F c).1 i) C ≠ 0 := by
    intro c hc hex i hi
    exact hC _ (List.mem_flatMap.mpr ⟨c, hc, by rw [if_pos hex]; exact List.mem_map.mpr ⟨i, List.mem_range.mpr hi, rfl⟩⟩)
  have hCh : 0 < C.2.2.2 := by
    rw [← hCe, t4_c4, hv _ (hB 0 (by omega)), hv _ (hB 1 (by omega)), hv _ (hB 2 (by omega)), hv _ (hB 3 (by omega))]
    have := hk 0
    have := hk 1
    have := hk 2
    have := hk 3
    omega
  have hgC : ∀ g, g ∈ S → 0 < dt g C := by
    intro g hg
    obtain ⟨kk, hkm, hpos⟩ := S3 g hg
    obtain ⟨q, hq, hne⟩ := form_nz h0 g (v kk) (by omega)
    have nn : ∀ i, i < 4 → 0 ≤ dt g (v (B i)) := fun i hi => S1 g hg _ (hB i hi)
    have t : ∀ i, i < 4 → 0 ≤ k i * dt g (v (B i)) := fun i hi => Int.mul_nonneg (Int.le_of_lt (hk i)) (nn i hi)
    have tq : 0 < k q * dt g (v (B q)) := Int.mul_pos (hk q) (by have := nn q hq; have hne : dt g (v (B q)) ≠ 0 := hne; omega)
    rw [← hCe, dt_t4, s4_eq]
    have t0 := t 0 (by omega)
    have t1 := t 1 (by omega)
    have t2 := t 2 (by omega)
    have t3 := t 3 (by omega)
    rcases four hq with rfl | rfl | rfl | rfl <;> omega
  -- how far the middle is weighed down
  obtain ⟨T1, hT1, hbd⟩ := fin_bd (fun g => dt g C) (S ++ (cds m).flatMap fun c => (List.range 4).map fun i => (F c).1 i)
  have bS : ∀ g, g ∈ S → - (T1 - 1) ≤ dt g C ∧ dt g C ≤ T1 - 1 := fun g hg => hbd g (List.mem_append_left _ hg)
  have bF : ∀ c, c ∈ cds m → ∀ i, i < 4 → - (T1 - 1) ≤ dt ((F c).1 i) C ∧ dt ((F c).1 i) C ≤ T1 - 1 := fun c hc i hi => hbd _ (List.mem_append_right _ (List.mem_flatMap.mpr ⟨c, hc, List.mem_map.mpr ⟨i, List.mem_range.mpr hi, rfl⟩⟩))
  have big : ∀ x : Int, 1 ≤ x → T1 ≤ T1 * x := fun x hx => by
    have := Int.mul_le_mul_of_nonneg_left hx (show 0 ≤ T1 by omega)
    omega
  have small : ∀ x : Int, x ≤ -1 → T1 * x ≤ - T1 := fun x hx => by
    have := Int.mul_le_mul_of_nonneg_left hx (show 0 ≤ T1 by omega)
    omega
  -- the frames
  have dD : ∀ c : Cd, Decidable ((c.1 < c.2.1 ∧ c.2.1 < c.2.2.1 ∧ c.2.2.1 < c.2.2.2.1 ∧ c.2.2.2.2 = 0) ∧ DF v m w (ixc c) (F c).1 (F c).2) := fun c => Classical.propDecidable _
  obtain ⟨T, hTn, hTm⟩ := dedup ((cds m).filter (fun c => decide ((c.1 < c.2.1 ∧ c.2.1 < c.2.2.1 ∧ c.2.2.1 < c.2.2.2.1 ∧ c.2.2.2.2 = 0) ∧ DF v m w (ixc c) (F c).1 (F c).2)))
  have hT : ∀ c, c ∈ T ↔ c ∈ cds m ∧ (c.1 < c.2.1 ∧ c.2.1 < c.2.2.1 ∧ c.2.2.1 < c.2.2.2.1 ∧ c.2.2.2.2 = 0) ∧ DF v m w (ixc c) (F c).1 (F c).2 := fun c => by
    rw [hTm c, List.mem_filter]
    simp
  have exF : ∀ c, c ∈ T → ∃ f d, Fr (fun i => v (ixc c i)) f d := fun c hc => ⟨_, _, ((hT c).mp hc).2.2.1⟩
  have one : ∀ c c' Y, c ∈ T → c' ∈ T → (∀ i, i < 4 → 0 < dt ((F c).1 i) Y) → (∀ i, i < 4 → 0 < dt ((F c').1 i) Y) → c = c' := by
    intro c c' Y hc hc' h1 h2
    obtain ⟨_, ⟨o1, o2, o3, o4⟩, hD⟩ := (hT c).mp hc
    obtain ⟨_, ⟨p1, p2, p3, p4⟩, hD'⟩ := (hT c').mp hc'
    have hs := sorted_eq (a := ixc c) (b := ixc c') ⟨o1, o2, o3⟩ ⟨p1, p2, p3⟩ (tri_same hw hD hD' Y h1 h2)
    obtain ⟨a, b, d, e, i⟩ := c
    obtain ⟨a', b', d', e', i'⟩ := c'
    obtain ⟨e1, e2, e3, e4⟩ := hs
    have e1 : a = a' := e1
    have e2 : b = b' := e2
    have e3 : d = d' := e3
    have e4 : e = e' := e4
    have o4 : i = 0 := o4
    have p4 : i' = 0 := p4
    rw [e1, e2, e3, e4, o4, p4]
  have cov : ∀ Y, (∀ g, g ∈ S → 0 ≤ dt g Y) → (∀ c, c ∈ cds m → (∃ f d, Fr (fun i => v (ixc c i)) f d) → ∀ i, i < 4 → dt ((F c).1 i) Y ≠ 0) → ∃ c, c ∈ T ∧ ∀ i, i < 4 → 0 < dt ((F c).1 i) Y := by
    intro Y hY hg
    obtain ⟨c, h1, h2, h3, h4⟩ := cover hw0 hF Y (fun ix f d i hi hD hall => S2 ix f d i hi hD.1 hD.2.1 hall Y hY) hg
    exact ⟨c, (hT c).mpr ⟨h1, h2, h3⟩, h4⟩
  have dsm : ∀ c i, Decidable (0 < dt ((F c).1 i) C) := fun c i => inferInstance
  have yp : ∀ g X, dt g (ad (sm T1 X) C) = T1 * dt g X + dt g C := fun g X => by rw [dt_ad, dt_sm]
  have ym : ∀ g X, dt g (ad (sm T1 X) (sm (-1) C)) = T1 * dt g X - dt g C := fun g X => by rw [dt_ad, dt_sm, dt_sm]; omega
  have hcl : ∀ c, c ∈ T → ∀ X, (∀ i, i < 4 → 0 ≤ dt ((F c).1 i) X) → ∀ g, g ∈ S → 0 ≤ dt g X := by
    intro c hc X hX g hg
    obtain ⟨_, _, hD⟩ := (hT c).mp hc
    have e := Fr_dt hD.1 g X
    rw [s4_eq] at e
    have t : ∀ i, i < 4 → 0 ≤ dt ((F c).1 i) X * dt g (v (ixc c i)) := fun i hi => Int.mul_nonneg (hX i hi) (S1 g hg _ (hD.2.1 i hi))
    have t0 := t 0 (by omega)
    have t1 := t 1 (by omega)
    have t2 := t 2 (by omega)
    have t3 := t 3 (by omega)
    exact Int.nonneg_of_mul_nonneg_right (show 0 ≤ (F c).2 * dt g X by omega) hD.1.1
  -- closed: the shares at the point moved towards the middle
  have inP : ∀ c, c ∈ T → ∀ X, inK (F c).1 (fun i => if 0 < dt ((F c).1 i) C then 0 else 1) X ↔ ∀ i, i < 4 → 0 < dt ((F c).1 i) (ad (sm T1 X) C) := by
    intro c hc X
    obtain ⟨hcm, _, _⟩ := (hT c).mp hc
    constructor
    · intro h i hi
      have h1 : (if 0 < dt ((F c).1 i) C then (0 : Int) else 1) ≤ dt ((F c).1 i) X := h i hi
      have hb := bF c hcm i hi
      rw [yp]
      by_cases hp : 0 < dt ((F c).1 i) C
      · rw [if_pos hp] at h1
        have := Int.mul_nonneg (show 0 ≤ T1 by omega) h1
        omega
      · rw [if_neg hp] at h1
        have := big _ h1
        omega
    · intro h i hi
      have h1 := h i hi
      rw [yp] at h1
      have hb := bF c hcm i hi
      show (if 0 < dt ((F c).1 i) C then (0 : Int) else 1) ≤ dt ((F c).1 i) X
      refine Classical.byContradiction fun hn => ?_
      by_cases hp : 0 < dt ((F c).1 i) C
      · rw [if_pos hp] at hn
        have := small (dt ((F c).1 i) X) (by omega)
        omega
      · rw [if_neg hp] at hn
        have := Int.mul_le_mul_of_nonneg_left (show dt ((F c).1 i) X ≤ 0 by omega) (show 0 ≤ T1 by omega)
        omega
  have inM : ∀ c, c ∈ T → ∀ X, inK (F c).1 (fun i => 1 - if 0 < dt ((F c).1 i) C then 0 else 1) X ↔ ∀ i, i < 4 → 0 < dt ((F c).1 i) (ad (sm T1 X) (sm (-1) C)) := by
    intro c hc X
    obtain ⟨hcm, _, _⟩ := (hT c).mp hc
    constructor
    · intro h i hi
      have h1 : 1 - (if 0 < dt ((F c).1 i) C then (0 : Int) else 1) ≤ dt ((F c).1 i) X := h i hi
      have hb := bF c hcm i hi
      have hne := hCn c hcm (exF c hc) i hi
      rw [ym]
      by_cases hp : 0 < dt ((F c).1 i) C
      · rw [if_pos hp] at h1
        have := big (dt ((F c).1 i) X) (by omega)
        omega
      · rw [if_neg hp] at h1
        have := Int.mul_nonneg (show 0 ≤ T1 by omega) (show 0 ≤ dt ((F c).1 i) X by omega)
        omega
    · intro h i hi
      have h1 := h i hi
      rw [ym] at h1
      have hb := bF c hcm i hi
      show 1 - (if 0 < dt ((F c).1 i) C then (0 : Int) else 1) ≤ dt ((F c).1 i) X
      refine Classical.byContradiction fun hn => ?_
      by_cases hp : 0 < dt ((F c).1 i) C
      · rw [if_pos hp] at hn
        have := Int.mul_le_mul_of_nonneg_left (show dt ((F c).1 i) X ≤ 0 by omega) (show 0 ≤ T1 by omega)
        omega
      · rw [if_neg hp] at hn
        have := small (dt ((F c).1 i) X) (by omega)
        omega
  have gen1 : ∀ X c, c ∈ cds m → (∃ f d, Fr (fun i => v (ixc c i)) f d) → ∀ i, i < 4 → T1 * dt ((F c).1 i) X + dt ((F c).1 i) C ≠ 0 ∧ T1 * dt ((F c).1 i) X - dt ((F c).1 i) C ≠ 0 := by
    intro X c hc hex i hi
    have hb := bF c hc i hi
    have hne := hCn c hc hex i hi
    by_cases z : dt ((F c).1 i) X = 0
    · rw [z]
      constructor <;> simp <;> omega
    · by_cases p : 0 < dt ((F c).1 i) X
      · have := big (dt ((F c).1 i) X) (by omega)
        omega
      · have := small (dt ((F c).1 i) X) (by omega)
        omega
  refine ehr_sum T hTn (fun c i => v (ixc c i)) (fun c => (F c).1) (fun c => (F c).2) (fun c i => if 0 < dt ((F c).1 i) C then 0 else 1) (fun c hc => ((hT c).mp hc).2.2.1) (fun c hc i hi => hv _ (((hT c).mp hc).2.2.2.1 i hi)) (fun c hc => ⟨fun i hi => by split <;> omega, ?_⟩) (fun X => ∀ g, g ∈ S → 0 ≤ dt g X) (fun X => ∀ g, g ∈ S → 0 < dt g X) (fun X => ⟨fun hX => ?_, fun ⟨c, hc, hX⟩ => ?_⟩) (fun X => ⟨fun hX => ?_, fun ⟨c, hc, hX⟩ g hg => ?_⟩) (fun c c' X hc hc' h1 h2 => one c c' _ hc hc' ((inP c hc X).mp h1) ((inP c' hc' X).mp h2)) (fun c c' X hc hc' h1 h2 => one c c' _ hc hc' ((inM c hc X).mp h1) ((inM c' hc' X).mp h2)) N N' hN hN'
  · have hD := ((hT c).mp hc).2.2
    have e := Fr_h hD.1 (fun i hi => hv _ (hD.2.1 i hi)) C
    have := Int.mul_pos hD.1.1 hCh
    refine Classical.byContradiction fun hn => ?_
    have q : ∀ i, (if 0 < dt ((F c).1 i) C then (0 : Int) else 1) ≤ 1 ∧ (0 < dt ((F c).1 i) C → (if 0 < dt ((F c).1 i) C then (0 : Int) else 1) = 0) := fun i => ⟨by split <;> omega, fun h => if_pos h⟩
    have q0 := q 0
    have q1 := q 1
    have q2 := q 2
    have q3 := q 3
    have z0 : ¬ 0 < dt ((F c).1 0) C := fun h => by have := q0.2 h; omega
    have z1 : ¬ 0 < dt ((F c).1 1) C := fun h => by have := q1.2 h; omega
    have z2 : ¬ 0 < dt ((F c).1 2) C := fun h => by have := q2.2 h; omega
    have z3 : ¬ 0 < dt ((F c).1 3) C := fun h => by have := q3.2 h; omega
    omega
  · obtain ⟨c, hc, hp⟩ := cov (ad (sm T1 X) C) (fun g hg => by
      rw [yp]
      have := Int.mul_nonneg (show 0 ≤ T1 by omega) (hX g hg)
      have := hgC g hg
      omega) (fun c hc hex i hi => by rw [yp]; exact (gen1 X c hc hex i hi).1)
    exact ⟨c, hc, (inP c hc X).mpr hp⟩
  · refine hcl c hc X (fun i hi => ?_)
    have h1 : (if 0 < dt ((F c).1 i) C then (0 : Int) else 1) ≤ dt ((F c).1 i) X := hX i hi
    split at h1 <;> omega
  · obtain ⟨c, hc, hp⟩ := cov (ad (sm T1 X) (sm (-1) C)) (fun g hg => by
      rw [ym]
      have := big _ (show 1 ≤ dt g X by have := hX g hg; omega)
      have := bS g hg
      omega) (fun c hc hex i hi => by rw [ym]; exact (gen1 X c hc hex i hi).2)
    exact ⟨c, hc, (inM c hc X).mpr hp⟩
  · have hD := ((hT c).mp hc).2.2
    have hnn : ∀ i, i < 4 → 0 ≤ dt ((F c).1 i) X := fun i hi => by
      have h1 : 1 - (if 0 < dt ((F c).1 i) C then (0 : Int) else 1) ≤ dt ((F c).1 i) X := hX i hi
      split at h1 <;> omega
    have h2 := hcl c hc X hnn g hg
    refine Classical.byContradiction fun hn => ?_
    have hz : dt g X = 0 := by omega
    have e := Fr_dt hD.1 g X
    have eC := Fr_dt hD.1 g C
    rw [s4_eq] at e eC
    rw [hz] at e
    have t : ∀ i, i < 4 → 0 ≤ dt ((F c).1 i) X * dt g (v (ixc c i)) := fun i hi => Int.mul_nonneg (hnn i hi) (S1 g hg _ (hD.2.1 i hi))
    have t0 := t 0 (by omega)
    have t1 := t 1 (by omega)
    have t2 := t 2 (by omega)
    have t3 := t 3 (by omega)
    have te : ∀ i, i < 4 → dt ((F c).1 i) X * dt g (v (ixc c i)) = 0 := by
      intro i hi
      rcases four hi with rfl | rfl | rfl | rfl <;> omega
    have u : ∀ i, i < 4 → dt ((F c).1 i) C * dt g (v (ixc c i)) ≤ 0 := by
      intro i hi
      rcases Int.mul_eq_zero.mp (te i hi) with h | h
      · have h1 : 1 - (if 0 < dt ((F c).1 i) C then (0 : Int) else 1) ≤ dt ((F c).1 i) X := hX i hi
        have hp : ¬ 0 < dt ((F c).1 i) C := fun hp => by rw [if_pos hp] at h1; omega
        have := Int.mul_nonneg (show 0 ≤ - dt ((F c).1 i) C by omega) (S1 g hg _ (hD.2.1 i hi))
        have e2 : - dt ((F c).1 i) C * dt g (v (ixc c i)) = - (dt ((F c).1 i) C * dt g (v (ixc c i))) := by grind
        omega
      · rw [h]; simp
    have u0 := u 0 (by omega)
    have u1 := u 1 (by omega)
    have u2 := u 2 (by omega)
    have u3 := u 3 (by omega)
    have := Int.mul_pos hD.1.1 (hgC g hg)
    omega
