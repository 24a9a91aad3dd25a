/-- a form that is not nought is not nought on a frame -/
theorem form_nz {b f : Nat → V4} {d : Int} (h : Fr b f d) (g x : V4) (hx : dt g x ≠ 0) : ∃ q, q < 4 ∧ dt g (b q) ≠ 0 := by
  refine Classical.byContradiction fun hno => ?_
  have z : ∀ q, q < 4 → dt g (b q) = 0 := fun q hq => Classical.byContradiction fun hn => hno ⟨q, hq, hn⟩
  have e := Fr_dt h g x
  rw [s4_eq] at e
  have e2 : d * dt g x = dt (f 0) x * dt g (b 0) + dt (f 1) x * dt g (b 1) + dt (f 2) x * dt g (b 2) + dt (f 3) x * dt g (b 3) := e
  rw [z 0 (by omega), z 1 (by omega), z 2 (by omega), z 3 (by omega)] at e2
  have : d * dt g x = 0 := by omega
  rcases Int.mul_eq_zero.mp this with h1 | h1
  · have := h.1; omega
  · exact hx h1
theorem DF_scale {v : Nat → V4} {m : Nat} {w : Nat → Int} {ix : Nat → Nat} {f f' : Nat → V4} {d d' : Int} (h : DF v m w ix f d) (h' : Fr (fun i => v (ix i)) f' d') : DF v m w ix f' d' := by
  obtain ⟨h1, h2, h3⟩ := h
  refine ⟨h', h2, fun k hk => ?_⟩
  have e := gf_scale h1 h' w ix ix (fun _ _ => rfl) (v k)
  have p := h3 k hk
  have m1 : d' * dt (gf f w ix) (v k) ≤ d' * (d * w k) := Int.mul_le_mul_of_nonneg_left p (Int.le_of_lt h'.1)
  rw [← e] at m1
  have m2 : d * dt (gf f' w ix) (v k) ≤ d * (d' * w k) := by
    have : d' * (d * w k) = d * (d' * w k) := by grind
    omega
  exact Int.le_of_mul_le_mul_left m2 h1.1
theorem Fr_pos {b f f' : Nat → V4} {d d' : Int} (h : Fr b f d) (h' : Fr b f' d') {i : Nat} (hi : i < 4) {x : V4} (hx : 0 < dt (f i) x) : 0 < dt (f' i) x := by
  have e := Fr_same h h' i hi x
  have : 0 < d * dt (f' i) x := by rw [e]; exact Int.mul_pos h'.1 hx
  exact Int.pos_of_mul_pos_right this h.1
theorem sorted_eq {a b : Nat → Nat} (ha : a 0 < a 1 ∧ a 1 < a 2 ∧ a 2 < a 3) (hb : b 0 < b 1 ∧ b 1 < b 2 ∧ b 2 < b 3) (h : ∀ i, i < 4 → ∃ j, j < 4 ∧ b j = a i) : a 0 = b 0 ∧ a 1 = b 1 ∧ a 2 = b 2 ∧ a 3 = b 3 := by
  have k : ∀ i, i < 4 → a i = b 0 ∨ a i = b 1 ∨ a i = b 2 ∨ a i = b 3 := by
    intro i hi
    obtain ⟨j, hj, e⟩ := h i hi
    rcases four hj with rfl | rfl | rfl | rfl
    · exact Or.inl e.symm
    · exact Or.inr (Or.inl e.symm)
    · exact Or.inr (Or.inr (Or.inl e.symm))
    · exact Or.inr (Or.inr (Or.inr e.symm))
  have k0 := k 0 (by omega)
  have k1 := k 1 (by omega)
  have k2 := k 2 (by omega)
  have k3 := k 3 (by omega)
  omega
/-- the frames of all codes, chosen once -/
theorem pick_frames (v : Nat → V4) : ∃ F : Cd → (Nat → V4) × Int, ∀ c : Cd, (∃ f d, Fr (fun i => v (ixc c i)) f d) → Fr (fun i => v (ixc c i)) (F c).1 (F c).2 := by
  refine Classical.axiomOfChoice (r := fun (c : Cd) (p : (Nat → V4) × Int) => (∃ f d, Fr (fun i => v (ixc c i)) f d) → Fr (fun i => v (ixc c i)) p.1 p.2) fun c => ?_
  by_cases h : ∃ f d, Fr (fun i => v (ixc c i)) f d
  · obtain ⟨f, d, h⟩ := h
    exact ⟨(f, d), fun _ => h⟩
  · exact ⟨(fun _ => (0, 0, 0, 0), 0), fun h' => absurd h' h⟩
/-- a generic vector that keeps to the sides lies in a frame -/
theorem cover {v : Nat → V4} {m : Nat} {w : Nat → Int} {B : Nat → Nat} {f0 : Nat → V4} {d0 : Int} (h0 : DF v m w B f0 d0) {F : Cd → (Nat → V4) × Int} (hF : ∀ c : Cd, (∃ f d, Fr (fun i => v (ixc c i)) f d) → Fr (fun i => v (ixc c i)) (F c).1 (F c).2) (Y : V4)
    (hside : ∀ ix f d i, i < 4 → DF v m w ix f d → (∀ k, k < m → 0 ≤ dt (f i) (v k)) → 0 ≤ dt (f i) Y)
    (hgen : ∀ c, c ∈ cds m → (∃ f d, Fr (fun i => v (ixc c i)) f d) → ∀ i, i < 4 → dt ((F c).1 i) Y ≠ 0) :
    ∃ c, c ∈ cds m ∧ (c.1 < c.2.1 ∧ c.2.1 < c.2.2.1 ∧ c.2.2.1 < c.2.2.2.1 ∧ c.2.2.2.2 = 0) ∧ DF v m w (ixc c) (F c).1 (F c).2 ∧ ∀ i, i < 4 → 0 < dt ((F c).1 i) Y := by
  have code : ∀ (ix : Nat → Nat) (f : Nat → V4) (d : Int), DF v m w ix f d → (ix 0, ix 1, ix 2, ix 3, 0) ∈ cds m ∧ Fr (fun i => v (ixc (ix 0, ix 1, ix 2, ix 3, 0) i)) f d := fun ix f d h => ⟨cds_mem (h.2.1 0 (by omega)) (h.2.1 1 (by omega)) (h.2.1 2 (by omega)) (h.2.1 3 (by omega)) (by omega), Fr_congr (fun j hj => by rw [← ixc_eq ix 0 j hj]) h.1⟩
  have nz : ∀ (ix : Nat → Nat) (f : Nat → V4) (d : Int) (i : Nat), i < 4 → DF v m w ix f d → dt (f i) Y ≠ 0 := by
    intro ix f d i hi h hz
    obtain ⟨c1, c2⟩ := code ix f d h
    have hFc := hF _ ⟨f, d, c2⟩
    have e := Fr_same c2 hFc i hi Y
    rw [hz] at e
    have e2 : d * dt ((F (ix 0, ix 1, ix 2, ix 3, 0)).1 i) Y = 0 := by rw [e]; simp
    rcases Int.mul_eq_zero.mp e2 with h1 | h1
    · have := h.1.1; omega
    · exact hgen _ c1 ⟨f, d, c2⟩ i hi h1
  -- the end of the way: no two shares vanish at once
  have dfr : ∀ c : Cd, Decidable (∃ f d, Fr (fun i => v (ixc c i)) f d) := fun c => Classical.propDecidable _
  obtain ⟨k, hk, hC⟩ := gen_pt (fun i => v (B i)) ((cds m).flatMap fun c => if (∃ f d, Fr (fun i => v (ixc c i)) f d) then ((List.range 4).flatMap fun i => ((List.range 4).filter (fun j => decide (i ≠ j))).map fun j => ad (sm (dt ((F c).1 i) Y) ((F c).1 j)) (sm (- dt ((F c).1 j) Y) ((F c).1 i))) else []) (by
    intro g hg
    obtain ⟨c, hc, hg⟩ := List.mem_flatMap.mp hg
    by_cases hex : ∃ f d, Fr (fun i => v (ixc c i)) f d
    · rw [if_pos hex] at hg
      obtain ⟨i, hi, hg⟩ := List.mem_flatMap.mp hg
      obtain ⟨j, hj, rfl⟩ := List.mem_map.mp hg
      obtain ⟨hj, hij⟩ := List.mem_filter.mp hj
      have hij : i ≠ j := by simpa using hij
      have hi := List.mem_range.mp hi
      have hj := List.mem_range.mp hj
      have hFc := hF c hex
      refine form_nz h0.1 _ (v (ixc c j)) ?_
      rw [ad_dt, sm_dt, sm_dt]
      have a1 : dt ((F c).1 j) (v (ixc c j)) = (F c).2 := by have := hFc.2.1 j j hj hj; rw [if_pos rfl] at this; exact this
      have a2 : dt ((F c).1 i) (v (ixc c j)) = 0 := by have := hFc.2.1 i j hi hj; rw [if_neg hij] at this; exact this
      rw [a1, a2]
      intro hz
      have hz : dt ((F c).1 i) Y * (F c).2 = 0 := by simpa using hz
      rcases Int.mul_eq_zero.mp hz with h1 | h1
      · exact hgen c hc hex i hi h1
      · have := hFc.1; omega
    · rw [if_neg hex] at hg
      exact absurd hg List.not_mem_nil)
  have hCpos : ∀ i, i < 4 → 0 < dt (f0 i) (t4 k (fun i => v (B i))) := by
    intro i hi
    rw [dt_t4, s4_eq]
    have a0 : dt (f0 i) (v (B 0)) = if i = 0 then d0 else 0 := h0.1.2.1 i 0 hi (by omega)
    have a1 : dt (f0 i) (v (B 1)) = if i = 1 then d0 else 0 := h0.1.2.1 i 1 hi (by omega)
    have a2 : dt (f0 i) (v (B 2)) = if i = 2 then d0 else 0 := h0.1.2.1 i 2 hi (by omega)
    have a3 : dt (f0 i) (v (B 3)) = if i = 3 then d0 else 0 := h0.1.2.1 i 3 hi (by omega)
    rw [a0, a1, a2, a3]
    have := Int.mul_pos (hk i) h0.1.1
    rcases four hi with rfl | rfl | rfl | rfl <;> simpa using this
  obtain ⟨ix, f, d, hD, hY⟩ := tri_cover Y (t4 k (fun i => v (B i))) h0 hCpos hside nz (by
    intro ix f d i j hi hj hij h heq
    obtain ⟨c1, c2⟩ := code ix f d h
    have hFc := hF _ ⟨f, d, c2⟩
    have m1 := hC _ (List.mem_flatMap.mpr ⟨_, c1, by
      rw [if_pos ⟨f, d, c2⟩]
      exact List.mem_flatMap.mpr ⟨i, List.mem_range.mpr hi, List.mem_map.mpr ⟨j, List.mem_filter.mpr ⟨List.mem_range.mpr hj, by simpa using hij⟩, rfl⟩⟩⟩)
    rw [ad_dt, sm_dt, sm_dt] at m1
    have s1 := Fr_same c2 hFc i hi Y
    have s2 := Fr_same c2 hFc j hj Y
    have s3 := Fr_same c2 hFc i hi (t4 k (fun i => v (B i)))
    have s4 := Fr_same c2 hFc j hj (t4 k (fun i => v (B i)))
    generalize dt ((F (ix 0, ix 1, ix 2, ix 3, 0)).1 i) Y = p1 at *
    generalize dt ((F (ix 0, ix 1, ix 2, ix 3, 0)).1 j) Y = p2 at *
    generalize dt ((F (ix 0, ix 1, ix 2, ix 3, 0)).1 i) (t4 k (fun i => v (B i))) = p3 at *
    generalize dt ((F (ix 0, ix 1, ix 2, ix 3, 0)).1 j) (t4 k (fun i => v (B i))) = p4 at *
    have hd := h.1.1
    have z : d * (d * (p1 * p4 + -p2 * p3)) = 0 := by
      have e1 : d * (d * (p1 * p4 + -p2 * p3)) = (d * p1) * (d * p4) - (d * p2) * (d * p3) := by grind
      rw [e1, s1, s2, s3, s4]
      have e2 : ∀ q a b c e : Int, a * e = b * c → (q * a) * (q * e) - (q * b) * (q * c) = 0 := by
        intro q a b c e hh
        have : (q * a) * (q * e) - (q * b) * (q * c) = q * q * (a * e - b * c) := by grind
        rw [this, hh]; simp
      exact e2 _ _ _ _ _ heq
    rcases Int.mul_eq_zero.mp z with h1 | h1
    · omega
    · rcases Int.mul_eq_zero.mp h1 with h1 | h1
      · omega
      · exact m1 h1)
  obtain ⟨ix', f', hD', hRe, o1, o2, o3⟩ := sort4 hD
  obtain ⟨c1, c2⟩ := code ix' f' d hD'
  have hFc := hF _ ⟨f', d, c2⟩
  refine ⟨_, c1, ⟨o1, o2, o3, rfl⟩, DF_scale (DF_congr (ixc_eq ix' 0) hD') hFc, fun i hi => Fr_pos c2 hFc hi ?_⟩
  obtain ⟨a, ha, _, e⟩ := hRe i hi
  rw [e]
  exact hY a ha
