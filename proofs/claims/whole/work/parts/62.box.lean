def Pk (f : Nat → V4) (s : Nat → Int) (d : Int) (J : Nat → Prop) (n : Int) (X : V4) : Prop := X.2.2.2 = n ∧ inB f s d J X
theorem k_step {b f : Nat → V4} {d : Int} (hF : Fr b f d) (s : Nat → Int) (J : Nat → Prop) (i : Nat) (hi : i < 4) (hh : (b i).2.2.2 = 1) (hJ : ¬ J i) (n : Int) {a c : Nat} (ha : HC (Pk f s d J n) a) (hc : HC (Pk f s d J (n - 1)) c) : ∃ e, HC (Pk f s d (fun j => J j ∨ j = i) n) e ∧ a = c + e := by
  obtain ⟨a1, a2, h1, h2, h3⟩ := ha.split (fun X => dt (f i) X < s i + d)
  have hd := hF.1
  have hm : HC (Pk f s d J (n - 1)) a2 := by
    refine h2.bij (fun X => sb X (b i)) (fun Y => ad Y (b i)) (fun X hX => ?_) (fun Y hY => ?_) (fun X => sb_ad X (b i)) (fun Y => ad_sb Y (b i))
    · obtain ⟨⟨e1, e2, e3⟩, e4⟩ := hX
      refine ⟨?_, fun j hj => ?_, fun j hj hJj => ?_⟩
      · show X.2.2.2 + -1 * (b i).2.2.2 = n - 1
        omega
      · rw [dt_sb, hF.2.1 j i hj hi]
        by_cases e : j = i
        · subst e
          rw [if_pos rfl]
          omega
        · rw [if_neg e]
          have := e2 j hj
          omega
      · rw [dt_sb, hF.2.1 j i hj hi, if_neg (fun e => hJ (by rw [← e]; exact hJj))]
        have := e3 j hj hJj
        omega
    · obtain ⟨e1, e2, e3⟩ := hY
      refine ⟨⟨?_, fun j hj => ?_, fun j hj hJj => ?_⟩, ?_⟩
      · show Y.2.2.2 + (b i).2.2.2 = n
        omega
      · rw [dt_ad, hF.2.1 j i hj hi]
        have := e2 j hj
        split <;> omega
      · rw [dt_ad, hF.2.1 j i hj hi, if_neg (fun e => hJ (by rw [← e]; exact hJj))]
        have := e3 j hj hJj
        omega
      · rw [dt_ad, hF.2.1 i i hi hi, if_pos rfl]
        have := e2 i hi
        omega
  refine ⟨a1, h1.iff (fun X => ?_), by have := hm.uniq hc; omega⟩
  constructor
  · rintro ⟨⟨e1, e2, e3⟩, e4⟩
    refine ⟨e1, e2, fun j hj hJj => ?_⟩
    rcases hJj with h | rfl
    · exact e3 j hj h
    · exact e4
  · rintro ⟨e1, e2, e3⟩
    exact ⟨⟨e1, e2, fun j hj h => e3 j hj (Or.inl h)⟩, e3 i hi (Or.inr rfl)⟩
/-- the fourth differences of a cone's counts are the counts of its box -/
theorem k_box {b f : Nat → V4} {d : Int} (hF : Fr b f d) (s : Nat → Int) (hh : ∀ i, i < 4 → (b i).2.2.2 = 1) (N : Int → Nat) (hN : ∀ n, HC (Pk f s d (fun _ => False) n) (N n)) :
    ∃ β : Int → Nat, (∀ n, HC (Pk f s d (fun _ => True) n) (β n)) ∧ ∀ n, (N n : Int) - 4 * N (n - 1) + 6 * N (n - 2) - 4 * N (n - 3) + N (n - 4) = β n := by
  have s0 : ∀ n, ∃ e, HC (Pk f s d (fun j => False ∨ j = 0) n) e ∧ N n = N (n - 1) + e := fun n => k_step hF s (fun _ => False) 0 (by omega) (hh 0 (by omega)) (fun h => h) n (hN n) (hN (n - 1))
  obtain ⟨N1, h1⟩ := Classical.axiomOfChoice s0
  have s1 : ∀ n, ∃ e, HC (Pk f s d (fun j => (False ∨ j = 0) ∨ j = 1) n) e ∧ N1 n = N1 (n - 1) + e := fun n => k_step hF s _ 1 (by omega) (hh 1 (by omega)) (by simp) n (h1 n).1 (h1 (n - 1)).1
  obtain ⟨N2, h2⟩ := Classical.axiomOfChoice s1
  have s2 : ∀ n, ∃ e, HC (Pk f s d (fun j => ((False ∨ j = 0) ∨ j = 1) ∨ j = 2) n) e ∧ N2 n = N2 (n - 1) + e := fun n => k_step hF s _ 2 (by omega) (hh 2 (by omega)) (by simp) n (h2 n).1 (h2 (n - 1)).1
  obtain ⟨N3, h3⟩ := Classical.axiomOfChoice s2
  have s3 : ∀ n, ∃ e, HC (Pk f s d (fun j => (((False ∨ j = 0) ∨ j = 1) ∨ j = 2) ∨ j = 3) n) e ∧ N3 n = N3 (n - 1) + e := fun n => k_step hF s _ 3 (by omega) (hh 3 (by omega)) (by simp) n (h3 n).1 (h3 (n - 1)).1
  obtain ⟨N4, h4⟩ := Classical.axiomOfChoice s3
  refine ⟨N4, fun n => (h4 n).1.iff (fun X => ?_), fun n => ?_⟩
  · constructor
    · rintro ⟨e1, e2, e3⟩
      exact ⟨e1, e2, fun j hj _ => e3 j hj (by omega)⟩
    · rintro ⟨e1, e2, e3⟩
      exact ⟨e1, e2, fun j hj _ => e3 j hj trivial⟩
  · have r : ∀ k : Int, n - k - 1 = n - (k + 1) := fun k => by omega
    have a0 := (h1 n).2
    have a1 := (h1 (n - 1)).2
    have a2 := (h1 (n - 2)).2
    have a3 := (h1 (n - 3)).2
    have b0 := (h2 n).2
    have b1 := (h2 (n - 1)).2
    have b2 := (h2 (n - 2)).2
    have c0 := (h3 n).2
    have c1 := (h3 (n - 1)).2
    have d0 := (h4 n).2
    rw [show n - 1 - 1 = n - 2 by omega] at a1 b1 c1
    rw [show n - 2 - 1 = n - 3 by omega] at a2 b2
    rw [show n - 3 - 1 = n - 4 by omega] at a3
    omega
theorem Fr_h {b f : Nat → V4} {d : Int} (hF : Fr b f d) (hh : ∀ i, i < 4 → (b i).2.2.2 = 1) (X : V4) : d * X.2.2.2 = dt (f 0) X + dt (f 1) X + dt (f 2) X + dt (f 3) X := by
  have h : d * X.2.2.2 = _ := congrArg (fun v : V4 => v.2.2.2) (hF.2.2 X)
  rw [t4_c4, hh 0 (by omega), hh 1 (by omega), hh 2 (by omega), hh 3 (by omega)] at h
  omega
/-- the box ends below 4 where one share is closed -/
theorem box_top {b f : Nat → V4} {d : Int} (hF : Fr b f d) (hh : ∀ i, i < 4 → (b i).2.2.2 = 1) (s : Nat → Int) (hs : ∀ i, i < 4 → 0 ≤ s i ∧ s i ≤ 1) (h0 : s 0 + s 1 + s 2 + s 3 ≤ 3) (n : Int) (hn : 4 ≤ n ∨ n < 0) (X : V4) : ¬ Pk f s d (fun _ => True) n X := by
  rintro ⟨e1, e2, e3⟩
  have h := Fr_h hF hh X
  have hd := hF.1
  have u0 := e3 0 (by omega) trivial
  have u1 := e3 1 (by omega) trivial
  have u2 := e3 2 (by omega) trivial
  have u3 := e3 3 (by omega) trivial
  have l0 := e2 0 (by omega)
  have l1 := e2 1 (by omega)
  have l2 := e2 2 (by omega)
  have l3 := e2 3 (by omega)
  have t0 := hs 0 (by omega)
  have t1 := hs 1 (by omega)
  have t2 := hs 2 (by omega)
  have t3 := hs 3 (by omega)
  rw [e1] at h
  rcases hn with hn | hn
  · have : d * 4 ≤ d * n := Int.mul_le_mul_of_nonneg_left hn (by omega)
    omega
  · have : d * n ≤ d * (-1) := Int.mul_le_mul_of_nonneg_left (by omega) (by omega)
    omega
/-- the box turned over -/
theorem box_turn {b f : Nat → V4} {d : Int} (hF : Fr b f d) (hh : ∀ i, i < 4 → (b i).2.2.2 = 1) (s : Nat → Int) (n : Int) {c : Nat} (h : HC (Pk f s d (fun _ => True) n) c) : HC (Pk f (fun i => 1 - s i) d (fun _ => True) (4 - n)) c := by
  have hb : ∀ i, i < 4 → dt (f i) (t4 (fun _ => 1) b) = d := by
    intro i hi
    rw [dt_t4, s4_eq, hF.2.1 i 0 hi (by omega), hF.2.1 i 1 hi (by omega), hF.2.1 i 2 hi (by omega), hF.2.1 i 3 hi (by omega)]
    rcases four hi with rfl | rfl | rfl | rfl <;> simp
  have h4 : (t4 (fun _ => 1) b).2.2.2 = 4 := by
    rw [t4_c4, hh 0 (by omega), hh 1 (by omega), hh 2 (by omega), hh 3 (by omega)]
    rfl
  refine h.bij (fun X => sb (t4 (fun _ => 1) b) X) (fun X => sb (t4 (fun _ => 1) b) X) (fun X hX => ?_) (fun Y hY => ?_) (fun X => sb_sb _ _) (fun X => sb_sb _ _)
  · obtain ⟨e1, e2, e3⟩ := hX
    refine ⟨?_, fun j hj => ?_, fun j hj _ => ?_⟩
    · show (t4 (fun _ => 1) b).2.2.2 + -1 * X.2.2.2 = 4 - n
      omega
    · show 1 - s j ≤ _
      rw [dt_sb, hb j hj]
      have := e3 j hj trivial
      omega
    · show _ < 1 - s j + d
      rw [dt_sb, hb j hj]
      have := e2 j hj
      omega
  · obtain ⟨e1, e2, e3⟩ := hY
    refine ⟨?_, fun j hj => ?_, fun j hj _ => ?_⟩
    · show (t4 (fun _ => 1) b).2.2.2 + -1 * Y.2.2.2 = n
      omega
    · rw [dt_sb, hb j hj]
      have : dt (f j) Y < 1 - s j + d := e3 j hj trivial
      omega
    · rw [dt_sb, hb j hj]
      have : 1 - s j ≤ dt (f j) Y := e2 j hj
      omega
