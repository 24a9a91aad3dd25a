theorem isLane_i (p : Int32) : fX8_isLane p = some (if 0 ≤ p.toInt ∧ p.toInt ≤ 1 then 1 else 0) := by
  unfold fX8_isLane
  by_cases h : p = 0
  · rw [if_pos h, h]; rfl
  · rw [if_neg h]
    by_cases h1 : p = 1
    · rw [if_pos h1, h1]; rfl
    · rw [if_neg h1]
      have g0 : p.toInt ≠ 0 := fun q => h (Int32.toInt_inj.mp q)
      have g1 : p.toInt ≠ 1 := fun q => h1 (Int32.toInt_inj.mp q)
      rw [if_neg (by omega)]
theorem lane_c {p : Int32} (h : 0 ≤ p.toInt ∧ p.toInt ≤ 1) : p = 0 ∨ p = 1 := by
  rcases (show p.toInt = 0 ∨ p.toInt = 1 by omega) with q | q
  · exact Or.inl (Int32.toInt_inj.mp q)
  · exact Or.inr (Int32.toInt_inj.mp q)
theorem shI_i {p : Int32} (h : 0 ≤ p.toInt ∧ p.toInt ≤ 3) : shI p.toNatClampNeg = p.toInt.toNat ∧ p.toInt.toNat < 4 := by
  unfold shI
  rw [cl_i, if_pos (by omega)]
  omega
theorem sr_same {la si : Nat → Int32} {CE : Nat → Nat → Int64} {LA LE : Nat → Int32} {CM : Nat → Int64} (h : SRel la si CE LA LE CM) (i : Nat) : SRel (va_up la i (la i)) (va_up si i (si i)) (va_up CE i (CE i)) LA LE CM := by
  have e : ∀ {α : Type} (f : Nat → α), va_up f i (f i) = f := fun f => by funext j; unfold va_up; split <;> simp_all
  rw [e, e, e]
  exact h
theorem c_sheaf {la si : Nat → Int32} {CE : Nat → Nat → Int64} {LA LE : Nat → Int32} {CM : Nat → Int64} (h : SRel la si CE LA LE CM) (p1 p2 p3 : Int32) : ∃ (r la' si' : Int32) (CE' : Nat → Int64) (LA' LE' : Nat → Int32) (CM' : Nat → Int64), fX8_sheaf (la (shI p1.toNatClampNeg)) (si (shI p1.toNatClampNeg)) (CE (shI p1.toNatClampNeg)) p1 p2 p3 = some (r, la', si', CE') ∧ fX9_sheaf LA LE CM p1 p2 p3 = some (r, LA', LE', CM') ∧ SRel (va_up la (shI p1.toNatClampNeg) la') (va_up si (shI p1.toNatClampNeg) si') (va_up CE (shI p1.toNatClampNeg) CE') LA' LE' CM' := by
  unfold fX8_sheaf fX9_sheaf
  rw [isSheaf_i, isLane_i, in_i, in_i, i64_i, i64_i]
  simp only [bd, Option.bind_some, show (0 : Int64).toInt = 0 from rfl, show (3 : Int64).toInt = 3 from rfl, show (1 : Int64).toInt = 1 from rfl]
  by_cases c1 : 0 ≤ p1.toInt ∧ p1.toInt ≤ 3
  · simp only [if_pos c1, if_neg (show ¬ ((1 : Int32) = 0) by decide)]
    by_cases c2 : 0 ≤ p2.toInt ∧ p2.toInt ≤ 1
    · simp only [if_pos c2, if_neg (show ¬ ((1 : Int32) = 0) by decide)]
      by_cases c3 : p3 ≤ 36
      · simp only [if_pos c3]
        by_cases c4 : 0 ≤ p3
        · simp only [if_pos c4]
          rw [gd_ok c1.1 (by omega), gd_ok c1.1 (by omega)]
          have l3 := le_i.mp c3
          have l4 := le_i.mp c4
          rw [show (36 : Int32).toInt = 36 from rfl] at l3
          rw [show (0 : Int32).toInt = 0 from rfl] at l4
          obtain ⟨CE', e1, e2⟩ := renew_loop p2 p3 36 FU 0 (CE (shI p1.toNatClampNeg)) rfl (by decide) (by decide)
          obtain ⟨CM', g1, g2⟩ := sheaf_loop p1 c1 (upd LA p1.toNatClampNeg p2) (upd LE p1.toNatClampNeg p3) 36 FU 0 CM rfl (by decide) (by decide)
          unfold fX5_renew
          rw [e1, g1]
          obtain ⟨s1, s2⟩ := shI_i c1
          refine ⟨1, p2, p3, CE', upd LA p1.toNatClampNeg p2, upd LE p1.toNatClampNeg p3, CM', rfl, rfl, fun k hk => ?_⟩
          rw [s1, cl_i]
          obtain ⟨q1, q2, q3, q4, q5⟩ := h k hk
          dsimp only [va_up, upd]
          rw [show (0 : Int32).toInt = 0 from rfl] at e2 g2
          by_cases ek : k = p1.toInt.toNat
          · simp only [if_pos ek]
            refine ⟨Or.inr ⟨trivial, lane_c c2⟩, trivial, l4, l3, fun i hi => ?_⟩
            rw [g2, e2, if_pos (by omega), if_pos (by omega)]
          · simp only [if_neg ek]
            refine ⟨q1, q2, q3, q4, fun i hi => ?_⟩
            rw [g2, if_neg (by omega)]
            exact q5 i hi
        · simp only [if_neg c4]
          exact ⟨_, _, _, _, _, _, _, rfl, rfl, sr_same h _⟩
      · simp only [if_neg c3]
        exact ⟨_, _, _, _, _, _, _, rfl, rfl, sr_same h _⟩
    · simp only [if_neg c2, if_pos (show (0 : Int32) = 0 from rfl)]
      exact ⟨_, _, _, _, _, _, _, rfl, rfl, sr_same h _⟩
  · simp only [if_neg c1, if_pos (show (0 : Int32) = 0 from rfl)]
    exact ⟨_, _, _, _, _, _, _, rfl, rfl, sr_same h _⟩
