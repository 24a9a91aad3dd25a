theorem sr_sameC {la si : Nat → Int32} {CE : Nat → Nat → Int64} {LA LE : Nat → Int32} {CM : Nat → Int64} (h : SRel la si CE LA LE CM) (i : Nat) : SRel la si (va_up CE i (CE i)) LA LE CM := by
  have e : va_up CE i (CE i) = CE := by funext j; unfold va_up; split <;> simp_all
  rw [e]
  exact h
theorem c_lay {la si : Nat → Int32} {CE : Nat → Nat → Int64} {LA LE : Nat → Int32} {CM : Nat → Int64} (h : SRel la si CE LA LE CM) (p1 p2 : Int32) (p3 : Int64) : ∃ (r : Int32) (CE' CM' : Nat → Int64), fX8_lay (la (shI p1.toNatClampNeg)) (si (shI p1.toNatClampNeg)) (CE (shI p1.toNatClampNeg)) p1 p2 p3 = some (r, CE') ∧ fX9_lay LA LE CM p1 p2 p3 = some (r, CM') ∧ SRel la si (va_up CE (shI p1.toNatClampNeg) CE') LA LE CM' := by
  unfold fX8_lay fX9_lay
  rw [isSheaf_i, in_i, i64_i]
  simp only [bd, Option.bind_some, show (0 : Int64).toInt = 0 from rfl, show (3 : Int64).toInt = 3 from rfl]
  by_cases c1 : 0 ≤ p1.toInt ∧ p1.toInt ≤ 3
  · simp only [if_pos c1, if_neg (show ¬ ((1 : Int32) = 0) by decide)]
    rw [gd_ok c1.1 (by omega), gd_ok c1.1 (by omega)]
    obtain ⟨s1, s2⟩ := shI_i c1
    obtain ⟨q1, q2, q3, q4, q5⟩ := h _ s2
    rw [s1, show p1.toNatClampNeg = p1.toInt.toNat from rfl, q2, in_i, i64_i, i64_i]
    simp only [Option.bind_some, show (0 : Int64).toInt = 0 from rfl]
    have hs : (si p1.toInt.toNat - 1).toInt = (si p1.toInt.toNat).toInt - 1 := by
      rw [sub_i (by rw [one_i]; omega) (by rw [one_i]; omega), one_i]
    rw [hs]
    rcases q1 with ⟨z1, z2⟩ | ⟨z1, z2⟩
    · simp only [if_pos z1, if_pos z2]
      exact ⟨_, _, _, rfl, rfl, sr_sameC h _⟩
    · have n1 : ¬ la p1.toInt.toNat = -1 := by rcases z2 with z2 | z2 <;> rw [z2] <;> decide
      have n2 : ¬ LA p1.toInt.toNat = -4 := by rw [z1]; rcases z2 with z2 | z2 <;> rw [z2] <;> decide
      simp only [if_neg n1, if_neg n2]
      by_cases c2 : 0 ≤ p2.toInt ∧ p2.toInt ≤ (si p1.toInt.toNat).toInt - 1
      · have a1 : ¬ p2 < 0 := fun q => by have := lt_i.mp q; rw [show (0 : Int32).toInt = 0 from rfl] at this; omega
        have a2 : p2 < si p1.toInt.toNat := lt_i.mpr (by omega)
        have a3 : ¬ si p1.toInt.toNat ≤ p2 := fun q => by have := le_i.mp q; omega
        simp only [if_pos c2, if_neg (show ¬ ((1 : Int32) = 0) by decide), if_neg a1, if_pos a2]
        have m1 : (36 * p1).toInt = 36 * p1.toInt := by
          have := mul_i (x := 36) (y := p1) (by rw [show (36 : Int32).toInt = 36 from rfl]; omega) (by rw [show (36 : Int32).toInt = 36 from rfl]; omega)
          rw [show (36 : Int32).toInt = 36 from rfl] at this
          exact this
        have m2 : (36 * p1 + p2).toInt = 36 * p1.toInt + p2.toInt := by
          rw [add_i (by rw [m1]; omega) (by rw [m1]; omega), m1]
        have m3 : (36 * p1 + p2).toNatClampNeg = 36 * p1.toInt.toNat + p2.toInt.toNat := by rw [cl_i, m2]; omega
        have key : ∀ t : Int64, SRel la si (va_up CE p1.toInt.toNat (vp_updL (CE p1.toInt.toNat) p2.toNatClampNeg t)) LA LE (vp_updL CM (36 * p1 + p2).toNatClampNeg t) := by
          intro t k hk
          obtain ⟨r1, r2, r3, r4, r5⟩ := h k hk
          refine ⟨r1, r2, r3, r4, fun i hi => ?_⟩
          rw [m3, cl_i]
          dsimp only [va_up, vp_updL]
          by_cases ek : k = p1.toInt.toNat
          · rw [if_pos ek]
            dsimp only [vp_updL]
            by_cases ei : i = p2.toInt.toNat
            · rw [if_pos (by omega), if_pos ei]
            · rw [if_neg (by omega), if_neg ei, r5 i hi, ek]
          · rw [if_neg ek, if_neg (by omega)]
            exact r5 i hi
        have e1 : ∀ t, JX5_put_31 36 (la p1.toInt.toNat) (si p1.toInt.toNat) t p2 (CE p1.toInt.toNat) = some (vp_updL (CE p1.toInt.toNat) p2.toNatClampNeg t) := fun t => by unfold JX5_put_31; rw [gd_ok c2.1 (by omega)]
        have e2 : ∀ t, JX9_lay_75 LA LE t (36 * p1 + p2) CM = some (1, vp_updL CM (36 * p1 + p2).toNatClampNeg t) := fun t => by unfold JX9_lay_75; rw [gd_ok (by omega) (by rw [m2]; omega)]
        unfold fX5_put
        rw [z1]
        simp only [if_neg a1, if_neg a3, e1, e2]
        by_cases c3 : la p1.toInt.toNat = 0
        · simp only [if_pos c3, Option.bind_some]
          exact ⟨1, _, _, rfl, rfl, key _⟩
        · simp only [if_neg c3, Option.bind_some]
          exact ⟨1, _, _, rfl, rfl, key _⟩
      · simp only [if_neg c2, if_pos (show (0 : Int32) = 0 from rfl)]
        by_cases b1 : p2 < 0
        · simp only [if_pos b1]
          exact ⟨_, _, _, rfl, rfl, sr_sameC h _⟩
        · have g1 : ¬ p2.toInt < 0 := fun q => b1 (lt_i.mpr q)
          have b2 : ¬ p2 < si p1.toInt.toNat := fun q => by have := lt_i.mp q; omega
          simp only [if_neg b1, if_neg b2]
          exact ⟨_, _, _, rfl, rfl, sr_sameC h _⟩
  · simp only [if_neg c1, if_pos (show (0 : Int32) = 0 from rfl)]
    exact ⟨_, _, _, rfl, rfl, sr_sameC h _⟩
