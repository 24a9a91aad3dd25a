theorem c_all {la si : Nat → Int32} {CE : Nat → Nat → Int64} {LA LE : Nat → Int32} {CM : Nat → Int64} (h : SRel la si CE LA LE CM) (bc ds p1 : Int32) : ∃ r, fX8_all bc ds (la 0) (si 0) p1 = some r ∧ fX9_all ds bc LA LE p1 = some r := by
  obtain ⟨q1, q2, q3, q4, q5⟩ := h 0 (by omega)
  unfold fX8_all fX9_all
  by_cases c0 : p1 = 0
  · rw [if_pos c0, if_pos c0]; exact ⟨_, rfl, rfl⟩
  · rw [if_neg c0, if_neg c0]
    by_cases c1 : p1 = 1
    · rw [if_pos c1, if_pos c1]; exact ⟨_, rfl, rfl⟩
    · rw [if_neg c1, if_neg c1]
      by_cases c2 : p1 = 2
      · rw [if_pos c2, if_pos c2, gd_ok (by decide) (by decide), show (0 : Int32).toNatClampNeg = 0 from rfl]
        rcases q1 with ⟨z1, z2⟩ | ⟨z1, z2⟩
        · rw [if_pos z1, if_pos z2]; exact ⟨_, rfl, rfl⟩
        · have n1 : ¬ la 0 = -1 := by rcases z2 with z2 | z2 <;> rw [z2] <;> decide
          have n2 : ¬ LA 0 = -4 := by rw [z1]; rcases z2 with z2 | z2 <;> rw [z2] <;> decide
          rw [if_neg n1, if_neg n2, q2]; exact ⟨_, rfl, rfl⟩
      · rw [if_neg c2, if_neg c2]; exact ⟨_, rfl, rfl⟩
theorem c_clear (ds : Int32) : fX8_clear ds = some (ds, 0) ∧ fX9_clear ds = some (ds, 0) := ⟨rfl, rfl⟩
theorem DRel_0 (DX DY DZ DR : Nat → Int32) : DRel 0 DX DY DZ DR := ⟨by decide, by decide, fun k hk => by rw [show (0 : Int32).toInt = 0 from rfl] at hk; omega⟩
theorem SRel_0 : SRel (fun _ => -1) (fun _ => 0) (fun _ _ => 0) (upd (upd (upd (upd (fun _ => 0) (0 : Int32).toNatClampNeg (-4)) (1 : Int32).toNatClampNeg (-4)) (2 : Int32).toNatClampNeg (-4)) (3 : Int32).toNatClampNeg (-4)) (fun _ => 0) (fun _ => 0) := by
  intro k hk
  rcases four hk with rfl | rfl | rfl | rfl
  all_goals exact ⟨Or.inl ⟨rfl, rfl⟩, rfl, by decide, by decide, fun _ _ => rfl⟩
theorem c_drop0 : fX8_drop_no 0 = some (-4, 0) ∧ fX9_drop 0 = some (-4, 0) := ⟨rfl, rfl⟩
theorem c_drop {bc : Int32} (h0 : 1 ≤ bc.toInt) (h1 : bc.toInt ≤ 8) : fX8_drop_dr bc = some (bc - 1, bc - 1) ∧ fX9_drop bc = some (bc - 1, bc - 1) ∧ (bc - 1).toInt = bc.toInt - 1 := by
  have hs : (bc - 1).toInt = bc.toInt - 1 := by
    rw [sub_i (by rw [one_i]; omega) (by rw [one_i]; omega), one_i]
  have hn : ¬ bc = 0 := fun e => by rw [e, show (0 : Int32).toInt = 0 from rfl] at h0; omega
  unfold fX8_drop_dr fX9_drop
  rw [if_neg hn, if_neg hn, gd_ok (by omega) (by rw [hs]; omega)]
  exact ⟨rfl, rfl, hs⟩
