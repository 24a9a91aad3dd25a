/-! a flat body and the pyramid over it -/
def pyS (e0 W : V4) (S : List V4) : List V4 := e0 :: S.map (fun g => ad g (sm (- dt g W) e0))
theorem pyS_dt (e0 W g X : V4) : dt (ad g (sm (- dt g W) e0)) X = dt g X - dt g W * dt e0 X := by
  rw [ad_dt, sm_dt]
  grind
theorem HC.no {p : V4 → Prop} (h : HC p 0) (X : V4) : ¬ p X := by
  obtain ⟨L, _, h2, h3⟩ := h
  intro hX
  have := (h2 X).mpr hX
  rw [List.length_eq_zero_iff.mp h3] at this
  exact absurd this List.not_mem_nil
theorem pyS_all {e0 W : V4} {S : List V4} {X : V4} : (∀ g, g ∈ pyS e0 W S → 0 ≤ dt g X) ↔ 0 ≤ dt e0 X ∧ ∀ g, g ∈ S → 0 ≤ dt g X - dt g W * dt e0 X := by
  unfold pyS
  constructor
  · intro h
    refine ⟨h e0 List.mem_cons_self, fun g hg => ?_⟩
    have := h _ (List.mem_cons_of_mem _ (List.mem_map.mpr ⟨g, hg, rfl⟩))
    rw [pyS_dt] at this
    exact this
  · rintro ⟨h1, h2⟩ g hg
    rcases List.mem_cons.mp hg with rfl | hg
    · exact h1
    · obtain ⟨g', hg', rfl⟩ := List.mem_map.mp hg
      rw [pyS_dt]
      exact h2 g' hg'
theorem pyS_all' {e0 W : V4} {S : List V4} {X : V4} : (∀ g, g ∈ pyS e0 W S → 0 < dt g X) ↔ 0 < dt e0 X ∧ ∀ g, g ∈ S → 0 < dt g X - dt g W * dt e0 X := by
  unfold pyS
  constructor
  · intro h
    refine ⟨h e0 List.mem_cons_self, fun g hg => ?_⟩
    have := h _ (List.mem_cons_of_mem _ (List.mem_map.mpr ⟨g, hg, rfl⟩))
    rw [pyS_dt] at this
    exact this
  · rintro ⟨h1, h2⟩ g hg
    rcases List.mem_cons.mp hg with rfl | hg
    · exact h1
    · obtain ⟨g', hg', rfl⟩ := List.mem_map.mp hg
      rw [pyS_dt]
      exact h2 g' hg'
section PYR
variable {e0 W : V4} {S : List V4} (hW : dt e0 W = 1) (hWh : W.2.2.2 = 1)
theorem pyr_step (n : Int) {c a : Nat} (hc : HC (fun X => X.2.2.2 = n - 1 ∧ ∀ g, g ∈ pyS e0 W S → 0 ≤ dt g X) c) (ha : HC (fun X => X.2.2.2 = n ∧ dt e0 X = 0 ∧ ∀ g, g ∈ S → 0 ≤ dt g X) a) (hW : dt e0 W = 1) (hWh : W.2.2.2 = 1) : HC (fun X => X.2.2.2 = n ∧ ∀ g, g ∈ pyS e0 W S → 0 ≤ dt g X) (c + a) := by
  have h1 : HC (fun X => X.2.2.2 = n ∧ 1 ≤ dt e0 X ∧ ∀ g, g ∈ pyS e0 W S → 0 ≤ dt g X) c := by
    refine hc.bij (fun X => ad X W) (fun X => sb X W) (fun X hX => ?_) (fun Y hY => ?_) (fun X => ad_sb X W) (fun X => sb_ad X W)
    · obtain ⟨e1, e2⟩ := hX
      obtain ⟨q1, q2⟩ := pyS_all.mp e2
      refine ⟨?_, ?_, pyS_all.mpr ⟨?_, fun g hg => ?_⟩⟩
      · show X.2.2.2 + W.2.2.2 = n
        omega
      · rw [dt_ad, hW]; omega
      · rw [dt_ad, hW]; omega
      · rw [dt_ad, dt_ad, hW]
        have := q2 g hg
        have e : dt g W * (dt e0 X + 1) = dt g W * dt e0 X + dt g W := by grind
        omega
    · obtain ⟨e1, e2, e3⟩ := hY
      obtain ⟨q1, q2⟩ := pyS_all.mp e3
      refine ⟨?_, pyS_all.mpr ⟨?_, fun g hg => ?_⟩⟩
      · show Y.2.2.2 + -1 * W.2.2.2 = n - 1
        omega
      · rw [dt_sb, hW]; omega
      · rw [dt_sb, dt_sb, hW]
        have := q2 g hg
        have e : dt g W * (dt e0 Y - 1) = dt g W * dt e0 Y - dt g W := by grind
        omega
  refine (h1.sum ha (fun X hX hX' => by have := hX.2.1; have := hX'.2.1; omega)).iff (fun X => ?_)
  constructor
  · rintro (⟨e1, _, e3⟩ | ⟨e1, e2, e3⟩)
    · exact ⟨e1, e3⟩
    · refine ⟨e1, pyS_all.mpr ⟨by omega, fun g hg => ?_⟩⟩
      rw [e2]
      have := e3 g hg
      omega
  · rintro ⟨e1, e2⟩
    obtain ⟨q1, q2⟩ := pyS_all.mp e2
    by_cases z : dt e0 X = 0
    · refine Or.inr ⟨e1, z, fun g hg => ?_⟩
      have := q2 g hg
      rw [z] at this
      omega
    · exact Or.inl ⟨e1, by omega, e2⟩
theorem pyr_step' (n : Int) {c a : Nat} (hc : HC (fun X => X.2.2.2 = n - 1 ∧ ∀ g, g ∈ pyS e0 W S → 0 < dt g X) c) (ha : HC (fun X => X.2.2.2 = n - 1 ∧ dt e0 X = 0 ∧ ∀ g, g ∈ S → 0 < dt g X) a) (hW : dt e0 W = 1) (hWh : W.2.2.2 = 1) : HC (fun X => X.2.2.2 = n ∧ ∀ g, g ∈ pyS e0 W S → 0 < dt g X) (c + a) := by
  have hs := hc.sum ha (fun X hX hX' => by have := (pyS_all'.mp hX.2).1; have := hX'.2.1; omega)
  refine hs.bij (fun X => ad X W) (fun X => sb X W) (fun X hX => ?_) (fun Y hY => ?_) (fun X => ad_sb X W) (fun X => sb_ad X W)
  · rcases hX with ⟨e1, e2⟩ | ⟨e1, e2, e3⟩
    · obtain ⟨q1, q2⟩ := pyS_all'.mp e2
      refine ⟨?_, pyS_all'.mpr ⟨?_, fun g hg => ?_⟩⟩
      · show X.2.2.2 + W.2.2.2 = n
        omega
      · rw [dt_ad, hW]; omega
      · rw [dt_ad, dt_ad, hW]
        have := q2 g hg
        have e : dt g W * (dt e0 X + 1) = dt g W * dt e0 X + dt g W := by grind
        omega
    · refine ⟨?_, pyS_all'.mpr ⟨?_, fun g hg => ?_⟩⟩
      · show X.2.2.2 + W.2.2.2 = n
        omega
      · rw [dt_ad, hW]; omega
      · rw [dt_ad, dt_ad, hW, e2]
        have := e3 g hg
        omega
  · obtain ⟨e1, e2⟩ := hY
    obtain ⟨q1, q2⟩ := pyS_all'.mp e2
    have hh : (sb Y W).2.2.2 = n - 1 := by
      show Y.2.2.2 + -1 * W.2.2.2 = n - 1
      omega
    by_cases z : dt e0 Y = 1
    · refine Or.inr ⟨hh, ?_, fun g hg => ?_⟩
      · rw [dt_sb, hW]; omega
      · rw [dt_sb]
        have := q2 g hg
        rw [z] at this
        omega
    · refine Or.inl ⟨hh, pyS_all'.mpr ⟨?_, fun g hg => ?_⟩⟩
      · rw [dt_sb, hW]; omega
      · rw [dt_sb, dt_sb, hW]
        have := q2 g hg
        have e : dt g W * (dt e0 Y - 1) = dt g W * dt e0 Y - dt g W := by grind
        omega
end PYR
