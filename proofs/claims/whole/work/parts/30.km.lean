/-! worlds up to order; contracts over larger worlds -/
theorem vP_iff {D : va_G} {cl : List vw_C} {ws : va_W} {H : Heap} : va_P D cl ws H ↔ ∀ q ∈ ws, va_at D cl q H :=
  ⟨fun h q hq => by obtain ⟨k, hk⟩ := List.getElem?_of_mem hq; exact h k q hk, fun h k q hk => h q (List.mem_of_getElem? hk)⟩
theorem vP_perm {D : va_G} {cl : List vw_C} {ws ws' : va_W} {H : Heap} (p : ws.Perm ws') (h : va_P D cl ws H) : va_P D cl ws' H :=
  vP_iff.mpr fun q hq => vP_iff.mp h q (p.mem_iff.mpr hq)
theorem vD_cons {A : Nat → Prop} {x : Nat × va_E} {l : va_W} : va_D A (x :: l) ↔ (∀ q ∈ l, q.1 ≠ x.1) ∧ A x.1 ∧ va_D A l := by
  constructor
  · intro h
    refine ⟨fun q hq e => ?_, h.2 0 x rfl, ⟨fun i j p q hi hj e => ?_, fun k q hk => h.2 (k + 1) q hk⟩⟩
    · obtain ⟨k, hk⟩ := List.getElem?_of_mem hq
      exact absurd (h.1 (k + 1) 0 q x hk rfl e) (by omega)
    · have := h.1 (i + 1) (j + 1) p q hi hj e
      omega
  · rintro ⟨h1, h2, h3⟩
    refine ⟨fun i j p q hi hj e => ?_, fun k q hk => ?_⟩
    · cases i with
      | zero =>
        cases j with
        | zero => rfl
        | succ j =>
          cases hi
          exact absurd e.symm (h1 q (List.mem_of_getElem? hj))
      | succ i =>
        cases j with
        | zero =>
          cases hj
          exact absurd e (h1 p (List.mem_of_getElem? hi))
        | succ j => rw [h3.1 i j p q hi hj e]
    · cases k with
      | zero => cases hk; exact h2
      | succ k => exact h3.2 k q hk
theorem vD_perm {A : Nat → Prop} {ws ws' : va_W} (p : ws.Perm ws') : va_D A ws → va_D A ws' := by
  induction p with
  | nil => exact id
  | cons x p ih =>
    intro h
    obtain ⟨h1, h2, h3⟩ := vD_cons.mp h
    exact vD_cons.mpr ⟨fun q hq => h1 q (p.mem_iff.mpr hq), h2, ih h3⟩
  | swap x y l =>
    intro h
    obtain ⟨h1, h2, h3⟩ := vD_cons.mp h
    obtain ⟨g1, g2, g3⟩ := vD_cons.mp h3
    refine vD_cons.mpr ⟨fun q hq => ?_, g2, vD_cons.mpr ⟨fun q hq => h1 q (List.mem_cons_of_mem _ hq), h2, g3⟩⟩
    rcases List.mem_cons.mp hq with e | hq
    · subst e
      exact fun e => h1 x List.mem_cons_self e.symm
    · exact g1 q hq
  | trans _ _ ih1 ih2 => exact fun h => ih2 (ih1 h)
theorem vA_iff {ws : va_W} {sz q : Nat} : va_A ws sz q ↔ (∃ e, (q, e) ∈ ws) ∨ sz ≤ q := by
  constructor
  · rintro (⟨k, e, h⟩ | h)
    · exact Or.inl ⟨e, List.mem_of_getElem? h⟩
    · exact Or.inr h
  · rintro (⟨e, h⟩ | h)
    · obtain ⟨k, hk⟩ := List.getElem?_of_mem h
      exact Or.inl ⟨k, e, hk⟩
    · exact Or.inr h
