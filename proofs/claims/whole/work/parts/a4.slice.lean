/-! slices: how many points they have -/
def Iv (T : V3 → Prop) (t : V3) (n : Nat) (p : Nat → V3) : Prop := SS n p ∧ ∀ v, Mm n p v ↔ T v ∧ lx v t
theorem Iv_mv {T : V3 → Prop} {t t' : V3} {n : Nat} {p : Nat → V3} (h : Iv T t n p) (e : ∀ v, T v → (lx v t ↔ lx v t')) : Iv T t' n p := ⟨h.1, fun v => (h.2 v).trans ⟨fun q => ⟨q.1, (e v q.1).mp q.2⟩, fun q => ⟨q.1, (e v q.1).mpr q.2⟩⟩⟩
theorem Iv_add {T : V3 → Prop} {t t' : V3} {n : Nat} {p : Nat → V3} (h : Iv T t n p) (ht : T t) (e : ∀ v, T v → (lx v t' ↔ lx v t ∨ v = t)) : Iv T t' (n + 1) (ud p n t) := by
  constructor
  · intro i j hij hj
    unfold ud
    rw [if_neg (by omega)]
    by_cases c : j = n
    · rw [if_pos c]
      exact ((h.2 (p i)).mp ⟨i, by omega, rfl⟩).2
    · rw [if_neg c]
      exact h.1 i j hij (by omega)
  · intro v
    constructor
    · rintro ⟨i, hi, ei⟩
      unfold ud at ei
      by_cases c : i = n
      · rw [if_pos c] at ei
        rw [← ei]
        exact ⟨ht, (e t ht).mpr (Or.inr rfl)⟩
      · rw [if_neg c] at ei
        obtain ⟨q1, q2⟩ := (h.2 v).mp ⟨i, by omega, ei⟩
        exact ⟨q1, (e v q1).mpr (Or.inl q2)⟩
    · rintro ⟨q1, q2⟩
      rcases (e v q1).mp q2 with q | q
      · obtain ⟨i, hi, ei⟩ := (h.2 v).mpr ⟨q1, q⟩
        exact ⟨i, by omega, by unfold ud; rw [if_neg (by omega)]; exact ei⟩
      · exact ⟨n, by omega, by unfold ud; rw [if_pos rfl]; exact q.symm⟩
theorem Iv_pt {T : V3 → Prop} {t t' : V3} {n : Nat} {p : Nat → V3} (h : Iv T t n p) (hn : n < 140) (hT : ∀ v, T v → rc3 v) (ht : T t) (e : ∀ v, T v → (lx v t' ↔ lx v t ∨ v = t)) : ∃ (n' : Nat) (p' : Nat → V3), fX9_point (iz (n : Int)) (px p) (py p) (pz p) (iz t.1) (iz t.2.1) (iz t.2.2) = some (iz (n' : Int), px p', py p', pz p') ∧ Iv T t' n' p' := by
  obtain ⟨n', p', e1, _, s1, k1⟩ := point_i (hT t ht) hn h.1 (fun a ha => hT _ ((h.2 (p a)).mp ⟨a, ha, rfl⟩).1)
  refine ⟨n', p', e1, s1, fun v => ?_⟩
  rw [k1, h.2]
  constructor
  · rintro (⟨q1, q2⟩ | q)
    · exact ⟨q1, (e v q1).mpr (Or.inl q2)⟩
    · rw [q]; exact ⟨ht, (e t ht).mpr (Or.inr rfl)⟩
  · rintro ⟨q1, q2⟩
    rcases (e v q1).mp q2 with q | q
    · exact Or.inl ⟨q1, q⟩
    · exact Or.inr q
/-- the place of a point in its slice -/
def cd (w : Nat) (v : V3) : Int := if w = 0 then 11 * (v.2.1 + 5) + (v.2.2 + 5) else if w = 1 then 11 * (v.1 + 5) + (v.2.2 + 5) else 11 * (v.1 + 5) + (v.2.1 + 5)
theorem cd_bd {w : Nat} {v : V3} (h : rc3 v) : 0 ≤ cd w v ∧ cd w v ≤ 120 := by
  obtain ⟨⟨a1, a2⟩, ⟨b1, b2⟩, c1, c2⟩ := h
  unfold cd
  split
  · omega
  · split <;> omega
theorem cd_lt {w : Nat} {u v : V3} {a : Int} (hw : w < 3) (hu : rc3 u) (hv : rc3 v) (eu : co u w = a) (ev : co v w = a) (h : lx u v) : cd w u < cd w v := by
  obtain ⟨⟨a1, a2⟩, ⟨b1, b2⟩, c1, c2⟩ := hu
  obtain ⟨⟨p1, p2⟩, ⟨q1, q2⟩, r1, r2⟩ := hv
  rcases (show w = 0 ∨ w = 1 ∨ w = 2 by omega) with rfl | rfl | rfl
  · change u.1 = a at eu
    change v.1 = a at ev
    unfold lx at h
    show 11 * (u.2.1 + 5) + (u.2.2 + 5) < 11 * (v.2.1 + 5) + (v.2.2 + 5)
    omega
  · change u.2.1 = a at eu
    change v.2.1 = a at ev
    unfold lx at h
    show 11 * (u.1 + 5) + (u.2.2 + 5) < 11 * (v.1 + 5) + (v.2.2 + 5)
    omega
  · change u.2.2 = a at eu
    change v.2.2 = a at ev
    unfold lx at h
    show 11 * (u.1 + 5) + (u.2.1 + 5) < 11 * (v.1 + 5) + (v.2.1 + 5)
    omega
theorem sl_len {w : Nat} {a : Int} {n : Nat} {p : Nat → V3} (hw : w < 3) (hs : SS n p) (h : ∀ i, i < n → rc3 (p i) ∧ co (p i) w = a) : n ≤ 121 := by
  have up : ∀ i : Nat, i < n → (i : Int) ≤ cd w (p i) := by
    intro i
    induction i with
    | zero => intro hi; have := (cd_bd (w := w) (h 0 hi).1).1; omega
    | succ i ih =>
      intro hi
      have := ih (by omega)
      have := cd_lt hw (h i (by omega)).1 (h (i + 1) hi).1 (h i (by omega)).2 (h (i + 1) hi).2 (hs i (i + 1) (by omega) hi)
      omega
  refine Classical.byContradiction fun hc => ?_
  have h1 := up 121 (by omega)
  have h2 := (cd_bd (w := w) (h 121 (by omega)).1).2
  omega
/-- the row of a point in its slice -/
def rw' (w : Nat) (v : V3) : Int := if w = 0 then v.2.1 + 5 else v.1 + 5
theorem rwc_le {w : Nat} {u v : V3} {a : Int} (hw : w < 3) (eu : co u w = a) (ev : co v w = a) (h : lx u v) : rw' w u ≤ rw' w v := by
  rcases (show w = 0 ∨ w = 1 ∨ w = 2 by omega) with rfl | rfl | rfl
  · change u.1 = a at eu
    change v.1 = a at ev
    unfold lx at h
    show u.2.1 + 5 ≤ v.2.1 + 5
    omega
  · unfold lx at h
    show u.1 + 5 ≤ v.1 + 5
    omega
  · unfold lx at h
    show u.1 + 5 ≤ v.1 + 5
    omega
theorem rw_row {w : Nat} {x y z : V3} {a : Int} (hw : w < 3) (ex : co x w = a) (ey : co y w = a) (ez : co z w = a) (h1 : rw' w x = rw' w y) (h2 : rw' w x = rw' w z) : row3 x y z := by
  unfold row3 cr sb3 o3
  rcases (show w = 0 ∨ w = 1 ∨ w = 2 by omega) with rfl | rfl | rfl
  · change x.1 = a at ex
    change y.1 = a at ey
    change z.1 = a at ez
    change x.2.1 + 5 = y.2.1 + 5 at h1
    change x.2.1 + 5 = z.2.1 + 5 at h2
    have e1 : y.1 - x.1 = 0 := by omega
    have e2 : z.1 - x.1 = 0 := by omega
    have e3 : y.2.1 - x.2.1 = 0 := by omega
    have e4 : z.2.1 - x.2.1 = 0 := by omega
    dsimp only
    rw [e1, e2, e3, e4]
    simp
  · change x.2.1 = a at ex
    change y.2.1 = a at ey
    change z.2.1 = a at ez
    change x.1 + 5 = y.1 + 5 at h1
    change x.1 + 5 = z.1 + 5 at h2
    have e1 : y.1 - x.1 = 0 := by omega
    have e2 : z.1 - x.1 = 0 := by omega
    have e3 : y.2.1 - x.2.1 = 0 := by omega
    have e4 : z.2.1 - x.2.1 = 0 := by omega
    dsimp only
    rw [e1, e2, e3, e4]
    simp
  · change x.2.2 = a at ex
    change y.2.2 = a at ey
    change z.2.2 = a at ez
    change x.1 + 5 = y.1 + 5 at h1
    change x.1 + 5 = z.1 + 5 at h2
    have e1 : y.1 - x.1 = 0 := by omega
    have e2 : z.1 - x.1 = 0 := by omega
    have e3 : y.2.2 - x.2.2 = 0 := by omega
    have e4 : z.2.2 - x.2.2 = 0 := by omega
    dsimp only
    rw [e1, e2, e3, e4]
    simp
theorem sl_cap {w : Nat} {a : Int} {k : Nat} {q : Nat → V3} (hw : w < 3) (hs : SS k q) (h : ∀ i, i < k → rc3 (q i) ∧ co (q i) w = a) (hrow : ∀ i, i + 2 < k → ¬ row3 (q i) (q (i + 1)) (q (i + 2))) : k ≤ 40 := by
  have up : ∀ j : Nat, 2 * j < k → (j : Int) ≤ rw' w (q (2 * j)) := by
    intro j
    induction j with
    | zero =>
      intro hj
      obtain ⟨⟨⟨a1, a2⟩, ⟨b1, b2⟩, _⟩, _⟩ := h 0 (by omega)
      unfold rw'
      rw [show 2 * 0 = 0 from rfl]
      split <;> omega
    | succ j ih =>
      intro hj
      have l0 := ih (by omega)
      have l1 := rwc_le hw (h (2 * j) (by omega)).2 (h (2 * j + 1) (by omega)).2 (hs (2 * j) (2 * j + 1) (by omega) (by omega))
      have l2 := rwc_le hw (h (2 * j + 1) (by omega)).2 (h (2 * j + 2) (by omega)).2 (hs (2 * j + 1) (2 * j + 2) (by omega) (by omega))
      rw [show 2 * (j + 1) = 2 * j + 2 by omega]
      by_cases c : rw' w (q (2 * j)) = rw' w (q (2 * j + 2))
      · exact (hrow (2 * j) (by omega) (rw_row hw (h _ (by omega)).2 (h _ (by omega)).2 (h _ (by omega)).2 (by omega) c)).elim
      · omega
  refine Classical.byContradiction fun hc => ?_
  have h1 := up 20 (by omega)
  obtain ⟨⟨⟨a1, a2⟩, ⟨b1, b2⟩, _⟩, _⟩ := h (2 * 20) (by omega)
  unfold rw' at h1
  split at h1 <;> omega
section
variable {f : Nat} {N : V3} {cs : Nat} {c : Nat → V3} {ss : Nat} {s : Nat → V3} {e : Nat → Int} {bd' : Nat → V3} {be L G : Nat → Int}
def Sl (f : Nat) (N : V3) (ss : Nat) (s : Nat → V3) (e be L G : Nat → Int) (w : Nat) (a : Int) (v : V3) : Prop := ((L 0 ≤ v.1 ∧ v.1 ≤ G 0) ∧ (L 1 ≤ v.2.1 ∧ v.2.1 ≤ G 1) ∧ (L 2 ≤ v.2.2 ∧ v.2.2 ≤ G 2)) ∧ co v w = a ∧ wh f N ss s e be v 1 ≠ 0
theorem Sl_rc (hF : GF f N cs c ss s e bd' be L G) {w : Nat} {a : Int} {v : V3} (h : Sl f N ss s e be L G w a v) : rc3 v ∧ co v w = a := by
  obtain ⟨f3, c1, c40, s80, hs, hN, hbd, hbe, h0, hcr, hLG⟩ := hF
  have l0 := LG_bd hcr hLG (show 0 < 3 by omega)
  have l1 := LG_bd hcr hLG (show 1 < 3 by omega)
  have l2 := LG_bd hcr hLG (show 2 < 3 by omega)
  obtain ⟨⟨h1, h2, h3⟩, h4, _⟩ := h
  exact ⟨⟨⟨by omega, by omega⟩, ⟨by omega, by omega⟩, by omega, by omega⟩, h4⟩
theorem Iv_len (hF : GF f N cs c ss s e bd' be L G) {w : Nat} (hw : w < 3) {a : Int} {t : V3} {n : Nat} {p : Nat → V3} (h : Iv (Sl f N ss s e be L G w a) t n p) : n ≤ 121 := sl_len hw h.1 fun i hi => Sl_rc hF ((h.2 (p i)).mp ⟨i, hi, rfl⟩).1
end
