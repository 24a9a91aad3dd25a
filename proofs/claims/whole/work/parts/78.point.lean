/-! the reference puts a point in its place -/
theorem ix_m1 {k : Nat} (h : 1 ≤ k) : iz (k : Int) - 1 = iz ((k - 1 : Nat) : Int) := by rw [z1, iz_sub]; congr 1; omega
theorem ix_mn {k : Nat} (h : 1 ≤ k) : iz (k : Int) + (-1) = iz ((k - 1 : Nat) : Int) := by rw [z1, iz_neg, iz_add]; congr 1; omega
theorem after_i {p : Nat → V3} {k : Nat} (hk : k < 140) (h1 : rc3 (p k)) {v : V3} (hv : rc3 v) : ∃ r : Int, fX9_isAfter (px p) (py p) (pz p) (iz (k : Int)) (iz v.1) (iz v.2.1) (iz v.2.2) = some (iz r) ∧ (r = 0 ∨ r = 1) ∧ (r = 1 ↔ lx v (p k)) := by
  obtain ⟨a1, a2, a3⟩ := h1
  obtain ⟨b1, b2, b3⟩ := hv
  unfold fX9_isAfter lx
  rw [ix_gd hk (by omega), iz_cn (by omega), px_i, py_i, pz_i]
  simp (disch := omega) only [iz_eq, iz_le]
  by_cases c1 : (p k).1 = v.1
  · rw [if_pos c1]
    by_cases c2 : (p k).2.1 = v.2.1
    · rw [if_pos c2]
      by_cases c3 : (p k).2.2 ≤ v.2.2
      · rw [if_pos c3]; exact ⟨0, rfl, Or.inl rfl, by omega⟩
      · rw [if_neg c3]; exact ⟨1, rfl, Or.inr rfl, by omega⟩
    · rw [if_neg c2]
      by_cases c3 : (p k).2.1 ≤ v.2.1
      · rw [if_pos c3]; exact ⟨0, rfl, Or.inl rfl, by omega⟩
      · rw [if_neg c3]; exact ⟨1, rfl, Or.inr rfl, by omega⟩
  · rw [if_neg c1]
    by_cases c3 : (p k).1 ≤ v.1
    · rw [if_pos c3]; exact ⟨0, rfl, Or.inl rfl, by omega⟩
    · rw [if_neg c3]; exact ⟨1, rfl, Or.inr rfl, by omega⟩
theorem point_mv {v : V3} {n k : Nat} (hn : n < 140) (hk : k ≤ n) (s : Nat → V3) : ∀ (m fuel i : Nat) (p : Nat → V3), i = k + m → i ≤ n → m < fuel → (∀ a, a ≤ i → p a = s a) → (∀ a, i < a → a ≤ n → p a = s (a - 1)) → ∃ p', LX9_point_82 fuel (iz v.1) (iz v.2.1) (iz v.2.2) (iz (k : Int)) (iz (i : Int)) (iz (n : Int)) (px p) (py p) (pz p) = some (iz ((n + 1 : Nat) : Int), px p', py p', pz p') ∧ (∀ a, a ≤ n → p' a = insA s k v a) := by
  intro m
  induction m with
  | zero =>
    intro fuel i p h1 h2 h3 h4 h5
    obtain ⟨fuel, rfl⟩ : ∃ q, fuel = q + 1 := ⟨fuel - 1, by omega⟩
    refine ⟨ud p k v, ?_, fun a ha => ?_⟩
    · rw [LX9_point_82, if_pos ((ix_le (by omega) (by omega)).mpr (by omega)), ix_gd (by omega) (by omega), ix_s, iz_cn (by omega), upd_px, upd_py, upd_pz]
    · unfold ud insA
      by_cases c1 : a < k
      · rw [if_neg (by omega), if_pos c1]; exact h4 a (by omega)
      · by_cases c2 : a = k
        · rw [if_pos c2, if_neg c1, if_pos c2]
        · rw [if_neg c2, if_neg c1, if_neg c2]; exact h5 a (by omega) ha
  | succ m ih =>
    intro fuel i p h1 h2 h3 h4 h5
    obtain ⟨fuel, rfl⟩ : ∃ q, fuel = q + 1 := ⟨fuel - 1, by omega⟩
    obtain ⟨p', e1, e2⟩ := ih fuel (i - 1) (ud p i (p (i - 1))) (by omega) (by omega) (by omega) (fun a ha => by rw [ud_n p _ (by omega)]; exact h4 a (by omega)) (fun a ha hn => by
      by_cases c : a = i
      · subst c; rw [ud_s]; exact h4 (a - 1) (by omega)
      · rw [ud_n p _ c]; exact h5 a (by omega) hn)
    refine ⟨p', ?_, e2⟩
    rw [LX9_point_82, if_neg (fun h => by have := (ix_le (by omega) (by omega)).mp h; omega), ix_m1 (by omega), ix_mn (by omega), ix_gd (by omega) (by omega), ix_gd (by omega) (by omega), iz_cn (by omega), iz_cn (by omega), px_i, py_i, pz_i, upd_px, upd_py, upd_pz]
    exact e1
theorem point_at {v : V3} (hv : rc3 v) {n : Nat} (hn : n < 140) {p : Nat → V3} (hs : SS n p) (hr : ∀ a, a < n → rc3 (p a)) : ∀ (k fuel : Nat), k ≤ n → k < fuel → (∀ a, k ≤ a → a < n → lx v (p a)) → ∃ (n' : Nat) (p' : Nat → V3), LX9_point_6 fuel (iz v.1) (iz v.2.1) (iz v.2.2) (iz (k : Int)) (iz (n : Int)) (px p) (py p) (pz p) = some (iz (n' : Int), px p', py p', pz p') ∧ n' ≤ n + 1 ∧ SS n' p' ∧ ∀ w, Mm n' p' w ↔ Mm n p w ∨ w = v := by
  intro k
  have fin : ∀ k, k ≤ n → (∀ a, k ≤ a → a < n → lx v (p a)) → (∀ a, a < k → lx (p a) v) → ∃ (n' : Nat) (p' : Nat → V3), JX9_point_76 (iz v.1) (iz v.2.1) (iz v.2.2) (iz (k : Int)) (iz (n : Int)) (px p) (py p) (pz p) = some (iz (n' : Int), px p', py p', pz p') ∧ n' ≤ n + 1 ∧ SS n' p' ∧ ∀ w, Mm n' p' w ↔ Mm n p w ∨ w = v := by
    intro k hk h1 h2
    obtain ⟨p', e1, e2⟩ := point_mv (v := v) hn hk p (n - k) FU n p (by omega) (Nat.le_refl _) (by unfold FU; omega) (fun a _ => rfl) (fun a h1 h2 => by omega)
    refine ⟨n + 1, p', ?_, Nat.le_refl _, ins_SS hk hs e2 h2 h1, ins_Mm hk e2⟩
    unfold JX9_point_76
    exact e1
  induction k with
  | zero =>
    intro fuel h1 h2 h3
    obtain ⟨fuel, rfl⟩ : ∃ q, fuel = q + 1 := ⟨fuel - 1, by omega⟩
    rw [LX9_point_6, if_pos ((ix_z (by omega)).mpr rfl)]
    unfold JX9_point_31
    rw [if_pos ((ix_z (by omega)).mpr rfl)]
    exact fin 0 h1 h3 (fun a ha => by omega)
  | succ k ih =>
    intro fuel h1 h2 h3
    obtain ⟨fuel, rfl⟩ : ∃ q, fuel = q + 1 := ⟨fuel - 1, by omega⟩
    obtain ⟨r, e1, r1, r2⟩ := after_i (p := p) (k := k) (by omega) (hr k (by omega)) hv
    rw [LX9_point_6, if_neg (fun h => by have := (ix_z (by omega)).mp h; omega), ix_p, e1, bd_some]
    rcases r1 with r1 | r1
    · subst r1
      have nl : ¬ lx v (p k) := fun h => by have := r2.mpr h; omega
      rw [if_pos (show iz 0 = 0 from rfl)]
      unfold JX9_point_31
      rw [if_neg (fun h => by have := (ix_z (by omega)).mp h; omega), ix_p, ix_gd (by omega) (by omega), iz_cn (by omega), px_i, py_i, pz_i]
      obtain ⟨a1, a2, a3⟩ := hr k (by omega)
      obtain ⟨b1, b2, b3⟩ := hv
      simp (disch := omega) only [iz_eq]
      have fin2 : p k ≠ v → ∃ (n' : Nat) (p' : Nat → V3), JX9_point_76 (iz v.1) (iz v.2.1) (iz v.2.2) (iz ((k + 1 : Nat) : Int)) (iz (n : Int)) (px p) (py p) (pz p) = some (iz (n' : Int), px p', py p', pz p') ∧ n' ≤ n + 1 ∧ SS n' p' ∧ ∀ w, Mm n' p' w ↔ Mm n p w ∨ w = v := fun ne => fin (k + 1) h1 h3 (fun a ha => by
        have lk : lx (p k) v := by
          rcases lx_tri (p k) v with t | t | t
          · exact t
          · exact (ne t).elim
          · exact (nl t).elim
        by_cases c : a = k
        · rw [c]; exact lk
        · exact lx_tr (hs a k (by omega) (by omega)) lk)
      by_cases c1 : (p k).1 = v.1
      · rw [if_pos c1]
        by_cases c2 : (p k).2.1 = v.2.1
        · rw [if_pos c2]
          by_cases c3 : (p k).2.2 = v.2.2
          · rw [if_pos c3]
            refine ⟨n, p, rfl, by omega, hs, fun w => ⟨fun h => Or.inl h, fun h => ?_⟩⟩
            rcases h with h | h
            · exact h
            · exact ⟨k, by omega, by rw [h]; exact v3_ext c1 c2 c3⟩
          · rw [if_neg c3]; exact fin2 (fun e => c3 (by rw [e]))
        · rw [if_neg c2]; exact fin2 (fun e => c2 (by rw [e]))
      · rw [if_neg c1]; exact fin2 (fun e => c1 (by rw [e]))
    · subst r1
      rw [if_neg (by decide), ix_n]
      exact ih fuel (by omega) (by omega) (fun a ha hn => by
        by_cases c : a = k
        · rw [c]; exact r2.mp rfl
        · exact h3 a (by omega) hn)
theorem point_i {v : V3} (hv : rc3 v) {n : Nat} (hn : n < 140) {p : Nat → V3} (hs : SS n p) (hr : ∀ a, a < n → rc3 (p a)) : ∃ (n' : Nat) (p' : Nat → V3), fX9_point (iz (n : Int)) (px p) (py p) (pz p) (iz v.1) (iz v.2.1) (iz v.2.2) = some (iz (n' : Int), px p', py p', pz p') ∧ n' ≤ n + 1 ∧ SS n' p' ∧ ∀ w, Mm n' p' w ↔ Mm n p w ∨ w = v :=
  point_at hv hn hs hr n FU (Nat.le_refl _) (by unfold FU; omega) (fun a h1 h2 => by omega)
