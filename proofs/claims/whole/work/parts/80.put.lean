/-! the class puts a side in its place -/
theorem sd_cmp {n : Nat} {s : Nat → V3} {u : V3} {i : Nat} (hi : i < n) (hn : n < 1000) (hs : sm100 (s i)) (hu : sm100 u) : ∃ c : Int, fX1_compare n (px s) (py s) (pz s) (iz u.1) (iz u.2.1) (iz u.2.2) (iz (i : Int)) = some (iz c) ∧ -1000000 ≤ c ∧ c ≤ 1000000 ∧ (c < 0 ↔ lx (s i) u) ∧ (c = 0 ↔ s i = u) := by
  obtain ⟨h1, h2, h3⟩ := hs
  obtain ⟨g1, g2, g3⟩ := hu
  unfold fX1_compare
  rw [ix_gd hi (by omega), iz_cn (by omega), px_i, py_i, pz_i]
  simp only [iz_sub]
  unfold lx
  simp (disch := omega) only [iz_eq]
  rw [v3_iff]
  by_cases c1 : (s i).1 = u.1
  · rw [if_pos c1]
    by_cases c2 : (s i).2.1 = u.2.1
    · rw [if_pos c2]
      exact ⟨_, rfl, by omega, by omega, by omega, by omega⟩
    · rw [if_neg c2]
      exact ⟨_, rfl, by omega, by omega, by omega, by omega⟩
  · rw [if_neg c1]
    exact ⟨_, rfl, by omega, by omega, by omega, by omega⟩
theorem insert_mv {u : V3} {ne : Int} {N n k : Nat} (hn : n < N) (hN : N < 1000) (hk : k ≤ n) (s : Nat → V3) (e : Nat → Int) : ∀ (m fuel i : Nat) (p : Nat → V3) (w : Nat → Int), i = k + m → i ≤ n → m < fuel → (∀ a, a ≤ i → p a = s a ∧ w a = e a) → (∀ a, i < a → a ≤ n → p a = s (a - 1) ∧ w a = e (a - 1)) → ∃ p' w', LX1_insert_31 N fuel (iz (k : Int)) (iz u.1) (iz u.2.1) (iz u.2.2) (iz ne) (iz (i : Int)) (iz (n : Int)) (px p) (py p) (pz p) (pe w) = some (iz ((n + 1 : Nat) : Int), px p', py p', pz p', pe w') ∧ (∀ a, a ≤ n → p' a = insA s k u a ∧ w' a = insA e k ne a) := by
  intro m
  induction m with
  | zero =>
    intro fuel i p w h1 h2 h3 h4 h5
    obtain ⟨fuel, rfl⟩ : ∃ q, fuel = q + 1 := ⟨fuel - 1, by omega⟩
    refine ⟨ud p k u, ud w k ne, ?_, fun a ha => ?_⟩
    · rw [LX1_insert_31, if_pos ((ix_le (by omega) (by omega)).mpr (by omega)), ix_gd (by omega) (by omega), ix_s, iz_cn (by omega), upd_px, upd_py, upd_pz, upd_pe]
    · unfold ud insA
      by_cases c1 : a < k
      · rw [if_neg (by omega), if_pos c1, if_neg (by omega), if_pos c1]; exact h4 a (by omega)
      · by_cases c2 : a = k
        · rw [if_pos c2, if_neg c1, if_pos c2, if_pos c2, if_neg c1, if_pos c2]; exact ⟨rfl, rfl⟩
        · rw [if_neg c2, if_neg c1, if_neg c2, if_neg c2, if_neg c1, if_neg c2]; exact h5 a (by omega) ha
  | succ m ih =>
    intro fuel i p w h1 h2 h3 h4 h5
    obtain ⟨fuel, rfl⟩ : ∃ q, fuel = q + 1 := ⟨fuel - 1, by omega⟩
    obtain ⟨p', w', e1, e2⟩ := ih fuel (i - 1) (ud p i (p (i - 1))) (ud w i (w (i - 1))) (by omega) (by omega) (by omega) (fun a ha => by rw [ud_n p _ (by omega), ud_n w _ (by omega)]; exact h4 a (by omega)) (fun a ha hn => by
      by_cases c : a = i
      · subst c; rw [ud_s, ud_s]; exact h4 (a - 1) (by omega)
      · rw [ud_n p _ c, ud_n w _ c]; exact h5 a (by omega) hn)
    refine ⟨p', w', ?_, e2⟩
    rw [LX1_insert_31, if_neg (fun h => by have := (ix_le (by omega) (by omega)).mp h; omega), ix_m1 (by omega), ix_mn (by omega), ix_gd (by omega) (by omega), ix_gd (by omega) (by omega), iz_cn (by omega), iz_cn (by omega), px_i, py_i, pz_i, pe_i, upd_px, upd_py, upd_pz, upd_pe]
    exact e1
/-- u with ne has come in -/
def Ins (ss : Nat) (s : Nat → V3) (e : Nat → Int) (u : V3) (ne : Int) (ss' : Nat) (s' : Nat → V3) (e' : Nat → Int) : Prop := SS ss' s' ∧ (∀ w, Mm ss' s' w ↔ Mm ss s w ∨ w = u) ∧ ∀ i, i < ss' → (∃ j, j < ss ∧ s' i = s j ∧ e' i = e j) ∨ (s' i = u ∧ e' i = ne)
theorem ins_Ins {ss k : Nat} {s s' : Nat → V3} {e e' : Nat → Int} {u : V3} {ne : Int} (hk : k ≤ ss) (hs : SS ss s) (h1 : ∀ i, i < k → lx (s i) u) (h2 : ∀ i, k ≤ i → i < ss → lx u (s i)) (h : ∀ a, a ≤ ss → s' a = insA s k u a ∧ e' a = insA e k ne a) : Ins ss s e u ne (ss + 1) s' e' := by
  refine ⟨ins_SS hk hs (fun i hi => (h i hi).1) h1 h2, ins_Mm hk (fun i hi => (h i hi).1), fun i hi => ?_⟩
  obtain ⟨q1, q2⟩ := h i (by omega)
  rw [q1, q2]
  unfold insA
  by_cases c1 : i < k
  · rw [if_pos c1, if_pos c1]; exact Or.inl ⟨i, by omega, rfl, rfl⟩
  · by_cases c2 : i = k
    · rw [if_neg c1, if_pos c2, if_neg c1, if_pos c2]; exact Or.inr ⟨rfl, rfl⟩
    · rw [if_neg c1, if_neg c2, if_neg c1, if_neg c2]; exact Or.inl ⟨i - 1, by omega, rfl, rfl⟩
theorem put_at {u : V3} {ne : Int} (hu : sm100 u) {ss : Nat} {s : Nat → V3} {e : Nat → Int} (hs : SS ss s) (hr : ∀ i, i < ss → sm100 (s i)) (hss : ss ≤ 80) (hcap : ∀ t, SS (ss + 1) t → (∀ w, Mm (ss + 1) t w ↔ Mm ss s w ∨ w = u) → ss + 1 ≤ 80) : ∀ (m fuel k : Nat), k + m = ss → m < fuel → (∀ i, i < k → lx (s i) u) → ∃ ss' s' e', LX1_putInOrder_2 80 (iz u.1) (iz u.2.1) (iz u.2.2) fuel (iz ne) (iz (k : Int)) (iz (ss : Int)) (px s) (py s) (pz s) (pe e) = some (iz ((ss' : Nat) : Int), px s', py s', pz s', pe e') ∧ Ins ss s e u ne ss' s' e' := by
  intro m
  have fin : ∀ k, k ≤ ss → (∀ i, i < k → lx (s i) u) → (∀ i, k ≤ i → i < ss → lx u (s i)) → ∃ ss' s' e', JX1_putInOrder_42 80 (iz u.1) (iz u.2.1) (iz u.2.2) (iz ne) (iz (k : Int)) (iz (ss : Int)) (px s) (py s) (pz s) (pe e) = some (iz ((ss' : Nat) : Int), px s', py s', pz s', pe e') ∧ Ins ss s e u ne ss' s' e' := by
    intro k hk h1 h2
    have hc : ss + 1 ≤ 80 := hcap (insA s k u) (ins_SS hk hs (fun i _ => rfl) h1 h2) (ins_Mm hk (fun i _ => rfl))
    obtain ⟨p', w', e1, e2⟩ := insert_mv (u := u) (ne := ne) (N := 80) (n := ss) (k := k) (by omega) (by omega) hk s e (ss - k) FU ss s e (by omega) (Nat.le_refl _) (by unfold FU; omega) (fun a _ => ⟨rfl, rfl⟩) (fun a h1 h2 => by omega)
    refine ⟨ss + 1, p', w', ?_, ins_Ins hk hs h1 h2 e2⟩
    unfold JX1_putInOrder_42 fX1_insert
    rw [if_neg (by rw [z0, iz_lt (by omega) (by omega) (by omega) (by omega)]; omega), if_neg (by rw [ix_lt (by omega) (by omega)]; omega), if_pos (by rw [iz_nI, ix_lt (by omega) (by omega)]; omega), e1, bd_some]
  induction m with
  | zero =>
    intro fuel k h1 h2 h3
    obtain ⟨fuel, rfl⟩ : ∃ q, fuel = q + 1 := ⟨fuel - 1, by omega⟩
    rw [LX1_putInOrder_2, if_pos ((ix_le (by omega) (by omega)).mpr (by omega))]
    unfold JX1_putInOrder_25
    rw [if_pos ((ix_eq (by omega) (by omega)).mpr (by omega))]
    exact fin k (by omega) h3 (fun i h1 h2 => by omega)
  | succ m ih =>
    intro fuel k h1 h2 h3
    obtain ⟨fuel, rfl⟩ : ∃ q, fuel = q + 1 := ⟨fuel - 1, by omega⟩
    obtain ⟨c, e1, b1, b2, l1, l2⟩ := sd_cmp (n := 80) (s := s) (u := u) (i := k) (by omega) (by omega) (hr k (by omega)) hu
    rw [LX1_putInOrder_2, if_neg (fun h => by have := (ix_le (by omega) (by omega)).mp h; omega), e1, bd_some]
    by_cases hc : 0 ≤ c
    · rw [if_pos (by rw [z0, iz_le (by omega) (by omega) (by omega) (by omega)]; exact hc)]
      unfold JX1_putInOrder_25
      rw [if_neg (fun h => by have := (ix_eq (by omega) (by omega)).mp h; omega), e1, bd_some]
      by_cases hz : c = 0
      · rw [if_pos (by rw [z0, iz_eq (by omega) (by omega) (by omega) (by omega)]; exact hz)]
        refine ⟨ss, s, e, rfl, hs, fun w => ⟨fun h => Or.inl h, fun h => ?_⟩, fun i hi => Or.inl ⟨i, hi, rfl, rfl⟩⟩
        rcases h with h | h
        · exact h
        · exact ⟨k, by omega, by rw [h]; exact l2.mp hz⟩
      · rw [if_neg (by rw [z0, iz_eq (by omega) (by omega) (by omega) (by omega)]; exact hz)]
        have lu : lx u (s k) := by
          rcases lx_tri (s k) u with t | t | t
          · have := l1.mpr t; omega
          · exact (hz (l2.mpr t)).elim
          · exact t
        exact fin k (by omega) h3 (fun i h4 h5 => by
          by_cases c : i = k
          · rw [c]; exact lu
          · exact lx_tr lu (hs k i (by omega) h5))
    · rw [if_neg (by rw [z0, iz_le (by omega) (by omega) (by omega) (by omega)]; exact hc), ix_s]
      exact ih fuel (k + 1) (by omega) (by omega) (fun i hi => by
        by_cases c : i = k
        · rw [c]; exact l1.mp (by omega)
        · exact h3 i (by omega))
theorem put_i {u : V3} {ne : Int} (hu : sm100 u) {ss : Nat} {s : Nat → V3} {e : Nat → Int} (hs : SS ss s) (hr : ∀ i, i < ss → sm100 (s i)) (hss : ss ≤ 80) (hcap : ∀ t, SS (ss + 1) t → (∀ w, Mm (ss + 1) t w ↔ Mm ss s w ∨ w = u) → ss + 1 ≤ 80) : ∃ ss' s' e', fX1_putInOrder 80 (iz (ss : Int)) (px s) (py s) (pz s) (pe e) (iz u.1) (iz u.2.1) (iz u.2.2) (iz ne) = some (iz ((ss' : Nat) : Int), px s', py s', pz s', pe e') ∧ Ins ss s e u ne ss' s' e' :=
  put_at hu hs hr hss hcap ss FU 0 (by omega) (by unfold FU; omega) (fun i hi => by omega)
