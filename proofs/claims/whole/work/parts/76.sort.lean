/-! the class sorts its points -/
theorem ix_s (j : Nat) : iz (j : Int) + 1 = iz ((j + 1 : Nat) : Int) := by rw [z1, iz_add]; rfl
theorem ix_p (j : Nat) : iz ((j + 1 : Nat) : Int) - 1 = iz (j : Int) := by rw [z1, iz_sub]; congr 1; omega
theorem ix_n (j : Nat) : iz ((j + 1 : Nat) : Int) + (-1) = iz (j : Int) := by rw [z1, iz_neg, iz_add]; congr 1; omega
theorem ix_p2 (j : Nat) : iz ((j + 2 : Nat) : Int) - 2 = iz (j : Int) := by rw [z2, iz_sub]; congr 1; omega
theorem ix_p1 (j : Nat) : iz ((j + 2 : Nat) : Int) - 1 = iz ((j + 1 : Nat) : Int) := by rw [z1, iz_sub]; congr 1; omega
theorem ix_le {a b : Nat} (ha : a < 2147483648) (hb : b < 2147483648) : iz (a : Int) ≤ iz (b : Int) ↔ a ≤ b := by rw [iz_le (by omega) (by omega) (by omega) (by omega)]; omega
theorem ix_lt {a b : Nat} (ha : a < 2147483648) (hb : b < 2147483648) : iz (a : Int) < iz (b : Int) ↔ a < b := by rw [iz_lt (by omega) (by omega) (by omega) (by omega)]; omega
theorem ix_eq {a b : Nat} (ha : a < 2147483648) (hb : b < 2147483648) : iz (a : Int) = iz (b : Int) ↔ a = b := by rw [iz_eq (by omega) (by omega) (by omega) (by omega)]; omega
theorem ix_gd {α : Type} {k n : Nat} {o : Option α} (h1 : k < n) (h2 : n < 2147483648) : gd_in (iz (k : Int)) n o = o := gd_iz (by omega) (by omega) h2
theorem ix_z {k : Nat} (h : k < 2147483648) : iz (k : Int) ≤ 0 ↔ k = 0 := by rw [z0, iz_le (by omega) (by omega) (by omega) (by omega)]; omega
def rc3 (v : V3) : Prop := rch v.1 ∧ rch v.2.1 ∧ rch v.2.2
theorem cmp_i {n n2 : Nat} {p q : Nat → V3} {a b : Nat} (ha : a < n) (hb : b < n2) (hn : n < 1000) (hn2 : n2 < 1000) (hp : rc3 (p a)) (hq : rc3 (q b)) : ∃ c : Int, fX4_compare n n2 (px p) (py p) (pz p) (px q) (py q) (pz q) (iz (a : Int)) (iz (b : Int)) = some (iz c) ∧ -100 ≤ c ∧ c ≤ 100 ∧ (c < 0 ↔ lx (p a) (q b)) ∧ (c = 0 ↔ p a = q b) ∧ (0 < c ↔ lx (q b) (p a)) := by
  obtain ⟨h1, h2, h3⟩ := hp
  obtain ⟨g1, g2, g3⟩ := hq
  unfold fX4_compare
  rw [ix_gd ha (by omega), ix_gd hb (by omega), iz_cn (by omega), iz_cn (by omega), px_i, px_i, py_i, py_i, pz_i, pz_i]
  simp only [iz_sub]
  unfold lx
  simp (disch := omega) only [iz_eq]
  have hx : ∀ {x y : V3}, x = y ↔ x.1 = y.1 ∧ x.2.1 = y.2.1 ∧ x.2.2 = y.2.2 := fun {x y} => ⟨fun h => by rw [h]; exact ⟨rfl, rfl, rfl⟩, fun h => v3_ext h.1 h.2.1 h.2.2⟩
  by_cases c1 : (p a).1 = (q b).1
  · rw [if_pos c1]
    by_cases c2 : (p a).2.1 = (q b).2.1
    · rw [if_pos c2]
      refine ⟨_, rfl, by omega, by omega, ?_, ?_, ?_⟩
      · omega
      · rw [hx]; omega
      · omega
    · rw [if_neg c2]
      refine ⟨_, rfl, by omega, by omega, ?_, ?_, ?_⟩
      · omega
      · rw [hx]; omega
      · omega
  · rw [if_neg c1]
    refine ⟨_, rfl, by omega, by omega, ?_, ?_, ?_⟩
    · omega
    · rw [hx]; omega
    · omega
theorem copy_i {n : Nat} {p : Nat → V3} {a b : Nat} (ha : a < n) (hb : b < n) (hn : n < 1000) : fX4_copy n (px p) (py p) (pz p) (iz (a : Int)) (iz (b : Int)) = some (px (ud p b (p a)), py (ud p b (p a)), pz (ud p b (p a))) := by
  unfold fX4_copy
  rw [ix_gd ha (by omega), ix_gd hb (by omega), iz_cn (by omega), iz_cn (by omega), px_i, py_i, pz_i, upd_px, upd_py, upd_pz]
theorem swap_i {n : Nat} {p : Nat → V3} {a b : Nat} (ha : a < n) (hb : b < n) (hn : n < 1000) : fX4_swap n (px p) (py p) (pz p) (iz (a : Int)) (iz (b : Int)) = some (px (ud (ud p a (p b)) b (p a)), py (ud (ud p a (p b)) b (p a)), pz (ud (ud p a (p b)) b (p a))) := by
  unfold fX4_swap
  rw [ix_gd ha (by omega), copy_i hb ha hn, bd_some, ix_gd hb (by omega), iz_cn (by omega), iz_cn (by omega), px_i, py_i, pz_i, upd_px, upd_py, upd_pz]
theorem swap_Mm {m a b : Nat} (ha : a < m) (hb : b < m) (hab : a ≠ b) (p : Nat → V3) (v : V3) : Mm m (ud (ud p a (p b)) b (p a)) v ↔ Mm m p v := by
  unfold ud
  constructor
  · rintro ⟨i, hi, e⟩
    dsimp only at e
    by_cases c : i = b
    · rw [if_pos c] at e
      exact ⟨a, ha, e⟩
    · rw [if_neg c] at e
      by_cases c2 : i = a
      · rw [if_pos c2] at e
        exact ⟨b, hb, e⟩
      · rw [if_neg c2] at e
        exact ⟨i, hi, e⟩
  · rintro ⟨i, hi, e⟩
    by_cases c : i = b
    · refine ⟨a, ha, ?_⟩
      dsimp only
      rw [if_neg hab, if_pos rfl, ← c]
      exact e
    · by_cases c2 : i = a
      · refine ⟨b, hb, ?_⟩
        dsimp only
        rw [if_pos rfl, ← c2]
        exact e
      · refine ⟨i, hi, ?_⟩
        dsimp only
        rw [if_neg c, if_neg c2]
        exact e
theorem sort_in (n sz : Nat) (hsz : sz ≤ n) (hn : n < 1000) (k42 : Int32 → (Nat → Int32) → (Nat → Int32) → (Nat → Int32) → Option ((Nat → Int32) × (Nat → Int32) × (Nat → Int32))) : ∀ (j fuel i : Nat) (p : Nat → V3), j ≤ i → i < sz → j < fuel → (∀ v, Mm sz p v → rc3 v) → (∀ a b, a < b → b ≤ i → a ≠ j → b ≠ j → ¬ lx (p b) (p a)) → (∀ b, j < b → b ≤ i → ¬ lx (p b) (p j)) → ∃ p', LX4_sort_12 n (iz (sz : Int)) k42 fuel (iz (i : Int)) (iz (j : Int)) (px p) (py p) (pz p) = k42 (iz (i : Int)) (px p') (py p') (pz p') ∧ (∀ a b, a < b → b ≤ i → ¬ lx (p' b) (p' a)) ∧ (∀ v, Mm sz p' v ↔ Mm sz p v) := by
  intro j
  induction j with
  | zero =>
    intro fuel i p h1 h2 h3 h4 h5 h6
    obtain ⟨fuel, rfl⟩ : ∃ q, fuel = q + 1 := ⟨fuel - 1, by omega⟩
    refine ⟨p, ?_, fun a b hab hb => ?_, fun v => Iff.rfl⟩
    · rw [LX4_sort_12, if_pos ((ix_z (by omega)).mpr rfl)]
    · by_cases c : a = 0
      · subst c
        exact h6 b hab hb
      · exact h5 a b hab hb c (by omega)
  | succ j ih =>
    intro fuel i p h1 h2 h3 h4 h5 h6
    obtain ⟨fuel, rfl⟩ : ∃ q, fuel = q + 1 := ⟨fuel - 1, by omega⟩
    obtain ⟨c, e1, b1, b2, l1, l2, l3⟩ := cmp_i (n := n) (n2 := n) (p := p) (q := p) (a := j) (b := j + 1) (by omega) (by omega) hn hn (h4 _ ⟨j, by omega, rfl⟩) (h4 _ ⟨j + 1, by omega, rfl⟩)
    rw [LX4_sort_12, if_neg (fun h => by have := (ix_z (by omega)).mp h; omega), ix_p, e1, bd_some]
    by_cases hc : c ≤ 0
    · refine ⟨p, ?_, fun a b hab hb => ?_, fun v => Iff.rfl⟩
      · rw [if_pos (by rw [z0, iz_le (by omega) (by omega) (by omega) (by omega)]; exact hc)]
      · have hj : ¬ lx (p (j + 1)) (p j) := fun h => by have := l3.mpr h; omega
        by_cases ca : a = j + 1
        · subst ca
          exact h6 b hab hb
        · by_cases cb : b = j + 1
          · subst cb
            by_cases cj : a = j
            · subst cj; exact hj
            · have := h5 a j (by omega) (by omega) ca (by omega)
              intro h
              rcases lx_tri (p (j + 1)) (p j) with t | t | t
              · exact hj t
              · rw [t] at h; exact this h
              · exact this (lx_tr t h)
          · exact h5 a b hab hb ca cb
    · rw [if_neg (by rw [z0, iz_le (by omega) (by omega) (by omega) (by omega)]; exact hc), swap_i (by omega) (by omega) hn, bd_some, ix_n]
      have gt : lx (p (j + 1)) (p j) := l3.mp (by omega)
      obtain ⟨p', f1, f2, f3⟩ := ih fuel i (ud (ud p j (p (j + 1))) (j + 1) (p j)) (by omega) h2 (by omega) (fun v hv => h4 v ((swap_Mm (by omega) (by omega) (by omega) p v).mp hv)) (fun a b hab hb ca cb => by
        unfold ud
        by_cases c1 : b = j + 1
        · subst c1
          rw [if_pos rfl, if_neg (by omega), if_neg ca]
          exact h5 a j (by omega) (by omega) (by omega) (by omega)
        · rw [if_neg c1, if_neg cb]
          by_cases c2 : a = j + 1
          · subst c2
            rw [if_pos rfl]
            exact h5 j b (by omega) hb (by omega) c1
          · rw [if_neg c2, if_neg ca]
            exact h5 a b hab hb c2 c1) (fun b hab hb => by
        unfold ud
        rw [if_neg (show ¬ j = j + 1 by omega), if_pos rfl]
        by_cases c1 : b = j + 1
        · subst c1
          rw [if_pos rfl]
          exact fun h => lx_asym h gt
        · rw [if_neg c1, if_neg (by omega)]
          exact h6 b (by omega) hb)
      exact ⟨p', f1, f2, fun v => (f3 v).trans (swap_Mm (by omega) (by omega) (by omega) p v)⟩
theorem sort_out (n sz : Nat) (hsz : sz ≤ n) (hn : n < 1000) : ∀ (m fuel i : Nat) (p : Nat → V3), i + m = sz → 1 ≤ i → m < fuel → (∀ v, Mm sz p v → rc3 v) → (∀ a b, a < b → b < i → ¬ lx (p b) (p a)) → ∃ p', LX4_sort_2 n (iz (sz : Int)) fuel (iz (i : Int)) (px p) (py p) (pz p) = some (px p', py p', pz p') ∧ (∀ a b, a < b → b < sz → ¬ lx (p' b) (p' a)) ∧ (∀ v, Mm sz p' v ↔ Mm sz p v) := by
  intro m
  induction m with
  | zero =>
    intro fuel i p h1 h2 h3 h4 h5
    obtain ⟨fuel, rfl⟩ : ∃ q, fuel = q + 1 := ⟨fuel - 1, by omega⟩
    refine ⟨p, ?_, fun a b hab hb => h5 a b hab (by omega), fun v => Iff.rfl⟩
    rw [LX4_sort_2, if_pos ((ix_le (by omega) (by omega)).mpr (by omega))]
  | succ m ih =>
    intro fuel i p h1 h2 h3 h4 h5
    obtain ⟨fuel, rfl⟩ : ∃ q, fuel = q + 1 := ⟨fuel - 1, by omega⟩
    obtain ⟨p1, e1, e2, e3⟩ := sort_in n sz hsz hn (fun a1 mX mY mZ => LX4_sort_2 n (iz (sz : Int)) fuel (a1 + 1) mX mY mZ) i FU i p (Nat.le_refl _) (by omega) (by unfold FU; omega) h4 (fun a b hab hb ca cb => h5 a b hab (by omega)) (fun b hab hb => by omega)
    obtain ⟨p2, f1, f2, f3⟩ := ih fuel (i + 1) p1 (by omega) (by omega) (by omega) (fun v hv => h4 v ((e3 v).mp hv)) (fun a b hab hb => e2 a b hab (by omega))
    refine ⟨p2, ?_, f2, fun v => (f3 v).trans (e3 v)⟩
    rw [LX4_sort_2, if_neg (fun h => by have := (ix_le (by omega) (by omega)).mp h; omega), e1, ix_s, f1]
theorem sort_i {n sz : Nat} (hsz : sz ≤ n) (hn : n < 1000) (p : Nat → V3) (hp : ∀ v, Mm sz p v → rc3 v) : ∃ p', fX4_sort n (iz (sz : Int)) (px p) (py p) (pz p) = some (px p', py p', pz p') ∧ (∀ a b, a < b → b < sz → ¬ lx (p' b) (p' a)) ∧ (∀ v, Mm sz p' v ↔ Mm sz p v) := by
  unfold fX4_sort
  by_cases h : 1 ≤ sz
  · exact sort_out n sz hsz hn (sz - 1) FU 1 p (by omega) (by omega) (by unfold FU; omega) hp (fun a b hab hb => by omega)
  · refine ⟨p, ?_, fun a b hab hb => by omega, fun v => Iff.rfl⟩
    rw [show FU = 4999 + 1 from rfl, LX4_sort_2, if_pos (by rw [z1, iz_le (by omega) (by omega) (by omega) (by omega)]; omega)]
