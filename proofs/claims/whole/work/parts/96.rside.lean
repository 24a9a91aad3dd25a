/-! the reference tries a side -/
/-- the reference's rows of body b: sides s, e; those of others as in SI0, SR0 -/
def RS (W : V3 → Int → Prop) (b : Nat) (SI0 SR0 SI' SR : Nat → Int32) (ss : Nat) (s : Nat → V3) (e : Nat → Int) : Prop := SI' b = iz (ss : Int) ∧ Rw SR b ss s e ∧ SI W ss s e ∧ (∀ x, x ≠ b → SI' x = SI0 x) ∧ ∀ x, (x < 360 * b ∨ 360 * b + 360 ≤ x) → SR x = SR0 x
theorem rside_at {po : Int32} {PX PY PZ : Nat → Int32} {W : V3 → Int → Prop} {b : Nat} (hb : b < 8) {SI0 SR0 SI' SR : Nat → Int32} {ss : Nat} {s : Nat → V3} {e : Nat → Int} (h : RS W b SI0 SR0 SI' SR ss s e) {u : V3} {ne : Int} (hW : ∀ u ne, W u ne → sm100 u) (hB : ∀ m t', SS m t' → (∀ i, i < m → ∃ e, W (t' i) e) → m ≤ 80) (hu : W u ne) : ∀ (m fuel k : Nat), k + m = ss → m < fuel → (∀ i, i < k → lx (s i) u) → ∃ (SI2 SR2 : Nat → Int32) (ss' : Nat) (s' : Nat → V3) (e' : Nat → Int), LX9_side_45 po (iz u.1) (iz u.2.1) (iz u.2.2) PX PY PZ fuel (iz (b : Int)) (iz ne) (iz ((360 * b : Nat) : Int)) (iz (k : Int)) SI' SR = some (SI2, SR2) ∧ RS W b SI0 SR0 SI2 SR2 ss' s' e' ∧ (∀ w, Mm ss s w → Mm ss' s' w) ∧ Mm ss' s' u := by
  obtain ⟨h1, h2, ⟨h3, h3'⟩, h4, h5⟩ := h
  have hss : ss ≤ 80 := hB ss s h3 (fun i hi => ⟨_, h3' i hi⟩)
  intro m
  have fin : ∀ k, k ≤ ss → (∀ i, i < k → lx (s i) u) → (∀ i, k ≤ i → i < ss → lx u (s i)) → ∃ (SI2 SR2 : Nat → Int32) (ss' : Nat) (s' : Nat → V3) (e' : Nat → Int), JX9_side_143 po (iz u.1) (iz u.2.1) (iz u.2.2) PX PY PZ (iz (b : Int)) (iz ne) (iz ((360 * b : Nat) : Int)) (iz (k : Int)) (iz ((360 * b + 4 * k : Nat) : Int)) SI' SR = some (SI2, SR2) ∧ RS W b SI0 SR0 SI2 SR2 ss' s' e' ∧ (∀ w, Mm ss s w → Mm ss' s' w) ∧ Mm ss' s' u := by
    intro k hk l1 l2
    have hI := ins_Ins (e := e) (ne := ne) hk h3 l1 l2 (fun a _ => ⟨rfl, rfl⟩)
    have hW2 : ∀ i, i < ss + 1 → W (insA s k u i) (insA e k ne i) := fun i hi => by
      rcases hI.2.2 i hi with ⟨j, hj, g1, g2⟩ | ⟨g1, g2⟩
      · rw [g1, g2]; exact h3' j hj
      · rw [g1, g2]; exact hu
    have hc : ss + 1 ≤ 80 := hB (ss + 1) (insA s k u) hI.1 (fun i hi => ⟨_, hW2 i hi⟩)
    obtain ⟨SR2, e1, e2, e3⟩ := rside_put (po := po) (PX := PX) (PY := PY) (PZ := PZ) (u := u) (ne := ne) hb hk (by omega) h1 h2
    refine ⟨upd SI' b (iz ((ss + 1 : Nat) : Int)), SR2, ss + 1, insA s k u, insA e k ne, e1, ⟨?_, e2, ⟨hI.1, hW2⟩, fun x hx => ?_, fun x hx => ?_⟩, fun w hw => (hI.2.1 w).mpr (Or.inl hw), (hI.2.1 u).mpr (Or.inr rfl)⟩
    · unfold upd; rw [if_pos rfl]
    · unfold upd; rw [if_neg hx]; exact h4 x hx
    · rw [e3 x hx]; exact h5 x hx
  induction m with
  | zero =>
    intro fuel k g1 g2 g3
    obtain ⟨fuel, rfl⟩ : ∃ q, fuel = q + 1 := ⟨fuel - 1, by omega⟩
    rw [LX9_side_45, ix_gd hb (by omega), iz_cn (by omega), h1, if_pos ((ix_le (by omega) (by omega)).mpr (by omega))]
    unfold JX9_side_76
    rw [ix_gd hb (by omega), iz_cn (by omega), h1, if_pos ((ix_le (by omega) (by omega)).mpr (by omega)), y4, ix_m, ix_a]
    exact fin k (by omega) g3 (fun i a1 a2 => by omega)
  | succ m ih =>
    intro fuel k g1 g2 g3
    obtain ⟨fuel, rfl⟩ : ∃ q, fuel = q + 1 := ⟨fuel - 1, by omega⟩
    have hsk := hW _ _ (h3' k (by omega))
    have hu' := hW _ _ hu
    obtain ⟨r, e1, r1, r2⟩ := rless_i (u := u) hb (show k < ss by omega) hss h2 hsk hu'
    rw [LX9_side_45, ix_gd hb (by omega), iz_cn (by omega), h1, if_neg (fun h => by have := (ix_le (by omega) (by omega)).mp h; omega), y4, ix_m, ix_a, e1, bd_some]
    rcases r1 with r1 | r1
    · subst r1
      have nl : ¬ lx (s k) u := fun h => by have := r2.mpr h; omega
      rw [if_pos (show iz 0 = 0 from rfl)]
      unfold JX9_side_76
      obtain ⟨q1, q2, q3, q4⟩ := h2 k (by omega)
      rw [ix_gd hb (by omega), iz_cn (by omega), h1, if_neg (fun h => by have := (ix_le (by omega) (by omega)).mp h; omega), y4, ix_m, ix_a, y1, ix_a, y2, ix_a, ix_gd (by omega) (by omega), ix_gd (by omega) (by omega), ix_gd (by omega) (by omega), iz_cn (by omega), iz_cn (by omega), iz_cn (by omega), q1, q2, q3]
      obtain ⟨a1, a2, a3⟩ := hsk
      obtain ⟨b1, b2, b3⟩ := hu'
      simp (disch := omega) only [iz_eq]
      have fin2 : s k ≠ u → ∃ (SI2 SR2 : Nat → Int32) (ss' : Nat) (s' : Nat → V3) (e' : Nat → Int), JX9_side_143 po (iz u.1) (iz u.2.1) (iz u.2.2) PX PY PZ (iz (b : Int)) (iz ne) (iz ((360 * b : Nat) : Int)) (iz (k : Int)) (iz ((360 * b + 4 * k : Nat) : Int)) SI' SR = some (SI2, SR2) ∧ RS W b SI0 SR0 SI2 SR2 ss' s' e' ∧ (∀ w, Mm ss s w → Mm ss' s' w) ∧ Mm ss' s' u := fun ne => fin k (by omega) g3 (fun i c1 c2 => by
        have lu : lx u (s k) := by
          rcases lx_tri (s k) u with t | t | t
          · exact (nl t).elim
          · exact (ne t).elim
          · exact t
        by_cases c : i = k
        · rw [c]; exact lu
        · exact lx_tr lu (h3 k i (by omega) c2))
      by_cases c1 : (s k).1 = u.1
      · rw [if_pos c1]
        by_cases c2 : (s k).2.1 = u.2.1
        · rw [if_pos c2]
          by_cases c3 : (s k).2.2 = u.2.2
          · rw [if_pos c3]
            exact ⟨SI', SR, ss, s, e, rfl, ⟨h1, h2, ⟨h3, h3'⟩, h4, h5⟩, fun w hw => hw, k, by omega, v3_ext c1 c2 c3⟩
          · rw [if_neg c3]; exact fin2 (fun e => c3 (by rw [e]))
        · rw [if_neg c2]; exact fin2 (fun e => c2 (by rw [e]))
      · rw [if_neg c1]; exact fin2 (fun e => c1 (by rw [e]))
    · subst r1
      rw [if_neg (by decide), ix_s]
      have := ih fuel (k + 1) (by omega) (by omega) (fun i hi => by
        by_cases c : i = k
        · rw [c]; exact r2.mp rfl
        · exact g3 i (by omega))
      exact this
theorem rside_i {n t : Nat} {P : Nat → V3} (hn : n ≤ 140) (ht : t < n) (hr : ∀ i, i < n → rc3 (P i)) {W : V3 → Int → Prop} {b : Nat} (hb : b < 8) {SI0 SR0 SI' SR : Nat → Int32} {ss : Nat} {s : Nat → V3} {e : Nat → Int} (h : RS W b SI0 SR0 SI' SR ss s e) {u : V3} (hu : sm100 u) (hW : ∀ u ne, W u ne → sm100 u) (hB : ∀ m t', SS m t' → (∀ i, i < m → ∃ e, W (t' i) e) → m ≤ 80) (hS : (∀ j, j < n → d3 u (P j) ≤ d3 u (P t)) → W u (d3 u (P t))) : ∃ (SI2 SR2 : Nat → Int32) (ss' : Nat) (s' : Nat → V3) (e' : Nat → Int), fX9_side (iz (n : Int)) (iz u.1) (iz u.2.1) (iz u.2.2) SI' SR (px P) (py P) (pz P) (iz (b : Int)) (iz (t : Int)) = some (SI2, SR2) ∧ RS W b SI0 SR0 SI2 SR2 ss' s' e' ∧ (∀ w, Mm ss s w → Mm ss' s' w) ∧ ((∀ j, j < n → d3 u (P j) ≤ d3 u (P t)) → Mm ss' s' u) := by
  have ht' := d3_bd hu (hr t ht)
  have loop : ∀ (m fuel i : Nat), i + m = n → m < fuel → (∀ j, j < i → d3 u (P j) ≤ d3 u (P t)) → ∃ (SI2 SR2 : Nat → Int32) (ss' : Nat) (s' : Nat → V3) (e' : Nat → Int), LX9_side_9 (iz (n : Int)) (iz u.1) (iz u.2.1) (iz u.2.2) (px P) (py P) (pz P) fuel (iz (b : Int)) (iz (d3 u (P t))) (iz (i : Int)) SI' SR = some (SI2, SR2) ∧ RS W b SI0 SR0 SI2 SR2 ss' s' e' ∧ (∀ w, Mm ss s w → Mm ss' s' w) ∧ ((∀ j, j < n → d3 u (P j) ≤ d3 u (P t)) → Mm ss' s' u) := by
    intro m
    induction m with
    | zero =>
      intro fuel i h1 h2 h3
      obtain ⟨fuel, rfl⟩ : ∃ q, fuel = q + 1 := ⟨fuel - 1, by omega⟩
      have hss : ss ≤ 80 := hB ss s h.2.2.1.1 (fun i hi => ⟨_, h.2.2.1.2 i hi⟩)
      obtain ⟨SI2, SR2, ss', s', e', g1, g2, g3, g4⟩ := rside_at (po := iz (n : Int)) (PX := px P) (PY := py P) (PZ := pz P) hb h hW hB (hS (fun j hj => h3 j (by omega))) ss FU 0 (by omega) (by unfold FU; omega) (fun i hi => by omega)
      refine ⟨SI2, SR2, ss', s', e', ?_, g2, g3, fun _ => g4⟩
      rw [LX9_side_9, if_pos ((ix_le (by omega) (by omega)).mpr (by omega)), y360, ix_m]
      exact g1
    | succ m ih =>
      intro fuel i h1 h2 h3
      obtain ⟨fuel, rfl⟩ : ∃ q, fuel = q + 1 := ⟨fuel - 1, by omega⟩
      have hd := d3_bd hu (hr i (by omega))
      rw [LX9_side_9, if_neg (fun h => by have := (ix_le (by omega) (by omega)).mp h; omega), along_i (n := n) (by omega) hn, bd_some, ix_s]
      by_cases c : d3 u (P i) ≤ d3 u (P t)
      · rw [if_pos (by rw [iz_le (by omega) (by omega) (by omega) (by omega)]; exact c)]
        exact ih fuel (i + 1) (by omega) (by omega) (fun j hj => by
          by_cases cj : j = i
          · rw [cj]; exact c
          · exact h3 j (by omega))
      · rw [if_neg (by rw [iz_le (by omega) (by omega) (by omega) (by omega)]; exact c)]
        exact ⟨SI', SR, ss, s, e, rfl, h, fun w hw => hw, fun hh => (c (hh i (by omega))).elim⟩
  unfold fX9_side
  rw [along_i (n := n) ht hn, bd_some]
  exact loop n FU 0 (by omega) (by unfold FU; omega) (fun j hj => by omega)
theorem both_i {n t : Nat} {P : Nat → V3} (hn : n ≤ 140) (ht : t < n) (hr : ∀ i, i < n → rc3 (P i)) {W : V3 → Int → Prop} {b : Nat} (hb : b < 8) {SI0 SR0 SI' SR : Nat → Int32} {ss : Nat} {s : Nat → V3} {e : Nat → Int} (h : RS W b SI0 SR0 SI' SR ss s e) {u : V3} (hu : sm100 u) (hW : ∀ u ne, W u ne → sm100 u) (hB : ∀ m t', SS m t' → (∀ i, i < m → ∃ e, W (t' i) e) → m ≤ 80) (hS : ∀ v, (v = u ∨ v = ng3 u) → (∀ j, j < n → d3 v (P j) ≤ d3 v (P t)) → W v (d3 v (P t))) : ∃ (SI2 SR2 : Nat → Int32) (ss' : Nat) (s' : Nat → V3) (e' : Nat → Int), fX9_bothSides (iz (n : Int)) (iz u.1) (iz u.2.1) (iz u.2.2) SI' SR (px P) (py P) (pz P) (iz (b : Int)) (iz (t : Int)) = some (iz (ng3 u).1, iz (ng3 u).2.1, iz (ng3 u).2.2, SI2, SR2) ∧ RS W b SI0 SR0 SI2 SR2 ss' s' e' ∧ (∀ w, Mm ss s w → Mm ss' s' w) ∧ ∀ v, (v = u ∨ v = ng3 u) → (∀ j, j < n → d3 v (P j) ≤ d3 v (P t)) → Mm ss' s' v := by
  obtain ⟨SI2, SR2, ss', s', e', g1, g2, g3, g4⟩ := rside_i hn ht hr hb h hu hW hB (hS u (Or.inl rfl))
  obtain ⟨SI3, SR3, ss2, s2, e2, k1, k2, k3, k4⟩ := rside_i hn ht hr hb g2 (u := ng3 u) (ng_sm100 hu) hW hB (hS (ng3 u) (Or.inr rfl))
  refine ⟨SI3, SR3, ss2, s2, e2, ?_, k2, fun w hw => k3 w (g3 w hw), fun v hv hh => ?_⟩
  · unfold fX9_bothSides
    rw [g1, bd_some]
    simp only [iz_neg]
    refine (congrArg (fun o => bd o _) k1).trans ?_
    rw [bd_some]
    rfl
  · rcases hv with hv | hv
    · subst hv; exact k3 v (g4 hh)
    · subst hv; exact k4 hh
