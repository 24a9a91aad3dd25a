/-! what the reference's points fill -/
/-- the row of body b among the bonds -/
def BR (BO : Nat → Int32) (b : Nat) (N : V3) : Prop := BO (4 * b) = iz N.1 ∧ BO (4 * b + 1) = iz N.2.1 ∧ BO (4 * b + 2) = iz N.2.2
theorem filled_c {n : Nat} {P : Nat → V3} (hn : n ≤ 140) (hr : ∀ i, i < n → rc3 (P i)) {u : V3} (hu : sm100 u) {b : Nat} (hb : b < 8) (BO : Nat → Int32) (hn1 : 1 ≤ n) : ∀ (m fuel i : Nat), i + m = n → m < fuel → (∀ j, j < i → d3 u (P j) = d3 u (P 0)) → ((∀ j, j < n → d3 u (P j) = d3 u (P 0)) ∧ ∃ BO' : Nat → Int32, LX9_filled_218 (iz (n : Int)) (px P) (py P) (pz P) fuel (iz (b : Int)) (iz (d3 u (P 0))) (iz (i : Int)) (iz u.1) (iz u.2.1) (iz u.2.2) BO = some (2, iz u.1, iz u.2.1, iz u.2.2, BO') ∧ BR BO' b u ∧ BO' (4 * b + 3) = iz (d3 u (P 0)) ∧ ∀ x, (x < 4 * b ∨ 4 * b + 4 ≤ x) → BO' x = BO x) ∨ ((∃ j, j < n ∧ d3 u (P j) ≠ d3 u (P 0)) ∧ LX9_filled_218 (iz (n : Int)) (px P) (py P) (pz P) fuel (iz (b : Int)) (iz (d3 u (P 0))) (iz (i : Int)) (iz u.1) (iz u.2.1) (iz u.2.2) BO = some (3, iz u.1, iz u.2.1, iz u.2.2, BO)) := by
  intro m
  induction m with
  | zero =>
    intro fuel i h1 h2 h3
    obtain ⟨fuel, rfl⟩ : ∃ q, fuel = q + 1 := ⟨fuel - 1, by omega⟩
    refine Or.inl ⟨fun j hj => h3 j (by omega), upd (upd (upd (upd BO (4 * b) (iz u.1)) (4 * b + 1) (iz u.2.1)) (4 * b + 2) (iz u.2.2)) (4 * b + 3) (iz (d3 u (P 0))), ?_, ⟨?_, ?_, ?_⟩, ?_, fun x hx => ?_⟩
    · rw [LX9_filled_218, if_pos ((ix_le (by omega) (by omega)).mpr (by omega)), y4, ix_m, y1, ix_a, y2, ix_a, y3, ix_a, ix_gd (by omega) (by omega), ix_gd (by omega) (by omega), ix_gd (by omega) (by omega), ix_gd (by omega) (by omega), iz_cn (by omega), iz_cn (by omega), iz_cn (by omega), iz_cn (by omega)]
    · unfold upd; rw [if_neg (by omega), if_neg (by omega), if_neg (by omega), if_pos rfl]
    · unfold upd; rw [if_neg (by omega), if_neg (by omega), if_pos rfl]
    · unfold upd; rw [if_neg (by omega), if_pos rfl]
    · unfold upd; rw [if_pos rfl]
    · unfold upd; rw [if_neg (by omega), if_neg (by omega), if_neg (by omega), if_neg (by omega)]
  | succ m ih =>
    intro fuel i h1 h2 h3
    obtain ⟨fuel, rfl⟩ : ∃ q, fuel = q + 1 := ⟨fuel - 1, by omega⟩
    have hd := d3_bd hu (hr i (by omega))
    have h0 := d3_bd hu (hr 0 (by omega))
    rw [LX9_filled_218, if_neg (fun h => by have := (ix_le (by omega) (by omega)).mp h; omega), along_i (n := n) (by omega) hn, bd_some, ix_s]
    by_cases c : d3 u (P i) = d3 u (P 0)
    · rw [if_pos (by rw [c])]
      exact ih fuel (i + 1) (by omega) (by omega) (fun j hj => by
        by_cases cj : j = i
        · rw [cj]; exact c
        · exact h3 j (by omega))
    · rw [if_neg (by rw [iz_eq (by omega) (by omega) (by omega) (by omega)]; exact c)]
      exact Or.inr ⟨⟨i, by omega, c⟩, rfl⟩
/-- what filled gives -/
def FilP (n : Nat) (P : Nat → V3) (b : Nat) (BO : Nat → Int32) (r : Option (Int32 × Int32 × Int32 × Int32 × (Nat → Int32))) : Prop := ∃ (f : Nat) (N : V3) (sx sy sw : Int32) (BO' : Nat → Int32), r = some (iz (f : Int), sx, sy, sw, BO') ∧ FD (Mm n P) f N ∧ bdv 200 N ∧ (f = 1 ∨ f = 2 → BR BO' b N) ∧ (f = 2 → BO' (4 * b + 3) = iz (d3 N (P 0))) ∧ ∀ x, (x < 4 * b ∨ 4 * b + 4 ≤ x) → BO' x = BO x
theorem filled_b {n : Nat} {P : Nat → V3} (hn : n ≤ 140) (hn2 : 2 ≤ n) (hr : ∀ i, i < n → rc3 (P i)) {y : Nat} (hy : y < n) (hyc : cr (sb3 (P 1) (P 0)) (sb3 (P y) (P 0)) ≠ o3) {b : Nat} (hb : b < 8) (BO BO0 : Nat → Int32) (hBO : ∀ x, (x < 4 * b ∨ 4 * b + 4 ≤ x) → BO x = BO0 x) : FilP n P b BO0 (JX9_filled_126 (iz (n : Int)) (px P) (py P) (pz P) (iz (b : Int)) (iz (y : Int)) (iz (sh (cr (sb3 (P 1) (P 0)) (sb3 (P y) (P 0)))).1) (iz (sh (cr (sb3 (P 1) (P 0)) (sb3 (P y) (P 0)))).2.1) (iz (sh (cr (sb3 (P 1) (P 0)) (sb3 (P y) (P 0)))).2.2) BO) := by
  have hRb : bdv 200 (cr (sb3 (P 1) (P 0)) (sb3 (P y) (P 0))) := cr_bd (A := 10) (B := 10) (sb_bd (hr 1 (by omega)) (hr 0 (by omega))) (sb_bd (hr y hy) (hr 0 (by omega)))
  obtain ⟨pr, gp⟩ := sh_prim hyc
  have em := sh_mul (cr (sb3 (P 1) (P 0)) (sb3 (P y) (P 0)))
  have Mb : bdv 200 (sh (cr (sb3 (P 1) (P 0)) (sb3 (P y) (P 0)))) := bd_of_mul (by omega) em hRb
  have nr : ¬ row3 (P 0) (P 1) (P y) := hyc
  have dt : ∀ x, d3 (sh (cr (sb3 (P 1) (P 0)) (sb3 (P y) (P 0)))) x ≠ d3 (sh (cr (sb3 (P 1) (P 0)) (sb3 (P y) (P 0)))) (P 0) → d3 (cr (sb3 (P 1) (P 0)) (sb3 (P y) (P 0))) (sb3 x (P 0)) ≠ 0 := fun x hx h0 => by
    have := sh_z hyc h0
    rw [d3_sb] at this
    omega
  generalize hM : sh (cr (sb3 (P 1) (P 0)) (sb3 (P y) (P 0))) = M at *
  have fin : ∀ u : V3, (u = M ∨ u = ng3 M) → lx o3 u → FilP n P b BO0 (JX9_filled_208 (iz (n : Int)) (px P) (py P) (pz P) (iz (b : Int)) (iz u.1) (iz u.2.1) (iz u.2.2) BO) := by
    intro u hu hl
    have pu := pm_prim pr hu
    have ub : bdv 200 u := by
      rcases hu with hu | hu
      · rw [hu]; exact Mb
      · rw [hu]; obtain ⟨r1, r2, r3⟩ := Mb; unfold ng3; exact ⟨by dsimp only; omega, by dsimp only; omega, by dsimp only; omega⟩
    have us := bdv_100 (by decide) ub
    unfold JX9_filled_208
    rw [y0, along_i (n := n) (by omega) hn, bd_some]
    rcases filled_c hn hr us hb BO (by omega) n FU 0 (by omega) (by unfold FU; omega) (fun j hj => by omega) with ⟨h1, BO', h2, h3, h4, h5⟩ | ⟨⟨j, hj, nj⟩, h2⟩
    · refine ⟨2, u, _, _, _, BO', h2, Or.inr (Or.inr (Or.inl ⟨rfl, pu, hl, fun p q ⟨i, hi, ei⟩ ⟨j, hj, ej⟩ => by rw [← ei, ← ej, h1 i hi, h1 j hj], P 0, P 1, P y, ⟨0, by omega, rfl⟩, ⟨1, by omega, rfl⟩, ⟨y, hy, rfl⟩, nr⟩)), ub, fun _ => h3, fun _ => h4, fun x hx => by rw [h5 x hx, hBO x hx]⟩
    · refine ⟨3, u, _, _, _, BO, h2, Or.inr (Or.inr (Or.inr ⟨rfl, P 0, P 1, P y, P j, ⟨0, by omega, rfl⟩, ⟨1, by omega, rfl⟩, ⟨y, hy, rfl⟩, ⟨j, hj, rfl⟩, dt (P j) (fun h => nj ?_)⟩)), ub, fun h => by omega, fun h => by omega, hBO⟩
      rcases hu with hu | hu
      · rw [hu]; exact h
      · rw [hu, d3_ng, d3_ng, h]
  have up : lx o3 M → FilP n P b BO0 (JX9_filled_175 (iz (n : Int)) (px P) (py P) (pz P) (iz (b : Int)) (iz M.1) (iz M.2.1) (iz M.2.2) BO) := fun hl => by
    unfold JX9_filled_175 JX9_filled_176
    rw [if_pos rfl]
    exact fin M (Or.inl rfl) hl
  have dn : lx M o3 → FilP n P b BO0 (JX9_filled_171 (iz (n : Int)) (px P) (py P) (pz P) (iz (b : Int)) (iz M.1) (iz M.2.1) (iz M.2.2) BO) := fun hl => by
    unfold JX9_filled_171 JX9_filled_176
    rw [if_neg (by decide), iz_neg, iz_neg, iz_neg]
    exact fin (ng3 M) (Or.inr rfl) (lx_ng.mpr hl)
  have tri := lx_0 (prim_0 pr)
  obtain ⟨r1, r2, r3⟩ := Mb
  unfold JX9_filled_126
  rw [if_neg (fun h => by have := (ix_eq (by omega) (by omega)).mp h; omega), z0]
  simp (disch := omega) only [iz_lt, iz_eq, iz_le]
  unfold lx o3 at tri up dn
  dsimp only at tri up dn
  by_cases c1 : M.1 < 0
  · rw [if_pos c1]; exact dn (by omega)
  · rw [if_neg c1]
    by_cases c2 : M.1 = 0
    · rw [if_pos c2]
      by_cases c3 : M.2.1 < 0
      · rw [if_pos c3]; exact dn (by omega)
      · rw [if_neg c3]
        by_cases c4 : M.2.1 = 0
        · rw [if_pos c4]
          by_cases c5 : 0 ≤ M.2.2
          · rw [if_pos c5]; exact up (by omega)
          · rw [if_neg c5]; exact dn (by omega)
        · rw [if_neg c4]; exact up (by omega)
    · rw [if_neg c2]; exact up (by omega)
theorem filled_i {n : Nat} {P : Nat → V3} (hn : n ≤ 140) (hn1 : 1 ≤ n) (hr : ∀ i, i < n → rc3 (P i)) (hq : SS n P) {b : Nat} (hb : b < 8) (BO : Nat → Int32) (sx sy sw : Int32) : FilP n P b BO (fX9_filled (iz (n : Int)) sx sy sw BO (px P) (py P) (pz P) (iz (b : Int))) := by
  unfold fX9_filled
  by_cases c : n = 1
  · subst c
    rw [if_pos (show iz ((1 : Nat) : Int) = 1 from rfl)]
    exact ⟨0, o3, _, _, _, BO, rfl, Or.inl ⟨rfl, fun p q ⟨i, hi, ei⟩ ⟨j, hj, ej⟩ => by rw [← ei, ← ej, show i = 0 by omega, show j = 0 by omega]⟩, by unfold o3; exact ⟨by decide, by decide, by decide⟩, fun h => by omega, fun h => by omega, fun x _ => rfl⟩
  · have hn2 : 2 ≤ n := by omega
    have hLb : bdv 10 (sb3 (P 1) (P 0)) := sb_bd (hr 1 (by omega)) (hr 0 (by omega))
    have l01 := hq 0 1 (by omega) (by omega)
    have Lne : sb3 (P 1) (P 0) ≠ o3 := fun h => lx_irr (a := P 0) (by have := sb3_0.mp h; rw [this] at l01; exact l01)
    obtain ⟨pr, gp⟩ := sh_prim Lne
    have em := sh_mul (sb3 (P 1) (P 0))
    have Db : bdv 200 (sh (sb3 (P 1) (P 0))) := bdv_w (bd_of_mul (by omega) em hLb) (by decide)
    have hS : lx o3 (sh (sb3 (P 1) (P 0))) := by
      have := lx_sb.mp l01
      rw [em] at this
      exact (lx_sm (by omega) _).mp this
    have st := step_i (bdv_100 (by decide) hLb) sx sy sw
    have loop : ∀ (m fuel i : Nat) (sx sy sw : Int32) (BO1 : Nat → Int32), i + m = n → m < fuel → 2 ≤ i → BR BO1 b (sh (sb3 (P 1) (P 0))) → (∀ x, (x < 4 * b ∨ 4 * b + 4 ≤ x) → BO1 x = BO x) → (∀ j, j < i → cr (sb3 (P 1) (P 0)) (sb3 (P j) (P 0)) = o3) → FilP n P b BO (LX9_filled_95 (iz (n : Int)) (px P) (py P) (pz P) fuel (iz (b : Int)) (iz (i : Int)) sx sy sw BO1) := by
      intro m
      induction m with
      | zero =>
        intro fuel i sx sy sw BO1 h1 h2 h3 h4 h5 h6
        obtain ⟨fuel, rfl⟩ : ∃ q, fuel = q + 1 := ⟨fuel - 1, by omega⟩
        have e : i = n := by omega
        subst e
        rw [LX9_filled_95, if_pos ((ix_le (by omega) (by omega)).mpr (Nat.le_refl _))]
        unfold JX9_filled_126
        rw [if_pos rfl]
        refine ⟨1, sh (sb3 (P 1) (P 0)), _, _, _, BO1, rfl, Or.inr (Or.inl ⟨rfl, pr, hS, fun p q ⟨a, ha, ea⟩ ⟨c, hc, ec⟩ => ?_, P 0, P 1, ⟨0, by omega, rfl⟩, ⟨1, by omega, rfl⟩, fun h => Lne (sb3_0.mpr h.symm)⟩), Db, fun _ => h4, fun h => by omega, h5⟩
        have c1 := v3_iff.mp (cr_sh Lne (cr_sw (h6 a ha)))
        have c2 := v3_iff.mp (cr_sh Lne (cr_sw (h6 c hc)))
        rw [← ea, ← ec]
        generalize sh (sb3 (P 1) (P 0)) = D at *
        unfold cr sb3 o3 at c1 c2 ⊢
        dsimp only at c1 c2
        exact v3_ext (by dsimp only; grind) (by dsimp only; grind) (by dsimp only; grind)
      | succ m ih =>
        intro fuel i sx sy sw BO1 h1 h2 h3 h4 h5 h6
        obtain ⟨fuel, rfl⟩ : ∃ q, fuel = q + 1 := ⟨fuel - 1, by omega⟩
        have hv : sm100 (cr (sb3 (P 1) (P 0)) (sb3 (P i) (P 0))) := bdv_100 (by decide) (cr_bd (A := 10) (B := 10) hLb (sb_bd (hr i (by omega)) (hr 0 (by omega))))
        obtain ⟨r, n1, n2, n3⟩ := nought_i (sh_sm100 hv)
        rw [LX9_filled_95, if_neg (fun h => by have := (ix_le (by omega) (by omega)).mp h; omega), y0, y1, plane_i hn hr (by omega) (by omega) (by omega), bd_some, show fX9_isNought = fX6_isNought from rfl, n1, bd_some]
        by_cases cc : cr (sb3 (P 1) (P 0)) (sb3 (P i) (P 0)) = o3
        · have : r = 1 := n3.mpr (sh_0 cc)
          subst this
          rw [if_neg (by decide), ix_a]
          exact ih fuel (i + 1) _ _ _ BO1 (by omega) (by omega) (by omega) h4 h5 (fun j hj => by
            by_cases cj : j = i
            · rw [cj]; exact cc
            · exact h6 j (by omega))
        · have : r = 0 := by
            rcases n2 with q | q
            · exact q
            · exact (prim_0 (sh_prim cc).1 (n3.mp q)).elim
          subst this
          rw [if_pos (show iz 0 = iz ((0 : Nat) : Int) from rfl)]
          exact filled_b hn hn2 hr (by omega) cc hb BO1 BO h5
    rw [if_neg (show ¬ iz (n : Int) = 1 from fun h => by have := (ix_eq (a := n) (b := 1) (by omega) (by omega)).mp h; omega), y0, y1, ix_gd (by omega) (by omega), ix_gd (by omega) (by omega), iz_cn (by omega), iz_cn (by omega), px_i, px_i, py_i, py_i, pz_i, pz_i]
    simp only [iz_sub]
    refine (?_ : FilP n P b BO (bd _ _))
    have e2 : ∀ k, bd (fX9_step sx sy sw (iz ((P 1).1 - (P 0).1)) (iz ((P 1).2.1 - (P 0).2.1)) (iz ((P 1).2.2 - (P 0).2.2))) k = (k (iz (sh (sb3 (P 1) (P 0))).1, iz (sh (sb3 (P 1) (P 0))).2.1, iz (sh (sb3 (P 1) (P 0))).2.2) : Option (Int32 × Int32 × Int32 × Int32 × (Nat → Int32))) := fun k => by
      refine (congrArg (fun o => bd o k) st).trans ?_
      rw [bd_some]
    rw [e2, y4, ix_m, y2, ix_a, ix_a, ix_gd (by omega) (by omega), ix_gd (by omega) (by omega), ix_gd (by omega) (by omega), iz_cn (by omega), iz_cn (by omega), iz_cn (by omega)]
    refine loop (n - 2) FU 2 _ _ _ _ (by omega) (by unfold FU; omega) (by omega) ⟨?_, ?_, ?_⟩ (fun x hx => ?_) (fun j hj => ?_)
    · unfold upd; rw [if_neg (by omega), if_neg (by omega), if_pos rfl]
    · unfold upd; rw [if_neg (by omega), if_pos rfl]
    · unfold upd; rw [if_pos rfl]
    · unfold upd; rw [if_neg (by omega), if_neg (by omega), if_neg (by omega)]
    · rcases (show j = 0 ∨ j = 1 by omega) with rfl | rfl
      · unfold cr sb3 o3; exact v3_ext (by dsimp only; grind) (by dsimp only; grind) (by dsimp only; grind)
      · unfold cr o3; exact v3_ext (by dsimp only; grind) (by dsimp only; grind) (by dsimp only; grind)
