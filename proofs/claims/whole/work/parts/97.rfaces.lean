/-! the reference finds its sides -/
theorem rsq_i {u v : V3} (h : sm100 (cr u v)) (sx sy sw : Int32) : fX9_square sx sy sw (iz u.1) (iz u.2.1) (iz u.2.2) (iz v.1) (iz v.2.1) (iz v.2.2) = some (iz (sh (cr u v)).1, iz (sh (cr u v)).2.1, iz (sh (cr u v)).2.2) := by
  unfold fX9_square
  simp only [iz_mul, iz_sub]
  refine (congrArg (fun o => bd o _) (step_i h sx sy sw)).trans ?_
  rw [bd_some]
theorem plane_i {n : Nat} {P : Nat → V3} (hn : n ≤ 140) (hr : ∀ i, i < n → rc3 (P i)) {i j l : Nat} (hi : i < n) (hj : j < n) (hl : l < n) (sx sy sw : Int32) : fX9_planeOf sx sy sw (px P) (py P) (pz P) (iz (i : Int)) (iz (j : Int)) (iz (l : Int)) = some (iz (sh (cr (sb3 (P j) (P i)) (sb3 (P l) (P i)))).1, iz (sh (cr (sb3 (P j) (P i)) (sb3 (P l) (P i)))).2.1, iz (sh (cr (sb3 (P j) (P i)) (sb3 (P l) (P i)))).2.2) := by
  have hv : sm100 (cr (sb3 (P j) (P i)) (sb3 (P l) (P i))) := bdv_100 (by decide) (cr_bd (A := 10) (B := 10) (sb_bd (hr j hj) (hr i hi)) (sb_bd (hr l hl) (hr i hi)))
  unfold fX9_planeOf
  rw [ix_gd (by omega) (by omega), ix_gd (by omega) (by omega), ix_gd (by omega) (by omega), iz_cn (by omega), iz_cn (by omega), iz_cn (by omega), px_i, px_i, px_i, py_i, py_i, py_i, pz_i, pz_i, pz_i]
  simp only [iz_sub]
  refine (congrArg (fun o => bd o _) (rsq_i hv sx sy sw)).trans ?_
  rw [bd_some]
theorem ng_ng (v : V3) : ng3 (ng3 v) = v := by unfold ng3; exact v3_ext (by dsimp only; omega) (by dsimp only; omega) (by dsimp only; omega)
theorem pm_sym {u n : V3} (h : u = n ∨ u = ng3 n) : n = u ∨ n = ng3 u := by
  rcases h with h | h
  · exact Or.inl h.symm
  · right; rw [h, ng_ng]
theorem pm_prim {u v : V3} (hu : prim u) (h : v = u ∨ v = ng3 u) : prim v := by
  rcases h with h | h
  · rw [h]; exact hu
  · rw [h]; exact prim_ng hu
theorem sh_0 {v : V3} (h : v = o3) : sh v = o3 := by rw [h]; rfl
theorem sh_z {v u : V3} (hv : v ≠ o3) (h : d3 v u = 0) : d3 (sh v) u = 0 := by
  obtain ⟨_, p2⟩ := sh_prim hv
  rw [sh_mul v, d3_sm] at h
  exact (Int.mul_eq_zero.mp h).resolve_left (by omega)
theorem cr_sh {n v : V3} (hv : v ≠ o3) (h : cr n v = o3) : cr n (sh v) = o3 := by
  obtain ⟨_, p2⟩ := sh_prim hv
  rw [sh_mul v] at h
  have h := v3_iff.mp h
  unfold cr sm3 o3 at h
  dsimp only at h
  have g : (gv v : Int) ≠ 0 := by omega
  have key : ∀ y : Int, (gv v : Int) * y = 0 → y = 0 := fun y hy => (Int.mul_eq_zero.mp hy).resolve_left g
  unfold cr o3
  exact v3_ext (key _ (by dsimp only; grind)) (key _ (by dsimp only; grind)) (key _ (by dsimp only; grind))
abbrev KT := Option (Int32 × Int32 × Int32 × Int32 × Int32 × (Nat → Int32) × (Nat → Int32) × (Nat → Int32) × (Nat → Int32) × (Nat → Int32) × (Nat → Int32) × (Nat → Int32))
abbrev KR := (Nat → Int32) → (Nat → Int32) → (Nat → Int32) → (Nat → Int32) → (Nat → Int32) → (Nat → Int32) → (Nat → Int32) → KT
theorem rfaces_in {n : Nat} {P : Nat → V3} (hn : n ≤ 140) (hr : ∀ i, i < n → rc3 (P i)) (hW : ∀ u ne, Sd3 (Mm n P) u ne → sm100 u) (hB : ∀ m t', SS m t' → (∀ i, i < m → ∃ e, Sd3 (Mm n P) (t' i) e) → m ≤ 80) {b : Nat} (hb : b < 8) (FI CO CR MO BO : Nat → Int32) (hF : FI b = 3) (SI0 SR0 : Nat → Int32) (K : Int32 → Int32 → Int32 → Int32 → Int32 → Int32 → Int32 → Int32 → KR) (a1 mbo : Int32) {i j : Nat} (hi : i < n) (hj : j < n) : ∀ (m fuel l : Nat) (SI' SR : Nat → Int32) (ss : Nat) (s : Nat → V3) (e : Nat → Int) (sx sy sw : Int32), l + m = n → m < fuel → RS (Sd3 (Mm n P)) b SI0 SR0 SI' SR ss s e → ∃ (SI2 SR2 : Nat → Int32) (ss' : Nat) (s' : Nat → V3) (e' : Nat → Int) (sx' sy' sw' : Int32), LX9_made_153 (iz (n : Int)) (px P) (py P) (pz P) K fuel a1 (iz (b : Int)) (iz (i : Int)) (iz (j : Int)) (iz (l : Int)) mbo sx sy sw FI CO CR SI' SR MO BO = K a1 (iz (b : Int)) (iz (i : Int)) (iz (j : Int)) mbo sx' sy' sw' FI CO CR SI2 SR2 MO BO ∧ RS (Sd3 (Mm n P)) b SI0 SR0 SI2 SR2 ss' s' e' ∧ (∀ w, Mm ss s w → Mm ss' s' w) ∧ ∀ l', l ≤ l' → l' < n → Cov n P i j l' ss' s' := by
  intro m
  induction m with
  | zero =>
    intro fuel l SI' SR ss s e sx sy sw h1 h2 h3
    obtain ⟨fuel, rfl⟩ : ∃ q, fuel = q + 1 := ⟨fuel - 1, by omega⟩
    refine ⟨SI', SR, ss, s, e, sx, sy, sw, ?_, h3, fun w hw => hw, fun l' g1 g2 => by omega⟩
    rw [LX9_made_153, if_pos ((ix_le (by omega) (by omega)).mpr (by omega))]
  | succ m ih =>
    intro fuel l SI' SR ss s e sx sy sw h1 h2 h3
    obtain ⟨fuel, rfl⟩ : ∃ q, fuel = q + 1 := ⟨fuel - 1, by omega⟩
    have hv : sm100 (cr (sb3 (P j) (P i)) (sb3 (P l) (P i))) := bdv_100 (by decide) (cr_bd (A := 10) (B := 10) (sb_bd (hr j hj) (hr i hi)) (sb_bd (hr l (by omega)) (hr i hi)))
    have hu := sh_sm100 hv
    obtain ⟨r, n1, n2, n3⟩ := nought_i hu
    rw [LX9_made_153, if_neg (fun h => by have := (ix_le (by omega) (by omega)).mp h; omega), ix_gd hb (by omega), iz_cn (by omega), if_pos hF, plane_i hn hr hi hj (by omega), bd_some, show fX9_isNought = fX6_isNought from rfl, n1, bd_some]
    unfold JX9_made_194
    rw [ix_s]
    by_cases c : cr (sb3 (P j) (P i)) (sb3 (P l) (P i)) = o3
    · have : r = 1 := n3.mpr (sh_0 c)
      subst this
      rw [if_neg (by decide)]
      obtain ⟨SI2, SR2, ss', s', e', sx', sy', sw', k1, k2, k3, k4⟩ := ih fuel (l + 1) SI' SR ss s e _ _ _ (by omega) (by omega) h3
      refine ⟨SI2, SR2, ss', s', e', sx', sy', sw', k1, k2, k3, fun l' g1 g2 => ?_⟩
      by_cases cl : l' = l
      · subst cl
        exact fun n n1 n2 n3 n4 n5 n6 => (n5 c).elim
      · exact k4 l' (by omega) g2
    · obtain ⟨pr, gp⟩ := sh_prim c
      have : r = 0 := by
        rcases n2 with q | q
        · exact q
        · exact (prim_0 pr (n3.mp q)).elim
      subst this
      rw [if_pos (show iz 0 = 0 from rfl)]
      have o1 := sh_z c (d3_cr1 (sb3 (P j) (P i)) (sb3 (P l) (P i)))
      have o2 := sh_z c (d3_cr2 (sb3 (P j) (P i)) (sb3 (P l) (P i)))
      obtain ⟨SI1, SR1, ss1, s1, e1, g1, g2, g3, g4⟩ := both_i hn hi hr hb h3 (u := sh (cr (sb3 (P j) (P i)) (sb3 (P l) (P i)))) hu hW hB (fun v hvv hsup => ⟨pm_prim pr hvv, fun p ⟨x, hx, ex⟩ => by rw [← ex]; exact hsup x hx, P i, P j, P l, ⟨i, hi, rfl⟩, ⟨j, hj, rfl⟩, ⟨l, by omega, rfl⟩, rfl, by have := pm_0 hvv o1; rw [d3_sb] at this; omega, by have := pm_0 hvv o2; rw [d3_sb] at this; omega, c⟩)
      rw [g1, bd_some]
      obtain ⟨SI2, SR2, ss', s', e', sx', sy', sw', k1, k2, k3, k4⟩ := ih fuel (l + 1) SI1 SR1 ss1 s1 e1 _ _ _ (by omega) (by omega) g2
      refine ⟨SI2, SR2, ss', s', e', sx', sy', sw', k1, k2, fun w hw => k3 w (g3 w hw), fun l' a1 a2 => ?_⟩
      by_cases cl : l' = l
      · subst cl
        refine Cov_mono (fun n n1 n2 n3 n4 n5 n6 => ?_) k3
        refine g4 n (pm_sym (par_prim n1 pr (cr_sh c (cr_cr ?_ ?_)))) n2
        · rw [d3_sb]; omega
        · rw [d3_sb]; omega
      · exact k4 l' (by omega) a2
theorem rfaces_mid {n : Nat} {P : Nat → V3} (hn : n ≤ 140) (hr : ∀ i, i < n → rc3 (P i)) (hW : ∀ u ne, Sd3 (Mm n P) u ne → sm100 u) (hB : ∀ m t', SS m t' → (∀ i, i < m → ∃ e, Sd3 (Mm n P) (t' i) e) → m ≤ 80) {b : Nat} (hb : b < 8) (FI CO CR MO BO : Nat → Int32) (hF : FI b = 3) (SI0 SR0 : Nat → Int32) (K : Int32 → Int32 → Int32 → Int32 → Int32 → Int32 → Int32 → KR) (a1 mbo : Int32) {i : Nat} (hi : i < n) : ∀ (m fuel j : Nat) (SI' SR : Nat → Int32) (ss : Nat) (s : Nat → V3) (e : Nat → Int) (sx sy sw : Int32), j + m = n → m < fuel → RS (Sd3 (Mm n P)) b SI0 SR0 SI' SR ss s e → ∃ (SI2 SR2 : Nat → Int32) (ss' : Nat) (s' : Nat → V3) (e' : Nat → Int) (sx' sy' sw' : Int32), LX9_made_48 (iz (n : Int)) (px P) (py P) (pz P) K fuel a1 (iz (b : Int)) (iz (i : Int)) (iz (j : Int)) mbo sx sy sw FI CO CR SI' SR MO BO = K a1 (iz (b : Int)) (iz (i : Int)) mbo sx' sy' sw' FI CO CR SI2 SR2 MO BO ∧ RS (Sd3 (Mm n P)) b SI0 SR0 SI2 SR2 ss' s' e' ∧ (∀ w, Mm ss s w → Mm ss' s' w) ∧ ∀ j' l', j ≤ j' → j' < l' → l' < n → Cov n P i j' l' ss' s' := by
  intro m
  induction m with
  | zero =>
    intro fuel j SI' SR ss s e sx sy sw h1 h2 h3
    obtain ⟨fuel, rfl⟩ : ∃ q, fuel = q + 1 := ⟨fuel - 1, by omega⟩
    refine ⟨SI', SR, ss, s, e, sx, sy, sw, ?_, h3, fun w hw => hw, fun j' l' g1 g2 => by omega⟩
    rw [LX9_made_48, if_pos ((ix_le (by omega) (by omega)).mpr (by omega))]
  | succ m ih =>
    intro fuel j SI' SR ss s e sx sy sw h1 h2 h3
    obtain ⟨fuel, rfl⟩ : ∃ q, fuel = q + 1 := ⟨fuel - 1, by omega⟩
    obtain ⟨SI1, SR1, ss1, s1, e1, sx1, sy1, sw1, g1, g2, g3, g4⟩ := rfaces_in hn hr hW hB hb FI CO CR MO BO hF SI0 SR0 (fun a1 a2 a3 a4 mbo msx msy msw mFI mCO mCR mSI mSR mMO mBO => (LX9_made_48 (iz (n : Int)) (px P) (py P) (pz P) K fuel a1 a2 a3 (a4 + 1) mbo msx msy msw mFI mCO mCR mSI mSR mMO mBO)) a1 mbo (i := i) (j := j) hi (by omega) (n - (j + 1)) FU (j + 1) SI' SR ss s e sx sy sw (by omega) (by unfold FU; omega) h3
    obtain ⟨SI2, SR2, ss', s', e', sx', sy', sw', k1, k2, k3, k4⟩ := ih fuel (j + 1) SI1 SR1 ss1 s1 e1 sx1 sy1 sw1 (by omega) (by omega) g2
    refine ⟨SI2, SR2, ss', s', e', sx', sy', sw', ?_, k2, fun w hw => k3 w (g3 w hw), fun j' l' a1 a2 a3 => ?_⟩
    · rw [LX9_made_48, if_neg (fun h => by have := (ix_le (by omega) (by omega)).mp h; omega), ix_gd hb (by omega), iz_cn (by omega), if_neg (by rw [hF]; decide)]
      unfold JX9_made_147
      rw [ix_s]
      refine Eq.trans g1 ?_
      rw [ix_s]
      exact k1
    · by_cases c : j' = j
      · subst c
        exact Cov_mono (g4 l' (by omega) a3) k3
      · exact k4 j' l' (by omega) a2 a3
theorem rfaces_out {n : Nat} {P : Nat → V3} (hn : n ≤ 140) (hr : ∀ i, i < n → rc3 (P i)) (hW : ∀ u ne, Sd3 (Mm n P) u ne → sm100 u) (hB : ∀ m t', SS m t' → (∀ i, i < m → ∃ e, Sd3 (Mm n P) (t' i) e) → m ≤ 80) {b : Nat} (hb : b < 8) (FI CO CR MO BO : Nat → Int32) (hF : FI b = 3) (SI0 SR0 : Nat → Int32) (a1 mbo : Int32) : ∀ (m fuel i : Nat) (SI' SR : Nat → Int32) (ss : Nat) (s : Nat → V3) (e : Nat → Int) (sx sy sw : Int32), i + m = n → m < fuel → RS (Sd3 (Mm n P)) b SI0 SR0 SI' SR ss s e → ∃ (SI2 SR2 : Nat → Int32) (ss' : Nat) (s' : Nat → V3) (e' : Nat → Int) (sx' sy' sw' : Int32), LX9_made_25 (iz (n : Int)) (px P) (py P) (pz P) fuel a1 (iz (b : Int)) (iz (i : Int)) mbo sx sy sw FI CO CR SI' SR MO BO = JX9_made_212 (iz (n : Int)) (px P) (py P) (pz P) a1 (iz (b : Int)) mbo sx' sy' sw' FI CO CR SI2 SR2 MO BO ∧ RS (Sd3 (Mm n P)) b SI0 SR0 SI2 SR2 ss' s' e' ∧ (∀ w, Mm ss s w → Mm ss' s' w) ∧ ∀ i' j' l', i ≤ i' → i' < j' → j' < l' → l' < n → Cov n P i' j' l' ss' s' := by
  intro m
  induction m with
  | zero =>
    intro fuel i SI' SR ss s e sx sy sw h1 h2 h3
    obtain ⟨fuel, rfl⟩ : ∃ q, fuel = q + 1 := ⟨fuel - 1, by omega⟩
    refine ⟨SI', SR, ss, s, e, sx, sy, sw, ?_, h3, fun w hw => hw, fun i' j' l' g1 g2 => by omega⟩
    rw [LX9_made_25, if_pos ((ix_le (by omega) (by omega)).mpr (by omega))]
  | succ m ih =>
    intro fuel i SI' SR ss s e sx sy sw h1 h2 h3
    obtain ⟨fuel, rfl⟩ : ∃ q, fuel = q + 1 := ⟨fuel - 1, by omega⟩
    obtain ⟨SI1, SR1, ss1, s1, e1, sx1, sy1, sw1, g1, g2, g3, g4⟩ := rfaces_mid hn hr hW hB hb FI CO CR MO BO hF SI0 SR0 (fun a1 a2 a3 mbo msx msy msw mFI mCO mCR mSI mSR mMO mBO => (LX9_made_25 (iz (n : Int)) (px P) (py P) (pz P) fuel a1 a2 (a3 + 1) mbo msx msy msw mFI mCO mCR mSI mSR mMO mBO)) a1 mbo (i := i) (by omega) (n - (i + 1)) FU (i + 1) SI' SR ss s e sx sy sw (by omega) (by unfold FU; omega) h3
    obtain ⟨SI2, SR2, ss', s', e', sx', sy', sw', k1, k2, k3, k4⟩ := ih fuel (i + 1) SI1 SR1 ss1 s1 e1 sx1 sy1 sw1 (by omega) (by omega) g2
    refine ⟨SI2, SR2, ss', s', e', sx', sy', sw', ?_, k2, fun w hw => k3 w (g3 w hw), fun i' j' l' a1 a2 a3 a4 => ?_⟩
    · rw [LX9_made_25, if_neg (fun h => by have := (ix_le (by omega) (by omega)).mp h; omega), ix_gd hb (by omega), iz_cn (by omega), if_neg (by rw [hF]; decide), ix_s]
      refine Eq.trans g1 ?_
      rw [ix_s]
      exact k1
    · by_cases c : i' = i
      · subst c
        exact Cov_mono (g4 j' l' (by omega) a3 a4) k3
      · exact k4 i' j' l' (by omega) a2 a3 a4
