/-! edges and ends of the reference -/
theorem skip153 {n b : Nat} {PX PY PZ : Nat → Int32} (hb : b < 8) {FI : Nat → Int32} (hF : FI b ≠ 3) (K : Int32 → Int32 → Int32 → Int32 → Int32 → Int32 → Int32 → Int32 → KR) (a1 a3 a4 a5 mbo sx sy sw : Int32) (CO CR SI' SR MO BO : Nat → Int32) : LX9_made_153 (iz (n : Int)) PX PY PZ K FU a1 (iz (b : Int)) a3 a4 a5 mbo sx sy sw FI CO CR SI' SR MO BO = K a1 (iz (b : Int)) a3 a4 mbo sx sy sw FI CO CR SI' SR MO BO := by
  rw [show FU = 4999 + 1 from rfl, LX9_made_153]
  by_cases c : iz (n : Int) ≤ a5
  · rw [if_pos c]
  · rw [if_neg c, ix_gd hb (by omega), iz_cn (by omega), if_neg hF]
theorem redges_mid {n : Nat} {P : Nat → V3} {N : V3} (hn : n ≤ 140) (hr : ∀ i, i < n → rc3 (P i)) (hq : SS n P) (hNb : bdv 1000 N) (hN0 : N ≠ o3) (hN : ∀ i j, i < n → j < n → d3 N (P i) = d3 N (P j)) (hW : ∀ u ne, Sd2 (Mm n P) N u ne → sm100 u) (hB : ∀ m t', SS m t' → (∀ i, i < m → ∃ e, Sd2 (Mm n P) N (t' i) e) → m ≤ 80) {b : Nat} (hb : b < 8) (FI CO CR MO BO : Nat → Int32) (hF : FI b = 2) (hBO : BO (4 * b) = iz N.1 ∧ BO (4 * b + 1) = iz N.2.1 ∧ BO (4 * b + 2) = iz N.2.2) (SI0 SR0 : Nat → Int32) (K : Int32 → Int32 → Int32 → Int32 → Int32 → Int32 → Int32 → KR) (a1 mbo : Int32) {i : Nat} (hi : i < n) : ∀ (m fuel j : Nat) (SI' SR : Nat → Int32) (ss : Nat) (s : Nat → V3) (e : Nat → Int) (sx sy sw : Int32), j + m = n → i < j → m < fuel → RS (Sd2 (Mm n P) N) b SI0 SR0 SI' SR ss s e → ∃ (SI2 SR2 : Nat → Int32) (ss' : Nat) (s' : Nat → V3) (e' : Nat → Int) (sx' sy' sw' : Int32), LX9_made_48 (iz (n : Int)) (px P) (py P) (pz P) K fuel a1 (iz (b : Int)) (iz (i : Int)) (iz (j : Int)) mbo sx sy sw FI CO CR SI' SR MO BO = K a1 (iz (b : Int)) (iz (i : Int)) mbo sx' sy' sw' FI CO CR SI2 SR2 MO BO ∧ RS (Sd2 (Mm n P) N) b SI0 SR0 SI2 SR2 ss' s' e' ∧ (∀ w, Mm ss s w → Mm ss' s' w) ∧ ∀ j', j ≤ j' → j' < n → Cov2 n P N i j' ss' s' := by
  intro m
  induction m with
  | zero =>
    intro fuel j SI' SR ss s e sx sy sw h1 h0 h2 h3
    obtain ⟨fuel, rfl⟩ : ∃ q, fuel = q + 1 := ⟨fuel - 1, by omega⟩
    refine ⟨SI', SR, ss, s, e, sx, sy, sw, ?_, h3, fun w hw => hw, fun j' g1 g2 => by omega⟩
    rw [LX9_made_48, if_pos ((ix_le (by omega) (by omega)).mpr (by omega))]
  | succ m ih =>
    intro fuel j SI' SR ss s e sx sy sw h1 h0 h2 h3
    obtain ⟨fuel, rfl⟩ : ∃ q, fuel = q + 1 := ⟨fuel - 1, by omega⟩
    have hv : sm100 (cr (sb3 (P j) (P i)) N) := bdv_100 (by decide) (cr_bd (A := 10) (B := 1000) (sb_bd (hr j (by omega)) (hr i hi)) hNb)
    have ne : P i ≠ P j := fun h => lx_irr (a := P i) (by have := hq i j h0 (by omega); rw [← h] at this; exact this)
    have vne : cr (sb3 (P j) (P i)) N ≠ o3 := cr_ne (by rw [d3_sb, hN j i (by omega) hi]; omega) (fun h => ne (sb3_0.mp h).symm) hN0
    obtain ⟨pr, gp⟩ := sh_prim vne
    have o1 := sh_z vne (d3_cr1 (sb3 (P j) (P i)) N)
    have o2 := sh_z vne (d3_cr2 (sb3 (P j) (P i)) N)
    have sq := rsq_i (u := sb3 (P j) (P i)) (v := N) hv sx sy sw
    obtain ⟨SI1, SR1, ss1, s1, e1, g1, g2, g3, g4⟩ := both_i hn hi hr hb h3 (u := sh (cr (sb3 (P j) (P i)) N)) (sh_sm100 hv) hW hB (fun v hvv hsup => ⟨pm_prim pr hvv, pm_0 hvv o2, fun p ⟨x, hx, ex⟩ => by rw [← ex]; exact hsup x hx, P i, P j, ⟨i, hi, rfl⟩, ⟨j, by omega, rfl⟩, ne, rfl, by have := pm_0 hvv o1; rw [d3_sb] at this; omega⟩)
    obtain ⟨SI2, SR2, ss', s', e', sx', sy', sw', k1, k2, k3, k4⟩ := ih fuel (j + 1) SI1 SR1 ss1 s1 e1 (iz (ng3 (sh (cr (sb3 (P j) (P i)) N))).1) (iz (ng3 (sh (cr (sb3 (P j) (P i)) N))).2.1) (iz (ng3 (sh (cr (sb3 (P j) (P i)) N))).2.2) (by omega) (by omega) (by omega) g2
    refine ⟨SI2, SR2, ss', s', e', sx', sy', sw', ?_, k2, fun w hw => k3 w (g3 w hw), fun j' a1 a2 => ?_⟩
    · rw [LX9_made_48, if_neg (fun h => by have := (ix_le (by omega) (by omega)).mp h; omega), ix_gd hb (by omega), iz_cn (by omega), if_pos hF, y4, ix_m, y1, ix_a, y2, ix_a, ix_gd (by omega) (by omega), ix_gd (by omega) (by omega), ix_gd (by omega) (by omega), ix_gd (by omega) (by omega), ix_gd (by omega) (by omega), iz_cn (by omega), iz_cn (by omega), iz_cn (by omega), iz_cn (by omega), iz_cn (by omega), hBO.1, hBO.2.1, hBO.2.2, px_i, px_i, py_i, py_i, pz_i, pz_i]
      simp only [iz_sub]
      refine (congrArg (fun o => bd o _) sq).trans ?_
      rw [bd_some]
      refine (congrArg (fun o => bd o _) g1).trans ?_
      rw [bd_some]
      unfold JX9_made_147
      rw [skip153 hb (by rw [hF]; decide), ix_s]
      exact k1
    · by_cases c : j' = j
      · subst c
        refine Cov2_mono (fun n n1 n2 n3 n4 n5 => ?_) k3
        exact g4 n (pm_sym (par_prim n1 pr (cr_sh vne (cr_cr (by rw [d3_sb]; omega) n2)))) n3
      · exact k4 j' (by omega) a2
theorem redges_out {n : Nat} {P : Nat → V3} {N : V3} (hn : n ≤ 140) (hr : ∀ i, i < n → rc3 (P i)) (hq : SS n P) (hNb : bdv 1000 N) (hN0 : N ≠ o3) (hN : ∀ i j, i < n → j < n → d3 N (P i) = d3 N (P j)) (hW : ∀ u ne, Sd2 (Mm n P) N u ne → sm100 u) (hB : ∀ m t', SS m t' → (∀ i, i < m → ∃ e, Sd2 (Mm n P) N (t' i) e) → m ≤ 80) {b : Nat} (hb : b < 8) (FI CO CR MO BO : Nat → Int32) (hF : FI b = 2) (hBO : BO (4 * b) = iz N.1 ∧ BO (4 * b + 1) = iz N.2.1 ∧ BO (4 * b + 2) = iz N.2.2) (SI0 SR0 : Nat → Int32) (a1 mbo : Int32) : ∀ (m fuel i : Nat) (SI' SR : Nat → Int32) (ss : Nat) (s : Nat → V3) (e : Nat → Int) (sx sy sw : Int32), i + m = n → m < fuel → RS (Sd2 (Mm n P) N) b SI0 SR0 SI' SR ss s e → ∃ (SI2 SR2 : Nat → Int32) (ss' : Nat) (s' : Nat → V3) (e' : Nat → Int) (sx' sy' sw' : Int32), LX9_made_25 (iz (n : Int)) (px P) (py P) (pz P) fuel a1 (iz (b : Int)) (iz (i : Int)) mbo sx sy sw FI CO CR SI' SR MO BO = JX9_made_212 (iz (n : Int)) (px P) (py P) (pz P) a1 (iz (b : Int)) mbo sx' sy' sw' FI CO CR SI2 SR2 MO BO ∧ RS (Sd2 (Mm n P) N) b SI0 SR0 SI2 SR2 ss' s' e' ∧ (∀ w, Mm ss s w → Mm ss' s' w) ∧ ∀ i' j', i ≤ i' → i' < j' → j' < n → Cov2 n P N i' j' ss' s' := by
  intro m
  induction m with
  | zero =>
    intro fuel i SI' SR ss s e sx sy sw h1 h2 h3
    obtain ⟨fuel, rfl⟩ : ∃ q, fuel = q + 1 := ⟨fuel - 1, by omega⟩
    refine ⟨SI', SR, ss, s, e, sx, sy, sw, ?_, h3, fun w hw => hw, fun i' j' g1 g2 => by omega⟩
    rw [LX9_made_25, if_pos ((ix_le (by omega) (by omega)).mpr (by omega))]
  | succ m ih =>
    intro fuel i SI' SR ss s e sx sy sw h1 h2 h3
    obtain ⟨fuel, rfl⟩ : ∃ q, fuel = q + 1 := ⟨fuel - 1, by omega⟩
    obtain ⟨SI1, SR1, ss1, s1, e1, sx1, sy1, sw1, g1, g2, g3, g4⟩ := redges_mid hn hr hq hNb hN0 hN hW hB hb FI CO CR MO BO hF hBO SI0 SR0 (fun a1 a2 a3 mbo msx msy msw mFI mCO mCR mSI mSR mMO mBO => (LX9_made_25 (iz (n : Int)) (px P) (py P) (pz P) fuel a1 a2 (a3 + 1) mbo msx msy msw mFI mCO mCR mSI mSR mMO mBO)) a1 mbo (i := i) (by omega) (n - (i + 1)) FU (i + 1) SI' SR ss s e sx sy sw (by omega) (by omega) (by unfold FU; omega) h3
    obtain ⟨SI2, SR2, ss', s', e', sx', sy', sw', k1, k2, k3, k4⟩ := ih fuel (i + 1) SI1 SR1 ss1 s1 e1 sx1 sy1 sw1 (by omega) (by omega) g2
    refine ⟨SI2, SR2, ss', s', e', sx', sy', sw', ?_, k2, fun w hw => k3 w (g3 w hw), fun i' j' a1 a2 a3 => ?_⟩
    · rw [LX9_made_25, if_neg (fun h => by have := (ix_le (by omega) (by omega)).mp h; omega), ix_gd hb (by omega), iz_cn (by omega), if_neg (by rw [hF]; decide), ix_s]
      refine Eq.trans g1 ?_
      rw [ix_s]
      exact k1
    · by_cases c : i' = i
      · subst c
        exact Cov2_mono (g4 j' (by omega) a3) k3
      · exact k4 i' j' (by omega) a2 a3
theorem rends_i {n : Nat} {P : Nat → V3} {D : V3} {d : Int} (hn : n ≤ 140) (hn1 : 1 ≤ n) (hr : ∀ i, i < n → rc3 (P i)) (hD : prim D) (hd : 0 < d) (hv0 : sb3 (P (n - 1)) (P 0) = sm3 d D) (hhi : ∀ j, j < n → d3 D (P j) ≤ d3 D (P (n - 1))) (hlo : ∀ j, j < n → d3 D (P 0) ≤ d3 D (P j)) (hW : ∀ u ne, Sd1 (Mm n P) D u ne → sm100 u) (hB : ∀ m t', SS m t' → (∀ i, i < m → ∃ e, Sd1 (Mm n P) D (t' i) e) → m ≤ 80) {b : Nat} (hb : b < 8) (FI CO CR MO BO : Nat → Int32) (hF : FI b = 1) (SI0 SR0 : Nat → Int32) (a1 mbo : Int32) (SI' SR : Nat → Int32) (ss : Nat) (s : Nat → V3) (e : Nat → Int) (sx sy sw : Int32) (h3 : RS (Sd1 (Mm n P) D) b SI0 SR0 SI' SR ss s e) : ∃ (SI2 SR2 : Nat → Int32) (ss' : Nat) (s' : Nat → V3) (e' : Nat → Int) (sx' sy' sw' : Int32), JX9_made_212 (iz (n : Int)) (px P) (py P) (pz P) a1 (iz (b : Int)) mbo sx sy sw FI CO CR SI' SR MO BO = JX9_made_324 (iz (n : Int)) (px P) (py P) (pz P) a1 (iz (b : Int)) mbo sx' sy' sw' FI CO CR SI2 SR2 MO BO ∧ RS (Sd1 (Mm n P) D) b SI0 SR0 SI2 SR2 ss' s' e' ∧ ∀ u ne, Sd1 (Mm n P) D u ne → Mm ss' s' u := by
  have hv : sm100 (sb3 (P (n - 1)) (P 0)) := bdv_100 (B := 10) (by decide) (sb_bd (hr (n - 1) (by omega)) (hr 0 (by omega)))
  have st := step_i hv sx sy sw
  rw [sh_of hd hD hv0] at st
  have hDs : sm100 D := hW D (d3 D (P (n - 1))) ⟨Or.inl rfl, fun p ⟨x, hx, ex⟩ => by rw [← ex]; exact hhi x hx, P (n - 1), ⟨n - 1, by omega, rfl⟩, rfl⟩
  obtain ⟨SI1, SR1, ss1, s1, e1, g1, g2, g3, g4⟩ := rside_i hn (t := n - 1) (by omega) hr hb h3 (u := D) hDs hW hB (fun hs => ⟨Or.inl rfl, fun p ⟨x, hx, ex⟩ => by rw [← ex]; exact hs x hx, P (n - 1), ⟨n - 1, by omega, rfl⟩, rfl⟩)
  obtain ⟨SI2, SR2, ss2, s2, e2, k1, k2, k3, k4⟩ := rside_i hn (t := 0) (by omega) hr hb g2 (u := ng3 D) (ng_sm100 hDs) hW hB (fun hs => ⟨Or.inr rfl, fun p ⟨x, hx, ex⟩ => by rw [← ex]; exact hs x hx, P 0, ⟨0, by omega, rfl⟩, rfl⟩)
  refine ⟨SI2, SR2, ss2, s2, e2, iz (ng3 D).1, iz (ng3 D).2.1, iz (ng3 D).2.2, ?_, k2, fun u ne ⟨hu, _⟩ => ?_⟩
  · unfold JX9_made_212
    rw [ix_gd hb (by omega), iz_cn (by omega), if_pos hF, ix_m1 hn1, y0, ix_gd (by omega) (by omega), ix_gd (by omega) (by omega), iz_cn (by omega), iz_cn (by omega), px_i, px_i, py_i, py_i, pz_i, pz_i]
    simp only [iz_sub]
    refine (congrArg (fun o => bd o _) st).trans ?_
    rw [bd_some]
    refine (congrArg (fun o => bd o _) g1).trans ?_
    rw [bd_some]
    simp only [iz_neg]
    refine (congrArg (fun o => bd o _) k1).trans ?_
    rw [bd_some]
    rfl
  · rcases hu with hu | hu
    · rw [hu]; exact k3 D (g4 hhi)
    · rw [hu]; exact k4 (fun j hj => by rw [d3_ng, d3_ng]; have := hlo j hj; omega)
theorem skip212 {n b : Nat} {PX PY PZ : Nat → Int32} (hb : b < 8) {FI : Nat → Int32} (hF : FI b ≠ 1) (a1 mbo sx sy sw : Int32) (CO CR SI' SR MO BO : Nat → Int32) : JX9_made_212 (iz (n : Int)) PX PY PZ a1 (iz (b : Int)) mbo sx sy sw FI CO CR SI' SR MO BO = JX9_made_324 (iz (n : Int)) PX PY PZ a1 (iz (b : Int)) mbo sx sy sw FI CO CR SI' SR MO BO := by
  unfold JX9_made_212
  rw [ix_gd hb (by omega), iz_cn (by omega), if_neg hF]
theorem skip25 {n b : Nat} {PX PY PZ : Nat → Int32} (hb : b < 8) {FI : Nat → Int32} (hF : FI b ≤ 1) (a1 a3 mbo sx sy sw : Int32) (CO CR SI' SR MO BO : Nat → Int32) : LX9_made_25 (iz (n : Int)) PX PY PZ FU a1 (iz (b : Int)) a3 mbo sx sy sw FI CO CR SI' SR MO BO = JX9_made_212 (iz (n : Int)) PX PY PZ a1 (iz (b : Int)) mbo sx sy sw FI CO CR SI' SR MO BO := by
  rw [show FU = 4999 + 1 from rfl, LX9_made_25]
  by_cases c : iz (n : Int) ≤ a3
  · rw [if_pos c]
  · rw [if_neg c, ix_gd hb (by omega), iz_cn (by omega), if_pos hF]
theorem FD_line {S : V3 → Prop} {D a b : V3} (hD : prim D) (hl : lx o3 D) (h3 : ∀ p q, S p → S q → cr D (sb3 q p) = o3) (ha : S a) (hb : S b) (hab : lx a b) : ∃ d, 0 < d ∧ sb3 b a = sm3 d D := by
  have ne : sb3 b a ≠ o3 := fun h => by have := sb3_0.mp h; rw [this] at hab; exact lx_irr hab
  obtain ⟨d, d0, ed⟩ := par_of hD ne (h3 a b ha hb)
  refine ⟨d, ?_, ed⟩
  refine Classical.byContradiction fun hn => ?_
  have := lx_sb.mp hab
  rw [ed, show sm3 d D = ng3 (sm3 (-d) D) by unfold sm3 ng3; exact v3_ext (by dsimp only; grind) (by dsimp only; grind) (by dsimp only; grind), lx_ng] at this
  exact lx_asym this ((lx_sm (by omega) _).mpr hl)
theorem FD_le {S : V3 → Prop} {D a b : V3} (hD : prim D) (hl : lx o3 D) (h3 : ∀ p q, S p → S q → cr D (sb3 q p) = o3) (ha : S a) (hb : S b) (hab : lx a b) : d3 D a ≤ d3 D b := by
  obtain ⟨d, d0, ed⟩ := FD_line hD hl h3 ha hb hab
  have e : d3 D (sb3 b a) = d * d3 D D := by rw [ed, d3_comm, d3_sm]
  rw [d3_sb] at e
  have h0 : 0 ≤ d3 D D := by
    unfold d3
    have q1 := sqn D.1
    have q2 := sqn D.2.1
    have q3 := sqn D.2.2
    omega
  have := Int.mul_nonneg (Int.le_of_lt d0) h0
  omega
theorem rsides_i {n : Nat} {P : Nat → V3} {f : Nat} {N : V3} (hn : n ≤ 140) (hn1 : 1 ≤ n) (hr : ∀ i, i < n → rc3 (P i)) (hq : SS n P) (hf : FD (Mm n P) f N) (hNb : bdv 200 N) (hB : ∀ m t', SS m t' → (∀ i, i < m → ∃ e, Sd (Mm n P) f N (t' i) e) → m ≤ 80) {b : Nat} (hb : b < 8) (FI CO CR MO BO : Nat → Int32) (hF : FI b = iz (f : Int)) (hBO : f = 2 → BO (4 * b) = iz N.1 ∧ BO (4 * b + 1) = iz N.2.1 ∧ BO (4 * b + 2) = iz N.2.2) (SI0 SR0 : Nat → Int32) (a1 mbo sx sy sw : Int32) : ∃ (SI2 SR2 : Nat → Int32) (ss' : Nat) (s' : Nat → V3) (e' : Nat → Int) (sx' sy' sw' : Int32), LX9_made_25 (iz (n : Int)) (px P) (py P) (pz P) FU a1 (iz (b : Int)) 0 mbo sx sy sw FI CO CR (upd SI0 b 0) SR0 MO BO = JX9_made_324 (iz (n : Int)) (px P) (py P) (pz P) a1 (iz (b : Int)) mbo sx' sy' sw' FI CO CR SI2 SR2 MO BO ∧ RS (Sd (Mm n P) f N) b SI0 SR0 SI2 SR2 ss' s' e' ∧ ∀ u ne, Sd (Mm n P) f N u ne → Mm ss' s' u := by
  have hr' : ∀ p, Mm n P p → rc3 p := fun p ⟨i, hi, ei⟩ => by rw [← ei]; exact hr i hi
  have hW : ∀ u ne, Sd (Mm n P) f N u ne → sm100 u := fun u ne hs => bdv_100 (by decide) (sd_bd hr' hf hNb hs)
  have start : ∀ W, RS W b SI0 SR0 (upd SI0 b 0) SR0 0 (fun _ => o3) (fun _ => 0) := fun W => ⟨by unfold upd; rw [if_pos rfl]; rfl, fun i hi => by omega, SI_0 _ _ _, fun x hx => by unfold upd; rw [if_neg hx], fun x _ => rfl⟩
  rcases hf with ⟨rfl, _⟩ | ⟨rfl, g1, g2, g3, x, y, hx, hy, nxy⟩ | ⟨rfl, g1, g2, g3, x, y, z, hx, hy, hz, hrw⟩ | ⟨rfl, x, y, z, t, hx, hy, hz, ht, hrw⟩
  · refine ⟨upd SI0 b 0, SR0, 0, fun _ => o3, fun _ => 0, sx, sy, sw, ?_, start _, fun u ne hs => ?_⟩
    · rw [skip25 hb (by rw [hF]; decide), skip212 hb (by rw [hF]; decide)]
    · rcases hs with ⟨c, _⟩ | ⟨c, _⟩ | ⟨c, _⟩ <;> omega
  · rw [Sd_f.1] at hB hW ⊢
    have n2 : 2 ≤ n := by
      obtain ⟨i, hi, ei⟩ := hx
      obtain ⟨j, hj, ej⟩ := hy
      have : i ≠ j := fun h => nxy (by rw [← ei, ← ej, h])
      omega
    obtain ⟨d, d0, ed⟩ := FD_line g1 g2 g3 ⟨0, by omega, rfl⟩ ⟨n - 1, by omega, rfl⟩ (hq 0 (n - 1) (by omega) (by omega))
    obtain ⟨SI2, SR2, ss', s', e', sx', sy', sw', k1, k2, k3⟩ := rends_i hn hn1 hr g1 d0 ed (fun j hj => by
      by_cases c : j = n - 1
      · rw [c]; exact Int.le_refl _
      · exact FD_le g1 g2 g3 ⟨j, hj, rfl⟩ ⟨n - 1, by omega, rfl⟩ (hq j (n - 1) (by omega) (by omega))) (fun j hj => by
      by_cases c : j = 0
      · rw [c]; exact Int.le_refl _
      · exact FD_le g1 g2 g3 ⟨0, by omega, rfl⟩ ⟨j, hj, rfl⟩ (hq 0 j (by omega) hj)) hW hB hb FI CO CR MO BO hF SI0 SR0 a1 mbo (upd SI0 b 0) SR0 0 (fun _ => o3) (fun _ => 0) sx sy sw (start _)
    exact ⟨SI2, SR2, ss', s', e', sx', sy', sw', by rw [skip25 hb (by rw [hF]; decide)]; exact k1, k2, k3⟩
  · rw [Sd_f.2.1] at hB hW ⊢
    have nf := NF2_row g1 g3 hx hy hz hrw
    obtain ⟨SI2, SR2, ss', s', e', sx', sy', sw', k1, k2, k3, k4⟩ := redges_out hn hr hq (bdv_w hNb (by decide)) (prim_0 g1) (fun i j hi hj => g3 _ _ ⟨i, hi, rfl⟩ ⟨j, hj, rfl⟩) hW hB hb FI CO CR MO BO hF (hBO rfl) SI0 SR0 a1 mbo n FU 0 (upd SI0 b 0) SR0 0 (fun _ => o3) (fun _ => 0) sx sy sw (by omega) (by unfold FU; omega) (start _)
    refine ⟨SI2, SR2, ss', s', e', sx', sy', sw', k1.trans (skip212 hb (by rw [hF]; decide) _ _ _ _ _ _ _ _ _ _ _), k2, fun u ne hs => ?_⟩
    exact Sd2_cov (fun i' j' a c => k4 i' j' (Nat.zero_le _) a c) (fun m e pn nN hall => nf.2.2 m e pn nN (fun p ⟨i, hi, ei⟩ => by rw [← ei]; exact hall i hi)) hs
  · rw [Sd_f.2.2] at hB hW ⊢
    have nf := NF_det hx hy hz ht hrw
    obtain ⟨SI2, SR2, ss', s', e', sx', sy', sw', k1, k2, k3, k4⟩ := rfaces_out hn hr hW hB hb FI CO CR MO BO hF SI0 SR0 a1 mbo n FU 0 (upd SI0 b 0) SR0 0 (fun _ => o3) (fun _ => 0) sx sy sw (by omega) (by unfold FU; omega) (start _)
    refine ⟨SI2, SR2, ss', s', e', sx', sy', sw', k1.trans (skip212 hb (by rw [hF]; decide) _ _ _ _ _ _ _ _ _ _ _), k2, fun u ne hs => ?_⟩
    exact Sd3_cov (fun i' j' l' a c d => k4 i' j' l' (Nat.zero_le _) a c d) (fun m e pn hall => nf m e pn (fun p ⟨i, hi, ei⟩ => by rw [← ei]; exact hall i hi)) hs
