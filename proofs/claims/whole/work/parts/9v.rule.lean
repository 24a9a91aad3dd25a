/-! the rule of growth in the class -/
section
variable {CT : Nat → Int32} {mz : Int32} {x2 x3 : Nat → Int32} {k f r i : Nat}
theorem e27 (h : f < i) (h2 : i ≤ 4) : LX2_init_27 4 CT (k + 1) (iz (i : Int)) (iz (f : Int)) x2 x3 = LX2_init_60 4 CT FU (iz ((1 : Nat) : Int)) (iz (f : Int)) x2 x3 := by
  rw [LX2_init_27, if_pos ((ix_lt (by omega) (by omega)).mpr h)]
  rfl
theorem s27 (h : i ≤ f) (h2 : f ≤ 3) : LX2_init_27 4 CT (k + 1) (iz (i : Int)) (iz (f : Int)) x2 x3 = LX2_init_27 4 CT k (iz ((i + 1 : Nat) : Int)) (iz (f : Int)) x2 (upd x3 i (CT i)) := by
  rw [LX2_init_27, if_neg (fun q => by have := (ix_lt (by omega) (by omega)).mp q; omega), iz_nI, if_neg (fun q => by have := (ix_le (by omega) (by omega)).mp q; omega), ix_gd (by omega) (by omega), ix_gd (by omega) (by omega), iz_cn (by omega), ix_s]
theorem e75 {K : Int32 → Int32 → (Nat → Int32) → (Nat → Int32) → Option (Int32 × (Nat → Int32))} (h : i < r) (h2 : r ≤ 4) : LX2_init_75 4 CT K (k + 1) (iz (r : Int)) (iz (i : Int)) mz x2 x3 = K (iz (r : Int)) mz x2 x3 := by
  rw [LX2_init_75, if_pos ((ix_lt (by omega) (by omega)).mpr h)]
theorem s75 {K : Int32 → Int32 → (Nat → Int32) → (Nat → Int32) → Option (Int32 × (Nat → Int32))} (h : r ≤ i + 1) (h2 : i ≤ 2) : LX2_init_75 4 CT K (k + 1) (iz (r : Int)) (iz ((i + 1 : Nat) : Int)) mz x2 x3 = LX2_init_75 4 CT K k (iz (r : Int)) (iz (i : Int)) mz x2 (upd x3 (i + 1) (x3 (i + 1) - x3 i)) := by
  have e1 : iz ((i + 1 : Nat) : Int) + (-1) = iz (i : Int) := by
    rw [show (-1 : Int32) = iz (-1) from rfl, iz_add]
    congr 1
    omega
  have e2 : iz ((i + 1 : Nat) : Int) - 1 = iz (i : Int) := by
    rw [z1, iz_sub]
    congr 1
    omega
  rw [LX2_init_75, if_neg (fun q => by have := (ix_lt (by omega) (by omega)).mp q; omega), ix_gd (by omega) (by omega), e1, e2, ix_gd (by omega) (by omega), iz_cn (by omega), iz_cn (by omega)]
theorem s60 (h : r ≤ f) (h2 : f ≤ 3) : LX2_init_60 4 CT (k + 1) (iz (r : Int)) (iz (f : Int)) x2 x3 = LX2_init_75 4 CT (fun a4 mz0 x2 x3 => LX2_init_60 4 CT k (a4 + 1) mz0 x2 x3) FU (iz (r : Int)) (iz (f : Int)) (iz (f : Int)) x2 x3 := by
  rw [LX2_init_60, if_neg (fun q => by have := (ix_lt (by omega) (by omega)).mp q; omega)]
theorem e60 (h : f < r) (h2 : r ≤ 4) : LX2_init_60 4 CT (k + 1) (iz (r : Int)) (iz (f : Int)) x2 x3 = some (iz (f : Int), upd (upd (upd (upd x2 0 (6 * x3 0)) 1 (((6 * x3 1) - (3 * x3 2)) + (2 * x3 3))) 2 ((3 * x3 2) - (3 * x3 3))) 3 (x3 3)) := by
  rw [LX2_init_60, if_pos ((ix_lt (by omega) (by omega)).mpr h)]
  rfl
end
theorem init2_0 (CT : Nat → Int32) : ∃ NU, fX2_init 4 0 CT (iz ((0 : Nat) : Int)) = some (iz ((0 : Nat) : Int), NU) ∧ NU 0 = 6 * CT 0 ∧ NU 1 = 0 ∧ NU 2 = 0 ∧ NU 3 = 0 := by
  obtain ⟨k, hk⟩ : ∃ k, FU = k + 8 := ⟨FU - 8, by unfold FU; omega⟩
  unfold fX2_init
  rw [if_neg (by decide), hk, y0, s27 (by omega) (by omega), e27 (by omega) (by omega), hk, e60 (by omega) (by omega)]
  refine ⟨_, rfl, ?_⟩
  simp [upd, show iz 0 = (0 : Int32) from rfl]
theorem init2_1 (CT : Nat → Int32) : ∃ NU, fX2_init 4 0 CT (iz ((1 : Nat) : Int)) = some (iz ((1 : Nat) : Int), NU) ∧ NU 0 = 6 * CT 0 ∧ NU 1 = 6 * (CT 1 - CT 0) ∧ NU 2 = 0 ∧ NU 3 = 0 := by
  obtain ⟨k, hk⟩ : ∃ k, FU = k + 8 := ⟨FU - 8, by unfold FU; omega⟩
  unfold fX2_init
  rw [if_neg (by decide), hk, y0, s27 (by omega) (by omega), s27 (by omega) (by omega), e27 (by omega) (by omega), hk, s60 (by omega) (by omega), hk, s75 (i := 0) (by omega) (by omega), e75 (by omega) (by omega)]
  rw [ix_s, e60 (by omega) (by omega)]
  refine ⟨_, rfl, ?_⟩
  simp [upd, show iz 0 = (0 : Int32) from rfl]
theorem init2_2 (CT : Nat → Int32) : ∃ NU, fX2_init 4 0 CT (iz ((2 : Nat) : Int)) = some (iz ((2 : Nat) : Int), NU) ∧ NU 0 = 6 * CT 0 ∧ NU 1 = 6 * (CT 1 - CT 0) - 3 * ((CT 2 - CT 1) - (CT 1 - CT 0)) ∧ NU 2 = 3 * ((CT 2 - CT 1) - (CT 1 - CT 0)) ∧ NU 3 = 0 := by
  obtain ⟨k, hk⟩ : ∃ k, FU = k + 8 := ⟨FU - 8, by unfold FU; omega⟩
  unfold fX2_init
  rw [if_neg (by decide), hk, y0, s27 (by omega) (by omega), s27 (by omega) (by omega), s27 (by omega) (by omega), e27 (by omega) (by omega), hk, s60 (by omega) (by omega), hk, s75 (i := 1) (by omega) (by omega), s75 (i := 0) (by omega) (by omega), e75 (by omega) (by omega)]
  rw [ix_s, s60 (by omega) (by omega), hk, s75 (i := 1) (by omega) (by omega), e75 (by omega) (by omega)]
  rw [ix_s, e60 (by omega) (by omega)]
  refine ⟨_, rfl, ?_⟩
  simp [upd, show iz 0 = (0 : Int32) from rfl]
theorem init2_3 (CT : Nat → Int32) : ∃ NU, fX2_init 4 0 CT (iz ((3 : Nat) : Int)) = some (iz ((3 : Nat) : Int), NU) ∧ NU 0 = 6 * CT 0 ∧ NU 1 = 6 * (CT 1 - CT 0) - 3 * ((CT 2 - CT 1) - (CT 1 - CT 0)) + 2 * (((CT 3 - CT 2) - (CT 2 - CT 1)) - ((CT 2 - CT 1) - (CT 1 - CT 0))) ∧ NU 2 = 3 * ((CT 2 - CT 1) - (CT 1 - CT 0)) - 3 * (((CT 3 - CT 2) - (CT 2 - CT 1)) - ((CT 2 - CT 1) - (CT 1 - CT 0))) ∧ NU 3 = (((CT 3 - CT 2) - (CT 2 - CT 1)) - ((CT 2 - CT 1) - (CT 1 - CT 0))) := by
  obtain ⟨k, hk⟩ : ∃ k, FU = k + 8 := ⟨FU - 8, by unfold FU; omega⟩
  unfold fX2_init
  rw [if_neg (by decide), hk, y0, s27 (by omega) (by omega), s27 (by omega) (by omega), s27 (by omega) (by omega), s27 (by omega) (by omega), e27 (by omega) (by omega), hk, s60 (by omega) (by omega), hk, s75 (i := 2) (by omega) (by omega), s75 (i := 1) (by omega) (by omega), s75 (i := 0) (by omega) (by omega), e75 (by omega) (by omega)]
  rw [ix_s, s60 (by omega) (by omega), hk, s75 (i := 2) (by omega) (by omega), s75 (i := 1) (by omega) (by omega), e75 (by omega) (by omega)]
  rw [ix_s, s60 (by omega) (by omega), hk, s75 (i := 2) (by omega) (by omega), e75 (by omega) (by omega)]
  rw [ix_s, e60 (by omega) (by omega)]
  refine ⟨_, rfl, ?_⟩
  simp [upd, show iz 0 = (0 : Int32) from rfl]
def NUok (f : Nat) (K : Int → Nat) (NU : Nat → Int32) : Prop := NU 0 = iz 6 ∧ NU 1 = iz (nu1 f K) ∧ NU 2 = iz (nu2 f K) ∧ NU 3 = iz (nu3 f K)
theorem init2_i {f : Nat} (hf : f ≤ 3) {K : Int → Nat} {CT : Nat → Int32} (h0 : CT 0 = iz 1) (h : ∀ j : Nat, 1 ≤ j → j ≤ f → CT j = iz (K (j : Int) : Int)) : ∃ NU, fX2_init 4 0 CT (iz (f : Int)) = some (iz (f : Int), NU) ∧ NUok f K NU := by
  have z2' : (2 : Int32) = iz 2 := rfl
  have z3' : (3 : Int32) = iz 3 := rfl
  rcases (show f = 0 ∨ f = 1 ∨ f = 2 ∨ f = 3 by omega) with rfl | rfl | rfl | rfl
  · obtain ⟨NU, q, a0, a1, a2, a3⟩ := init2_0 CT
    refine ⟨NU, q, ?_, a1, a2, a3⟩
    rw [a0, h0]; rfl
  · obtain ⟨NU, q, a0, a1, a2, a3⟩ := init2_1 CT
    have h1 := h 1 (by omega) (by omega)
    refine ⟨NU, q, ?_, ?_, a2, a3⟩
    · rw [a0, h0]; rfl
    · rw [a1, h0, h1, iz_sub, z6, iz_mul]
      congr 1
      have : nu1 1 K = 6 * ((K 1 : Int) - 1) - 0 - 0 := rfl
      rw [this]
      show 6 * ((K 1 : Int) - 1) = _
      omega
  · obtain ⟨NU, q, a0, a1, a2, a3⟩ := init2_2 CT
    have h1 := h 1 (by omega) (by omega)
    have h2 := h 2 (by omega) (by omega)
    have e2 : nu2 2 K = 3 * ((K 2 : Int) - 2 * K 1 + 1 - 0) := rfl
    have e1 : nu1 2 K = 6 * ((K 1 : Int) - 1) - nu2 2 K - 0 := rfl
    change CT 1 = iz (K 1 : Int) at h1
    change CT 2 = iz (K 2 : Int) at h2
    refine ⟨NU, q, ?_, ?_, ?_, a3⟩
    · rw [a0, h0]; rfl
    · rw [a1, h0, h1, h2, z6, z3']
      simp only [iz_sub, iz_mul]
      congr 1
      omega
    · rw [a2, h0, h1, h2, z3']
      simp only [iz_sub, iz_mul]
      congr 1
      omega
  · obtain ⟨NU, q, a0, a1, a2, a3⟩ := init2_3 CT
    have h1 := h 1 (by omega) (by omega)
    have h2 := h 2 (by omega) (by omega)
    have h3 := h 3 (by omega) (by omega)
    have e3 : nu3 3 K = (K 3 : Int) - 3 * K 2 + 3 * K 1 - 1 := rfl
    have e2 : nu2 3 K = 3 * ((K 2 : Int) - 2 * K 1 + 1 - nu3 3 K) := rfl
    have e1 : nu1 3 K = 6 * ((K 1 : Int) - 1) - nu2 3 K - nu3 3 K := rfl
    change CT 1 = iz (K 1 : Int) at h1
    change CT 2 = iz (K 2 : Int) at h2
    change CT 3 = iz (K 3 : Int) at h3
    refine ⟨NU, q, ?_, ?_, ?_, ?_⟩
    · rw [a0, h0]; rfl
    · rw [a1, h0, h1, h2, h3, z6, z3', z2']
      simp only [iz_sub, iz_mul, iz_add]
      congr 1
      omega
    · rw [a2, h0, h1, h2, h3, z3']
      simp only [iz_sub, iz_mul]
      congr 1
      omega
    · rw [a3, h0, h1, h2, h3]
      simp only [iz_sub]
      congr 1
      omega
/-- the cells of a body of the class -/
def kkOf (f : Nat) (mo : Int32) (cs : Nat) (c : Nat → V3) (ss : Nat) (s : Nat → V3) (e : Nat → Int) (bd' : Nat → V3) (be L G : Nat → Int) : BO := (cs, ss, nbd f, iz (f : Int), mo, iz (cs : Int), px c, py c, pz c, iz (ss : Int), px s, py s, pz s, pe e, iz ((nbd f : Nat) : Int), px bd', py bd', pz bd', pe be, pe L, pe G)
def SwK (f : Nat) (N : V3) (ss : Nat) (s : Nat → V3) (e be L G : Nat → Int) (sw : Nat → Option SCt) : Prop := ∀ Q : Int, 1 ≤ Q ∧ Q ≤ 5 → ∀ r, sw Q.toNat = some r → SwP f N ss s e be L G Q r
section
variable {f : Nat} {N : V3} {cs : Nat} {c : Nat → V3} {ss : Nat} {s : Nat → V3} {e : Nat → Int} {bd' : Nat → V3} {be L G : Nat → Int} {mo : Int32}
theorem keptn {Q : Int} (hQ : 1 ≤ Q ∧ Q ≤ 5) : (kept (iz Q)).toNatClampNeg = Q.toNat := by
  rw [kept_i hQ, show Q = ((Q.toNat : Nat) : Int) by omega, iz_cn (by omega)]
  omega
theorem getSw_i (h : GF f N cs c ss s e bd' be L G) {b : BCt} (hk : b.kk = kkOf f mo cs c ss s e bd' be L G) (hs : SwK f N ss s e be L G b.sw) {Q : Int} (hQ : 1 ≤ Q ∧ Q ≤ 5) : ∃ r, getSw b (iz Q) = some r ∧ SwP f N ss s e be L G Q r := by
  unfold getSw
  rw [keptn hQ]
  cases hb : b.sw Q.toNat with
  | some r => exact ⟨r, rfl, hs Q hQ r hb⟩
  | none =>
    obtain ⟨u, q1, q2⟩ := swellW_i h hQ
    refine ⟨mkS u, ?_, q2⟩
    show (fX0_swelling_W b.ns b.nb b.ss b.SA b.SB b.SC b.SE b.bs b.BA b.BB b.BC b.BD b.LL b.GG (iz Q)).map mkS = _
    unfold BCt.ns BCt.nb BCt.ss BCt.SA BCt.SB BCt.SC BCt.SE BCt.bs BCt.BA BCt.BB BCt.BC BCt.BD BCt.LL BCt.GG
    rw [hk]
    show (fX0_swelling_W ss (nbd f) (iz (ss : Int)) (px s) (py s) (pz s) (pe e) (iz ((nbd f : Nat) : Int)) (px bd') (py bd') (pz bd') (pe be) (pe L) (pe G) (iz Q)).map mkS = _
    rw [q1]
    rfl
theorem SwK_up {sw : Nat → Option SCt} (hs : SwK f N ss s e be L G sw) {Q : Int} (hQ : 1 ≤ Q ∧ Q ≤ 5) {r : SCt} (hr : SwP f N ss s e be L G Q r) : SwK f N ss s e be L G (va_up sw (kept (iz Q)).toNatClampNeg (some r)) := by
  intro Q' hQ' r' h
  rw [keptn hQ] at h
  unfold va_up at h
  by_cases c : Q'.toNat = Q.toNat
  · rw [if_pos c] at h
    have : Q' = Q := by omega
    rw [this]
    have := Option.some.inj h
    rw [← this]
    exact hr
  · rw [if_neg c] at h
    exact hs Q' hQ' r' h
theorem gloop_i (h : GF f N cs c ss s e bd' be L G) : ∀ (m Q : Nat) (b : BCt) (CT : Nat → Int32), b.kk = kkOf f mo cs c ss s e bd' be L G → SwK f N ss s e be L G b.sw → Q + m = 4 → 1 ≤ Q → ∃ b' CT', gloop m b (iz (Q : Int)) CT = some (b', CT') ∧ b'.kk = b.kk ∧ b'.gr = b.gr ∧ SwK f N ss s e be L G b'.sw ∧ ∀ j : Nat, CT' j = if Q ≤ j ∧ j ≤ f then iz (Kc f N ss s e be L G (j : Int) : Int) else CT j := by
  have f3 := h.1
  intro m
  induction m with
  | zero =>
    intro Q b CT hk hs h1 h2
    refine ⟨b, CT, rfl, rfl, rfl, hs, fun j => ?_⟩
    rw [if_neg (by omega)]
  | succ m ih =>
    intro Q b CT hk hs h1 h2
    rw [gloop]
    have efl : b.fl = iz (f : Int) := by unfold BCt.fl; rw [hk]; rfl
    rw [efl]
    by_cases cf : f < Q
    · rw [if_pos ((ix_lt (by omega) (by omega)).mpr cf)]
      refine ⟨b, CT, rfl, rfl, rfl, hs, fun j => ?_⟩
      rw [if_neg (by omega)]
    · rw [if_neg (fun q => cf ((ix_lt (by omega) (by omega)).mp q))]
      have hQ : 1 ≤ (Q : Int) ∧ (Q : Int) ≤ 5 := by omega
      obtain ⟨r, q1, q2⟩ := getSw_i h hk hs hQ
      rw [q1, bd_some, total_i h hQ q2, bd_some, ix_s, iz_cn (by omega)]
      obtain ⟨b', CT', g1, g2, g3, g4, g5⟩ := ih (Q + 1) (BCt.mc' b.kk b.gr (va_up b.sw (kept (iz (Q : Int))).toNatClampNeg (some r))) (va_up CT Q (iz ((cx (pB f N ss s e be Q) (bl L Q 0) (bl L Q 1) (bn L G Q 1) (bl L Q 2) (bn L G Q 2) (bn L G Q 0) : Nat) : Int))) hk (SwK_up hs hQ q2) (by omega) (by omega)
      refine ⟨b', CT', g1, g2, g3, g4, fun j => ?_⟩
      rw [g5]
      unfold va_up
      by_cases c1 : Q + 1 ≤ j ∧ j ≤ f
      · rw [if_pos c1, if_pos (by omega)]
      · rw [if_neg c1]
        by_cases c2 : j = Q
        · rw [if_pos c2, if_pos (by omega), c2]
          unfold Kc
          rw [if_neg (by omega), if_neg (by omega)]
        · rw [if_neg c2, if_neg (by omega)]
theorem fgrow_i (h : GF f N cs c ss s e bd' be L G) {b : BCt} (hk : b.kk = kkOf f mo cs c ss s e bd' be L G) (hs : SwK f N ss s e be L G b.sw) : ∃ NU b', fgrow b = some (iz (f : Int), NU, b') ∧ b'.kk = b.kk ∧ b'.gr = b.gr ∧ SwK f N ss s e be L G b'.sw ∧ NUok f (Kc f N ss s e be L G) NU := by
  unfold fgrow
  obtain ⟨b', CT', g1, g2, g3, g4, g5⟩ := gloop_i h 3 1 b (va_up (fun _ => 0) 0 1) hk hs (by omega) (by omega)
  obtain ⟨NU, q1, q2⟩ := init2_i (CT := CT') (K := Kc f N ss s e be L G) h.1 (by rw [g5, if_neg (by omega)]; rfl) (fun j h1 h2 => by rw [g5, if_pos (by omega)])
  have efl : b.fl = iz (f : Int) := by unfold BCt.fl; rw [hk]; rfl
  rw [← y1] at g1
  rw [g1, bd_some, efl]
  dsimp only
  rw [q1, bd_some]
  exact ⟨NU, b', rfl, g2, g3, g4, q2⟩
end
