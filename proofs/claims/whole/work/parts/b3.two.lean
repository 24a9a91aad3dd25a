/-! two bodies; growth: alike, over contents -/
theorem Rl_setb {C : XCt} {M : MCt} (h : Rl C M) {k : Nat} {b' : BCt} (hb : BRl k b' M.FI M.CO M.CR M.SI M.SR M.MO M.BO) : Rl (XCt.mc' C.kk C.la C.si C.CE (C.bo.set k b')) M := by
  obtain ⟨h1, h2, h3, h4, h5, h6⟩ := h
  have l : (C.bo.set k b').length = C.bo.length := List.length_set
  refine ⟨h1, h2, h3, ?_, ?_, BsR_set h6 hb⟩
  · show C.bc = iz (((C.bo.set k b').length : Nat) : Int)
    rw [l]; exact h4
  · show M.bo = iz (((C.bo.set k b').length : Nat) : Int)
    rw [l]; exact h5
theorem Rl_SX {C : XCt} {M : MCt} (h : Rl C M) (SX : Nat → Int32) : Rl C (MCt.mk' M.dr M.bo M.po M.sx M.sy M.sw M.tx M.ty M.tz M.DR M.LA M.LE M.CE M.FI M.CO M.CR M.SI M.SR M.MO M.BO M.PX M.PY M.PZ SX) := h
theorem Rl_tx {C : XCt} {M : MCt} (h : Rl C M) (tx ty tz : Int32) : Rl C (MCt.mk' M.dr M.bo M.po M.sx M.sy M.sw tx ty tz M.DR M.LA M.LE M.CE M.FI M.CO M.CR M.SI M.SR M.MO M.BO M.PX M.PY M.PZ M.SX) := h
theorem Rl_within {C : XCt} {M : MCt} (h : Rl C M) (p1 p2 : Int32) : (∃ r, fX8_within_NN C.bc p1 p2 = some r ∧ fX9_within M.bo M.FI M.CO M.CR M.SI M.SR M.BO p1 p2 = some r) ∨ (∃ b1 r, C.bo[p2.toNatClampNeg]? = some b1 ∧ fX8_within_NF C.bc p1 p2 = some r ∧ fX9_within M.bo M.FI M.CO M.CR M.SI M.SR M.BO p1 p2 = some r) ∨ (∃ b r, C.bo[p1.toNatClampNeg]? = some b ∧ fX8_within_FN C.bc p1 p2 = some r ∧ fX9_within M.bo M.FI M.CO M.CR M.SI M.SR M.BO p1 p2 = some r) ∨ (∃ b b1 r, C.bo[p1.toNatClampNeg]? = some b ∧ C.bo[p2.toNatClampNeg]? = some b1 ∧ p1.toNatClampNeg ≠ p2.toNatClampNeg ∧ fX8_within_FF b.nc b1.ns b1.nb C.bc b.cs b.CX b.CY b.CZ b1.ss b1.SA b1.SB b1.SC b1.SE b1.bs b1.BA b1.BB b1.BC b1.BD p1 p2 = some r ∧ fX9_within M.bo M.FI M.CO M.CR M.SI M.SR M.BO p1 p2 = some r) ∨ (∃ b r, C.bo[p1.toNatClampNeg]? = some b ∧ p2.toNatClampNeg = p1.toNatClampNeg ∧ fX8_within_FF b.nc b.ns b.nb C.bc b.cs b.CX b.CY b.CZ b.ss b.SA b.SB b.SC b.SE b.bs b.BA b.BB b.BC b.BD p1 p2 = some r ∧ fX9_within M.bo M.FI M.CO M.CR M.SI M.SR M.BO p1 p2 = some r) := by
  have hc := h.2.2.2.1
  have hm := h.2.2.2.2.1
  have h8 := h.2.2.2.2.2.1
  rw [hc, hm]
  rcases body_at h p1 with ⟨i, b, rfl, hi, ci, hb, n, f, N, cs, c, ss, s, e, bd', be, L, G, h1, hk, h3, h4', h5, h6⟩ | ⟨x, rfl, hx, x1, x2⟩
  · have hF := GB_facts h1
    rcases body_at h p2 with ⟨j, b1, rfl, hi', cj, hb1, n', f', N', cs', c', ss', s', e', bd'', be', L', G', h1', hk', h3', h4'', h5', h6'⟩ | ⟨y, rfl, hy, y1', y2'⟩
    · have hF1 := GB_facts h1'
      by_cases eij : i = j
      · subst eij
        right; right; right; right
        obtain ⟨r, e1, e2⟩ := q_within hF h3 hi hi h8 hF.2.2.1 hF.2.2.2.2.2.2.2.2.2.1 h3.2.1 h3.2.2.1
        refine ⟨b, r, hb, rfl, ?_, e2⟩
        obtain ⟨kk, gr, sw⟩ := b
        change kk = _ at hk
        subst hk
        exact e1
      · right; right; right; left
        obtain ⟨r, e1, e2⟩ := q_within hF1 h3' hi' hi h8 hF.2.2.1 hF.2.2.2.2.2.2.2.2.2.1 h3.2.1 h3.2.2.1
        refine ⟨b, b1, r, hb, hb1, by rw [ci, cj]; exact eij, ?_, e2⟩
        obtain ⟨kk, gr, sw⟩ := b
        obtain ⟨kk1, gr1, sw1⟩ := b1
        change kk = _ at hk
        change kk1 = _ at hk'
        subst hk
        subst hk'
        exact e1
    · right; right; left
      unfold fX8_within_FN fX9_within
      rw [find_i hi h8, bd_some, findnot hy y1' y2' h8, bd_some, is_i hi h8, bd_some, if_neg n10, isnot hy y1' y2' h8, bd_some, if_pos rfl]
      exact ⟨b, _, hb, rfl, rfl⟩
  · rcases body_at h p2 with ⟨j, b1, rfl, hi', cj, hb1, _⟩ | ⟨y, rfl, hy, y1', y2'⟩
    · right; left
      unfold fX8_within_NF fX9_within
      rw [findnot hx x1 x2 h8, bd_some, find_i hi' h8, bd_some, isnot hx x1 x2 h8, bd_some, if_pos rfl]
      exact ⟨b1, _, hb1, rfl, rfl⟩
    · left
      unfold fX8_within_NN fX9_within
      rw [findnot hx x1 x2 h8, bd_some, isnot hx x1 x2 h8, bd_some, if_pos rfl]
      first | exact ⟨_, rfl, rfl⟩ | (rw [findnot hy y1' y2' h8, bd_some]; exact ⟨_, rfl, rfl⟩)
theorem Rl_same {C : XCt} {M : MCt} (h : Rl C M) (p1 p2 : Int32) : (∃ r, fX8_same_NN C.bc p1 p2 = some r ∧ fX9_same M.bo M.CO M.CR p1 p2 = some r) ∨ (∃ b1 r, C.bo[p2.toNatClampNeg]? = some b1 ∧ fX8_same_NF C.bc p1 p2 = some r ∧ fX9_same M.bo M.CO M.CR p1 p2 = some r) ∨ (∃ b r, C.bo[p1.toNatClampNeg]? = some b ∧ fX8_same_FN C.bc p1 p2 = some r ∧ fX9_same M.bo M.CO M.CR p1 p2 = some r) ∨ (∃ b b1 r, C.bo[p1.toNatClampNeg]? = some b ∧ C.bo[p2.toNatClampNeg]? = some b1 ∧ p1.toNatClampNeg ≠ p2.toNatClampNeg ∧ fX8_same_FF b.nc b1.nc C.bc b.cs b.CX b.CY b.CZ b1.cs b1.CX b1.CY b1.CZ p1 p2 = some r ∧ fX9_same M.bo M.CO M.CR p1 p2 = some r) ∨ (∃ b r, C.bo[p1.toNatClampNeg]? = some b ∧ p2.toNatClampNeg = p1.toNatClampNeg ∧ fX8_same_FF b.nc b.nc C.bc b.cs b.CX b.CY b.CZ b.cs b.CX b.CY b.CZ p1 p2 = some r ∧ fX9_same M.bo M.CO M.CR p1 p2 = some r) := by
  have hc := h.2.2.2.1
  have hm := h.2.2.2.2.1
  have h8 := h.2.2.2.2.2.1
  rw [hc, hm]
  rcases body_at h p1 with ⟨i, b, rfl, hi, ci, hb, n, f, N, cs, c, ss, s, e, bd', be, L, G, h1, hk, h3, h4', h5, h6⟩ | ⟨x, rfl, hx, x1, x2⟩
  · have hF := GB_facts h1
    rcases body_at h p2 with ⟨j, b1, rfl, hi', cj, hb1, n', f', N', cs', c', ss', s', e', bd'', be', L', G', h1', hk', h3', h4'', h5', h6'⟩ | ⟨y, rfl, hy, y1', y2'⟩
    · have hF1 := GB_facts h1'
      by_cases eij : i = j
      · subst eij
        right; right; right; right
        obtain ⟨r, e1, e2⟩ := q_same hi hi h8 hF.2.2.1 hF.2.1 hF.2.2.1 hF.2.1 hF.2.2.2.2.2.2.2.2.2.1 hF.2.2.2.2.2.2.2.2.2.1 h3.2.1 h3.2.2.1 h3.2.1 h3.2.2.1
        refine ⟨b, r, hb, rfl, ?_, e2⟩
        obtain ⟨kk, gr, sw⟩ := b
        change kk = _ at hk
        subst hk
        exact e1
      · right; right; right; left
        obtain ⟨r, e1, e2⟩ := q_same hi hi' h8 hF.2.2.1 hF.2.1 hF1.2.2.1 hF1.2.1 hF.2.2.2.2.2.2.2.2.2.1 hF1.2.2.2.2.2.2.2.2.2.1 h3.2.1 h3.2.2.1 h3'.2.1 h3'.2.2.1
        refine ⟨b, b1, r, hb, hb1, by rw [ci, cj]; exact eij, ?_, e2⟩
        obtain ⟨kk, gr, sw⟩ := b
        obtain ⟨kk1, gr1, sw1⟩ := b1
        change kk = _ at hk
        change kk1 = _ at hk'
        subst hk
        subst hk'
        exact e1
    · right; right; left
      unfold fX8_same_FN fX9_same
      rw [find_i hi h8, bd_some, findnot hy y1' y2' h8, bd_some, is_i hi h8, bd_some, if_neg n10, isnot hy y1' y2' h8, bd_some, if_pos rfl]
      exact ⟨b, _, hb, rfl, rfl⟩
  · rcases body_at h p2 with ⟨j, b1, rfl, hi', cj, hb1, _⟩ | ⟨y, rfl, hy, y1', y2'⟩
    · right; left
      unfold fX8_same_NF fX9_same
      rw [findnot hx x1 x2 h8, bd_some, find_i hi' h8, bd_some, isnot hx x1 x2 h8, bd_some, if_pos rfl]
      exact ⟨b1, _, hb1, rfl, rfl⟩
    · left
      unfold fX8_same_NN fX9_same
      rw [findnot hx x1 x2 h8, bd_some, isnot hx x1 x2 h8, bd_some, if_pos rfl]
      first | exact ⟨_, rfl, rfl⟩ | (rw [findnot hy y1' y2' h8, bd_some]; exact ⟨_, rfl, rfl⟩)
theorem Rl_count {C : XCt} {M : MCt} (h : Rl C M) (p1 p2 : Int32) : (∃ r, fX8_count_N C.bc p1 p2 = some r ∧ fX9_count M.bo M.FI M.CO M.CR M.SI M.SR M.BO p1 p2 = some r) ∨ (∃ b dg NU r, C.bo[p1.toNatClampNeg]? = some b ∧ b.gr = some (dg, NU) ∧ fX8_count_c C.bc NU p1 p2 = some r ∧ fX9_count M.bo M.FI M.CO M.CR M.SI M.SR M.BO p1 p2 = some r) ∨ (∃ b gres r, C.bo[p1.toNatClampNeg]? = some b ∧ b.gr = none ∧ fgrow b = some gres ∧ fX8_count_c C.bc gres.2.1 p1 p2 = some r ∧ fX9_count M.bo M.FI M.CO M.CR M.SI M.SR M.BO p1 p2 = some r ∧ Rl (XCt.mc' C.kk C.la C.si C.CE (C.bo.set p1.toNatClampNeg (BCt.mc' gres.2.2.kk (some (gres.1, gres.2.1)) gres.2.2.sw))) M) := by
  have hc := h.2.2.2.1
  have hm := h.2.2.2.2.1
  have h8 := h.2.2.2.2.2.1
  rw [hc, hm]
  rcases body_at h p1 with ⟨i, b, rfl, hi, ci, hb, n, f, N, cs, c, ss, s, e, bd', be, L, G, h1, hk, h3, h4', h5, h6⟩ | ⟨x, rfl, hx, x1, x2⟩
  · right
    cases hg : b.gr with
    | some q =>
      left
      obtain ⟨dg, NU⟩ := q
      obtain ⟨ed, hN⟩ := h5 dg NU hg
      obtain ⟨r, e1, e2⟩ := q_count h1 h3 hi h8 hN p2
      refine ⟨b, dg, NU, r, hb, hg, ?_, e2⟩
      subst ed
      obtain ⟨kk, gr, sw⟩ := b
      change kk = _ at hk
      subst hk
      exact e1
    | none =>
      right
      obtain ⟨NU, b', g1, g2, g3, g4, hN⟩ := fgrow_i (GB_facts h1) hk h6
      obtain ⟨r, e1, e2⟩ := q_count h1 h3 hi h8 hN p2
      refine ⟨b, _, r, hb, hg, g1, ?_, e2, ?_⟩
      · obtain ⟨kk, gr, sw⟩ := b
        change kk = _ at hk
        subst hk
        exact e1
      · rw [ci]
        refine Rl_setb h ⟨n, f, N, cs, c, ss, s, e, bd', be, L, G, h1, g2.trans hk, h3, h4', fun dg NU' hq => ?_, g4⟩
        have hq' : (iz (f : Int), NU) = (dg, NU') := Option.some.inj hq
        obtain ⟨q1, q2⟩ := Prod.mk.inj hq'
        rw [← q1, ← q2]
        exact ⟨rfl, hN⟩
  · left
    unfold fX8_count_N fX9_count
    rw [findnot hx x1 x2 h8, bd_some, isnot hx x1 x2 h8, bd_some, if_pos rfl]
    exact ⟨_, rfl, rfl⟩
theorem Rl_inner {C : XCt} {M : MCt} (h : Rl C M) (p1 p2 : Int32) : (∃ r, fX8_inner_N C.bc p1 p2 = some r ∧ fX9_inner M.bo M.FI M.CO M.CR M.SI M.SR M.BO p1 p2 = some r) ∨ (∃ b dg NU r, C.bo[p1.toNatClampNeg]? = some b ∧ b.gr = some (dg, NU) ∧ fX8_inner_c C.bc b.fl NU p1 p2 = some r ∧ fX9_inner M.bo M.FI M.CO M.CR M.SI M.SR M.BO p1 p2 = some r) ∨ (∃ b gres r, C.bo[p1.toNatClampNeg]? = some b ∧ b.gr = none ∧ fgrow b = some gres ∧ fX8_inner_c C.bc b.fl gres.2.1 p1 p2 = some r ∧ fX9_inner M.bo M.FI M.CO M.CR M.SI M.SR M.BO p1 p2 = some r ∧ Rl (XCt.mc' C.kk C.la C.si C.CE (C.bo.set p1.toNatClampNeg (BCt.mc' gres.2.2.kk (some (gres.1, gres.2.1)) gres.2.2.sw))) M) := by
  have hc := h.2.2.2.1
  have hm := h.2.2.2.2.1
  have h8 := h.2.2.2.2.2.1
  rw [hc, hm]
  rcases body_at h p1 with ⟨i, b, rfl, hi, ci, hb, n, f, N, cs, c, ss, s, e, bd', be, L, G, h1, hk, h3, h4', h5, h6⟩ | ⟨x, rfl, hx, x1, x2⟩
  · right
    cases hg : b.gr with
    | some q =>
      left
      obtain ⟨dg, NU⟩ := q
      obtain ⟨ed, hN⟩ := h5 dg NU hg
      obtain ⟨r, e1, e2⟩ := q_inner h1 h3 hi h8 hN p2
      refine ⟨b, dg, NU, r, hb, hg, ?_, e2⟩
      subst ed
      obtain ⟨kk, gr, sw⟩ := b
      change kk = _ at hk
      subst hk
      exact e1
    | none =>
      right
      obtain ⟨NU, b', g1, g2, g3, g4, hN⟩ := fgrow_i (GB_facts h1) hk h6
      obtain ⟨r, e1, e2⟩ := q_inner h1 h3 hi h8 hN p2
      refine ⟨b, _, r, hb, hg, g1, ?_, e2, ?_⟩
      · obtain ⟨kk, gr, sw⟩ := b
        change kk = _ at hk
        subst hk
        exact e1
      · rw [ci]
        refine Rl_setb h ⟨n, f, N, cs, c, ss, s, e, bd', be, L, G, h1, g2.trans hk, h3, h4', fun dg NU' hq => ?_, g4⟩
        have hq' : (iz (f : Int), NU) = (dg, NU') := Option.some.inj hq
        obtain ⟨q1, q2⟩ := Prod.mk.inj hq'
        rw [← q1, ← q2]
        exact ⟨rfl, hN⟩
  · left
    unfold fX8_inner_N fX9_inner
    rw [findnot hx x1 x2 h8, bd_some, isnot hx x1 x2 h8, bd_some, if_pos rfl]
    exact ⟨_, rfl, rfl⟩
theorem Rl_number {C : XCt} {M : MCt} (h : Rl C M) (p1 p2 : Int32) : (∃ r SX, fX8_number_N C.bc p1 p2 = some r ∧ fX9_number M.bo M.FI M.CO M.CR M.SI M.SR M.BO M.SX p1 p2 = some (r, SX)) ∨ (∃ b dg NU r SX, C.bo[p1.toNatClampNeg]? = some b ∧ b.gr = some (dg, NU) ∧ fX8_number_c C.bc NU p1 p2 = some r ∧ fX9_number M.bo M.FI M.CO M.CR M.SI M.SR M.BO M.SX p1 p2 = some (r, SX)) ∨ (∃ b gres r SX, C.bo[p1.toNatClampNeg]? = some b ∧ b.gr = none ∧ fgrow b = some gres ∧ fX8_number_c C.bc gres.2.1 p1 p2 = some r ∧ fX9_number M.bo M.FI M.CO M.CR M.SI M.SR M.BO M.SX p1 p2 = some (r, SX) ∧ Rl (XCt.mc' C.kk C.la C.si C.CE (C.bo.set p1.toNatClampNeg (BCt.mc' gres.2.2.kk (some (gres.1, gres.2.1)) gres.2.2.sw))) M) := by
  have hc := h.2.2.2.1
  have hm := h.2.2.2.2.1
  have h8 := h.2.2.2.2.2.1
  rw [hc, hm]
  rcases body_at h p1 with ⟨i, b, rfl, hi, ci, hb, n, f, N, cs, c, ss, s, e, bd', be, L, G, h1, hk, h3, h4', h5, h6⟩ | ⟨x, rfl, hx, x1, x2⟩
  · right
    cases hg : b.gr with
    | some q =>
      left
      obtain ⟨dg, NU⟩ := q
      obtain ⟨ed, hN⟩ := h5 dg NU hg
      obtain ⟨r, SX, e1, e2⟩ := q_number h1 h3 hi h8 hN M.SX p2
      refine ⟨b, dg, NU, r, SX, hb, hg, ?_, e2⟩
      subst ed
      obtain ⟨kk, gr, sw⟩ := b
      change kk = _ at hk
      subst hk
      exact e1
    | none =>
      right
      obtain ⟨NU, b', g1, g2, g3, g4, hN⟩ := fgrow_i (GB_facts h1) hk h6
      obtain ⟨r, SX, e1, e2⟩ := q_number h1 h3 hi h8 hN M.SX p2
      refine ⟨b, _, r, SX, hb, hg, g1, ?_, e2, ?_⟩
      · obtain ⟨kk, gr, sw⟩ := b
        change kk = _ at hk
        subst hk
        exact e1
      · rw [ci]
        refine Rl_setb h ⟨n, f, N, cs, c, ss, s, e, bd', be, L, G, h1, g2.trans hk, h3, h4', fun dg NU' hq => ?_, g4⟩
        have hq' : (iz (f : Int), NU) = (dg, NU') := Option.some.inj hq
        obtain ⟨q1, q2⟩ := Prod.mk.inj hq'
        rw [← q1, ← q2]
        exact ⟨rfl, hN⟩
  · left
    unfold fX8_number_N fX9_number
    rw [findnot hx x1 x2 h8, bd_some, isnot hx x1 x2 h8, bd_some, if_pos rfl]
    exact ⟨_, _, rfl, rfl⟩
theorem Rl_rule {C : XCt} {M : MCt} (h : Rl C M) (p1 p2 : Int32) : (∃ r SX, fX8_rule_N C.bc p1 p2 = some r ∧ fX9_rule M.bo M.FI M.CO M.CR M.SI M.SR M.BO M.SX p1 p2 = some (r, SX)) ∨ (∃ b dg NU r SX, C.bo[p1.toNatClampNeg]? = some b ∧ b.gr = some (dg, NU) ∧ fX8_rule_c C.bc NU p1 p2 = some r ∧ fX9_rule M.bo M.FI M.CO M.CR M.SI M.SR M.BO M.SX p1 p2 = some (r, SX)) ∨ (∃ b gres r SX, C.bo[p1.toNatClampNeg]? = some b ∧ b.gr = none ∧ fgrow b = some gres ∧ fX8_rule_c C.bc gres.2.1 p1 p2 = some r ∧ fX9_rule M.bo M.FI M.CO M.CR M.SI M.SR M.BO M.SX p1 p2 = some (r, SX) ∧ Rl (XCt.mc' C.kk C.la C.si C.CE (C.bo.set p1.toNatClampNeg (BCt.mc' gres.2.2.kk (some (gres.1, gres.2.1)) gres.2.2.sw))) M) := by
  have hc := h.2.2.2.1
  have hm := h.2.2.2.2.1
  have h8 := h.2.2.2.2.2.1
  rw [hc, hm]
  rcases body_at h p1 with ⟨i, b, rfl, hi, ci, hb, n, f, N, cs, c, ss, s, e, bd', be, L, G, h1, hk, h3, h4', h5, h6⟩ | ⟨x, rfl, hx, x1, x2⟩
  · right
    cases hg : b.gr with
    | some q =>
      left
      obtain ⟨dg, NU⟩ := q
      obtain ⟨ed, hN⟩ := h5 dg NU hg
      obtain ⟨r, SX, e1, e2⟩ := q_rule h1 h3 hi h8 hN M.SX p2
      refine ⟨b, dg, NU, r, SX, hb, hg, ?_, e2⟩
      subst ed
      obtain ⟨kk, gr, sw⟩ := b
      change kk = _ at hk
      subst hk
      exact e1
    | none =>
      right
      obtain ⟨NU, b', g1, g2, g3, g4, hN⟩ := fgrow_i (GB_facts h1) hk h6
      obtain ⟨r, SX, e1, e2⟩ := q_rule h1 h3 hi h8 hN M.SX p2
      refine ⟨b, _, r, SX, hb, hg, g1, ?_, e2, ?_⟩
      · obtain ⟨kk, gr, sw⟩ := b
        change kk = _ at hk
        subst hk
        exact e1
      · rw [ci]
        refine Rl_setb h ⟨n, f, N, cs, c, ss, s, e, bd', be, L, G, h1, g2.trans hk, h3, h4', fun dg NU' hq => ?_, g4⟩
        have hq' : (iz (f : Int), NU) = (dg, NU') := Option.some.inj hq
        obtain ⟨q1, q2⟩ := Prod.mk.inj hq'
        rw [← q1, ← q2]
        exact ⟨rfl, hN⟩
  · left
    unfold fX8_rule_N fX9_rule
    rw [findnot hx x1 x2 h8, bd_some, isnot hx x1 x2 h8, bd_some, if_pos rfl]
    exact ⟨_, _, rfl, rfl⟩
theorem Rl_stairs {C : XCt} {M : MCt} (h : Rl C M) (p1 p2 : Int32) : (∃ r, fX8_stairs_N C.bc p1 p2 = some r ∧ fX9_stairs M.bo M.FI M.CO M.CR M.SI M.SR M.BO p1 p2 = some r) ∨ (∃ b dg NU r, C.bo[p1.toNatClampNeg]? = some b ∧ b.gr = some (dg, NU) ∧ fX8_stairs_c C.bc b.fl dg NU p1 p2 = some r ∧ fX9_stairs M.bo M.FI M.CO M.CR M.SI M.SR M.BO p1 p2 = some r) ∨ (∃ b gres r, C.bo[p1.toNatClampNeg]? = some b ∧ b.gr = none ∧ fgrow b = some gres ∧ fX8_stairs_c C.bc b.fl gres.1 gres.2.1 p1 p2 = some r ∧ fX9_stairs M.bo M.FI M.CO M.CR M.SI M.SR M.BO p1 p2 = some r ∧ Rl (XCt.mc' C.kk C.la C.si C.CE (C.bo.set p1.toNatClampNeg (BCt.mc' gres.2.2.kk (some (gres.1, gres.2.1)) gres.2.2.sw))) M) := by
  have hc := h.2.2.2.1
  have hm := h.2.2.2.2.1
  have h8 := h.2.2.2.2.2.1
  rw [hc, hm]
  rcases body_at h p1 with ⟨i, b, rfl, hi, ci, hb, n, f, N, cs, c, ss, s, e, bd', be, L, G, h1, hk, h3, h4', h5, h6⟩ | ⟨x, rfl, hx, x1, x2⟩
  · right
    cases hg : b.gr with
    | some q =>
      left
      obtain ⟨dg, NU⟩ := q
      obtain ⟨ed, hN⟩ := h5 dg NU hg
      obtain ⟨r, e1, e2⟩ := q_stairs h1 h3 hi h8 hN p2
      refine ⟨b, dg, NU, r, hb, hg, ?_, e2⟩
      subst ed
      obtain ⟨kk, gr, sw⟩ := b
      change kk = _ at hk
      subst hk
      exact e1
    | none =>
      right
      obtain ⟨NU, b', g1, g2, g3, g4, hN⟩ := fgrow_i (GB_facts h1) hk h6
      obtain ⟨r, e1, e2⟩ := q_stairs h1 h3 hi h8 hN p2
      refine ⟨b, _, r, hb, hg, g1, ?_, e2, ?_⟩
      · obtain ⟨kk, gr, sw⟩ := b
        change kk = _ at hk
        subst hk
        exact e1
      · rw [ci]
        refine Rl_setb h ⟨n, f, N, cs, c, ss, s, e, bd', be, L, G, h1, g2.trans hk, h3, h4', fun dg NU' hq => ?_, g4⟩
        have hq' : (iz (f : Int), NU) = (dg, NU') := Option.some.inj hq
        obtain ⟨q1, q2⟩ := Prod.mk.inj hq'
        rw [← q1, ← q2]
        exact ⟨rfl, hN⟩
  · left
    unfold fX8_stairs_N fX9_stairs
    rw [findnot hx x1 x2 h8, bd_some, isnot hx x1 x2 h8, bd_some, if_pos rfl]
    exact ⟨_, rfl, rfl⟩
