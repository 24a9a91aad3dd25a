/-! questions alike, over contents -/
theorem Rl_sheaf {C : XCt} {M : MCt} (h : Rl C M) (p1 p2 p3 : Int32) : ∃ res resM, fX8_sheaf (C.la (shI p1.toNatClampNeg)) (C.si (shI p1.toNatClampNeg)) (C.CE (shI p1.toNatClampNeg)) p1 p2 p3 = some res ∧ fX9_sheaf M.LA M.LE M.CE p1 p2 p3 = some resM ∧ res.1 = resM.1 ∧ Rl (XCt.mc' C.kk (va_up C.la (shI p1.toNatClampNeg) (res.2.1)) (va_up C.si (shI p1.toNatClampNeg) (res.2.2.1)) (va_up C.CE (shI p1.toNatClampNeg) (res.2.2.2)) C.bo) (MCt.mk' M.dr M.bo M.po M.sx M.sy M.sw M.tx M.ty M.tz M.DR resM.2.1 resM.2.2.1 resM.2.2.2 M.FI M.CO M.CR M.SI M.SR M.MO M.BO M.PX M.PY M.PZ M.SX) := by
  obtain ⟨h1, h2, h3, h4, h5, h6⟩ := h
  obtain ⟨r, la', si', CE', LA', LE', CM', e1, e2, k⟩ := c_sheaf h3 p1 p2 p3
  exact ⟨_, _, e1, e2, rfl, h1, h2, k, h4, h5, h6⟩
theorem Rl_lay {C : XCt} {M : MCt} (h : Rl C M) (p1 p2 : Int32) (p3 : Int64) : ∃ res resM, fX8_lay (C.la (shI p1.toNatClampNeg)) (C.si (shI p1.toNatClampNeg)) (C.CE (shI p1.toNatClampNeg)) p1 p2 p3 = some res ∧ fX9_lay M.LA M.LE M.CE p1 p2 p3 = some resM ∧ res.1 = resM.1 ∧ Rl (XCt.mc' C.kk C.la C.si (va_up C.CE (shI p1.toNatClampNeg) (res.2)) C.bo) (MCt.mk' M.dr M.bo M.po M.sx M.sy M.sw M.tx M.ty M.tz M.DR M.LA M.LE resM.2 M.FI M.CO M.CR M.SI M.SR M.MO M.BO M.PX M.PY M.PZ M.SX) := by
  obtain ⟨h1, h2, h3, h4, h5, h6⟩ := h
  obtain ⟨r, CE', CM', e1, e2, k⟩ := c_lay h3 p1 p2 p3
  exact ⟨_, _, e1, e2, rfl, h1, h2, k, h4, h5, h6⟩
theorem Rl_clear {C : XCt} {M : MCt} (h : Rl C M) : ∃ res resM, fX8_clear C.ds = some res ∧ fX9_clear M.dr = some resM ∧ res.1 = resM.1 ∧ Rl (XCt.mk' C.bc res.2 C.fi C.ps C.ss C.bs C.l1 C.l2 C.l3 C.c1 C.c2 C.c3 C.r1 C.r2 C.r3 C.f1 C.f2 C.f3 C.DX C.DY C.DZ C.X C.Y C.Z C.SA C.SB C.SC C.SE C.BA C.BB C.BC C.BD C.la C.si C.CE C.bo) (MCt.mk' resM.2 M.bo M.po M.sx M.sy M.sw M.tx M.ty M.tz M.DR M.LA M.LE M.CE M.FI M.CO M.CR M.SI M.SR M.MO M.BO M.PX M.PY M.PZ M.SX) := by
  obtain ⟨h1, h2, h3, h4, h5, h6⟩ := h
  refine ⟨_, _, (c_clear C.ds).1, (c_clear M.dr).2, h2.symm, DRel_0 _ _ _ _, rfl, h3, h4, h5, h6⟩
theorem Rl_all {C : XCt} {M : MCt} (h : Rl C M) (p1 : Int32) : ∃ r, fX8_all C.bc C.ds (C.la 0) (C.si 0) p1 = some r ∧ fX9_all M.dr M.bo M.LA M.LE p1 = some r := by
  obtain ⟨h1, h2, h3, h4, h5, h6⟩ := h
  rw [h2, h5, ← h4]
  exact c_all h3 C.bc C.ds p1
theorem Rl_drop {C : XCt} {M : MCt} (h : Rl C M) : (∃ res resM, C.bo = [] ∧ fX8_drop_no C.bc = some res ∧ res.2 = C.bc ∧ fX9_drop M.bo = some resM ∧ res.1 = resM.1 ∧ Rl C (MCt.mk' M.dr resM.2 M.po M.sx M.sy M.sw M.tx M.ty M.tz M.DR M.LA M.LE M.CE M.FI M.CO M.CR M.SI M.SR M.MO M.BO M.PX M.PY M.PZ M.SX)) ∨ (∃ res resM bs b, C.bo = bs ++ [b] ∧ fX8_drop_dr C.bc = some res ∧ res.2.toInt = bs.length ∧ (C.bc - 1).toNatClampNeg = bs.length ∧ fX9_drop M.bo = some resM ∧ res.1 = resM.1 ∧ Rl (XCt.mk' res.2 C.ds C.fi C.ps C.ss C.bs C.l1 C.l2 C.l3 C.c1 C.c2 C.c3 C.r1 C.r2 C.r3 C.f1 C.f2 C.f3 C.DX C.DY C.DZ C.X C.Y C.Z C.SA C.SB C.SC C.SE C.BA C.BB C.BC C.BD C.la C.si C.CE bs) (MCt.mk' M.dr resM.2 M.po M.sx M.sy M.sw M.tx M.ty M.tz M.DR M.LA M.LE M.CE M.FI M.CO M.CR M.SI M.SR M.MO M.BO M.PX M.PY M.PZ M.SX)) := by
  obtain ⟨h1, h2, h3, h4, h5, h6⟩ := h
  have h8 := h6.1
  rcases List.eq_nil_or_concat C.bo with e | ⟨bs, b, e⟩
  · left
    have e4 : C.bc = 0 := by rw [h4, e]; rfl
    have e5 : M.bo = 0 := by rw [h5, e]; rfl
    rw [e4, e5]
    exact ⟨_, _, e, c_drop0.1, rfl, c_drop0.2, rfl, h1, h2, h3, h4, by rw [e]; rfl, h6⟩
  · right
    have e' : C.bo = bs ++ [b] := by rw [e, List.concat_eq_append]
    have l : C.bo.length = bs.length + 1 := by rw [e', List.length_append]; rfl
    have e4 : C.bc = iz ((bs.length + 1 : Nat) : Int) := by rw [h4, l]
    have e5 : M.bo = iz ((bs.length + 1 : Nat) : Int) := by rw [h5, l]
    have t : (iz ((bs.length + 1 : Nat) : Int)).toInt = bs.length + 1 := by rw [iz_i (by omega) (by omega)]; omega
    obtain ⟨d1, d2, d3'⟩ := c_drop (bc := iz ((bs.length + 1 : Nat) : Int)) (by rw [t]; omega) (by rw [t]; omega)
    have d4 : BsR bs M.FI M.CO M.CR M.SI M.SR M.MO M.BO := by
      have := BsR_drop h6
      rw [e', List.dropLast_concat] at this
      exact this
    rw [e4, e5]
    refine ⟨_, _, bs, b, e', d1, by rw [d3', t]; omega, by rw [ix_p, iz_cn (by omega)], d2, rfl, h1, h2, h3, ix_p _, ix_p _, d4⟩
theorem Rl_about {C : XCt} {M : MCt} (h : Rl C M) (p1 p2 : Int32) : (∃ r, fX8_about_N C.bc p1 p2 = some r ∧ fX9_about M.bo M.FI M.CO M.CR M.SI M.MO p1 p2 = some r) ∨ (∃ b r, C.bo[p1.toNatClampNeg]? = some b ∧ fX8_about_F b.nc C.bc b.fl b.mo b.cs b.CX b.CY b.CZ b.ss b.LL b.GG p1 p2 = some r ∧ fX9_about M.bo M.FI M.CO M.CR M.SI M.MO p1 p2 = some r) := by
  have hc := h.2.2.2.1
  have hm := h.2.2.2.2.1
  have h8 := h.2.2.2.2.2.1
  rw [hc, hm]
  rcases body_at h p1 with ⟨i, b, rfl, hi, _, hb, n, f, N, cs, c, ss, s, e, bd', be, L, G, h1, hk, h3, h4', h5, h6⟩ | ⟨x, rfl, hx, x1, x2⟩
  · right
    have hF := GB_facts h1
    obtain ⟨r, e1, e2⟩ := q_about hF h3 hi h8 h4' p2
    refine ⟨b, r, hb, ?_, e2⟩
    obtain ⟨kk, gr, sw⟩ := b
    change kk = _ at hk
    subst hk
    exact e1
  · left
    unfold fX8_about_N fX9_about
    rw [findnot hx x1 x2 h8, bd_some, isnot hx x1 x2 h8, bd_some, if_pos rfl]
    exact ⟨_, rfl, rfl⟩
theorem Rl_cornerOf {C : XCt} {M : MCt} (h : Rl C M) (p1 p2 p3 : Int32) : (∃ r, fX8_cornerOf_N C.bc p1 p2 p3 = some r ∧ fX9_cornerOf M.bo M.CO M.CR p1 p2 p3 = some r) ∨ (∃ b r, C.bo[p1.toNatClampNeg]? = some b ∧ fX8_cornerOf_F b.nc C.bc b.cs b.CX b.CY b.CZ p1 p2 p3 = some r ∧ fX9_cornerOf M.bo M.CO M.CR p1 p2 p3 = some r) := by
  have hc := h.2.2.2.1
  have hm := h.2.2.2.2.1
  have h8 := h.2.2.2.2.2.1
  rw [hc, hm]
  rcases body_at h p1 with ⟨i, b, rfl, hi, _, hb, n, f, N, cs, c, ss, s, e, bd', be, L, G, h1, hk, h3, h4', h5, h6⟩ | ⟨x, rfl, hx, x1, x2⟩
  · right
    have hF := GB_facts h1
    obtain ⟨r, e1, e2⟩ := q_cornerOf hF h3 hi h8 p2 p3
    refine ⟨b, r, hb, ?_, e2⟩
    obtain ⟨kk, gr, sw⟩ := b
    change kk = _ at hk
    subst hk
    exact e1
  · left
    unfold fX8_cornerOf_N fX9_cornerOf
    rw [findnot hx x1 x2 h8, bd_some, isnot hx x1 x2 h8, bd_some, if_pos rfl]
    exact ⟨_, rfl, rfl⟩
theorem Rl_side {C : XCt} {M : MCt} (h : Rl C M) (p1 p2 p3 : Int32) : (∃ r, fX8_side_N C.bc p1 p2 p3 = some r ∧ fX9_side_ M.bo M.FI M.SI M.SR M.BO p1 p2 p3 = some r) ∨ (∃ b r, C.bo[p1.toNatClampNeg]? = some b ∧ fX8_side_F b.ns b.nb C.bc b.fl b.ss b.SA b.SB b.SC b.SE b.bs b.BA b.BB b.BC b.BD p1 p2 p3 = some r ∧ fX9_side_ M.bo M.FI M.SI M.SR M.BO p1 p2 p3 = some r) := by
  have hc := h.2.2.2.1
  have hm := h.2.2.2.2.1
  have h8 := h.2.2.2.2.2.1
  rw [hc, hm]
  rcases body_at h p1 with ⟨i, b, rfl, hi, _, hb, n, f, N, cs, c, ss, s, e, bd', be, L, G, h1, hk, h3, h4', h5, h6⟩ | ⟨x, rfl, hx, x1, x2⟩
  · right
    have hF := GB_facts h1
    obtain ⟨r, e1, e2⟩ := q_side hF h3 hi h8 p2 p3
    refine ⟨b, r, hb, ?_, e2⟩
    obtain ⟨kk, gr, sw⟩ := b
    change kk = _ at hk
    subst hk
    exact e1
  · left
    unfold fX8_side_N fX9_side_
    rw [findnot hx x1 x2 h8, bd_some, isnot hx x1 x2 h8, bd_some, if_pos rfl]
    exact ⟨_, rfl, rfl⟩
theorem Rl_on {C : XCt} {M : MCt} (h : Rl C M) (p1 p2 : Int32) : (∃ r, fX8_on_N C.bc p1 p2 = some r ∧ fX9_on M.bo M.CO M.CR M.SI M.SR p1 p2 = some r) ∨ (∃ b r, C.bo[p1.toNatClampNeg]? = some b ∧ fX8_on_F b.nc b.ns C.bc b.cs b.CX b.CY b.CZ b.ss b.SA b.SB b.SC b.SE p1 p2 = some r ∧ fX9_on M.bo M.CO M.CR M.SI M.SR p1 p2 = some r) := by
  have hc := h.2.2.2.1
  have hm := h.2.2.2.2.1
  have h8 := h.2.2.2.2.2.1
  rw [hc, hm]
  rcases body_at h p1 with ⟨i, b, rfl, hi, _, hb, n, f, N, cs, c, ss, s, e, bd', be, L, G, h1, hk, h3, h4', h5, h6⟩ | ⟨x, rfl, hx, x1, x2⟩
  · right
    have hF := GB_facts h1
    obtain ⟨r, e1, e2⟩ := q_on hF h3 hi h8 p2
    refine ⟨b, r, hb, ?_, e2⟩
    obtain ⟨kk, gr, sw⟩ := b
    change kk = _ at hk
    subst hk
    exact e1
  · left
    unfold fX8_on_N fX9_on
    rw [findnot hx x1 x2 h8, bd_some, isnot hx x1 x2 h8, bd_some, if_pos rfl]
    exact ⟨_, rfl, rfl⟩
theorem Rl_has {C : XCt} {M : MCt} (h : Rl C M) (p1 p2 p3 p4 p5 : Int32) : (∃ r, fX8_has_N C.bc p1 p2 p3 p4 p5 = some r ∧ fX9_has M.bo M.FI M.CR M.SI M.SR M.BO p1 p2 p3 p4 p5 = some r) ∨ (∃ b r, C.bo[p1.toNatClampNeg]? = some b ∧ fX8_has_F b.ns b.nb C.bc b.ss b.SA b.SB b.SC b.SE b.bs b.BA b.BB b.BC b.BD p1 p2 p3 p4 p5 = some r ∧ fX9_has M.bo M.FI M.CR M.SI M.SR M.BO p1 p2 p3 p4 p5 = some r) := by
  have hc := h.2.2.2.1
  have hm := h.2.2.2.2.1
  have h8 := h.2.2.2.2.2.1
  rw [hc, hm]
  rcases body_at h p1 with ⟨i, b, rfl, hi, _, hb, n, f, N, cs, c, ss, s, e, bd', be, L, G, h1, hk, h3, h4', h5, h6⟩ | ⟨x, rfl, hx, x1, x2⟩
  · right
    have hF := GB_facts h1
    obtain ⟨r, e1, e2⟩ := q_has hF h3 hi h8 p2 p3 p4 p5
    refine ⟨b, r, hb, ?_, e2⟩
    obtain ⟨kk, gr, sw⟩ := b
    change kk = _ at hk
    subst hk
    exact e1
  · left
    unfold fX8_has_N fX9_has
    rw [findnot hx x1 x2 h8, bd_some, isnot hx x1 x2 h8, bd_some, if_pos rfl]
    exact ⟨_, rfl, rfl⟩
theorem Rl_most {C : XCt} {M : MCt} (h : Rl C M) (p1 p2 p3 p4 p5 : Int32) : (∃ r, fX8_most_N C.bc p1 p2 p3 p4 p5 = some r ∧ fX9_most M.bo M.CO M.CR p1 p2 p3 p4 p5 = some r) ∨ (∃ b r, C.bo[p1.toNatClampNeg]? = some b ∧ fX8_most_F b.nc C.bc b.cs b.CX b.CY b.CZ p1 p2 p3 p4 p5 = some r ∧ fX9_most M.bo M.CO M.CR p1 p2 p3 p4 p5 = some r) := by
  have hc := h.2.2.2.1
  have hm := h.2.2.2.2.1
  have h8 := h.2.2.2.2.2.1
  rw [hc, hm]
  rcases body_at h p1 with ⟨i, b, rfl, hi, _, hb, n, f, N, cs, c, ss, s, e, bd', be, L, G, h1, hk, h3, h4', h5, h6⟩ | ⟨x, rfl, hx, x1, x2⟩
  · right
    have hF := GB_facts h1
    obtain ⟨r, e1, e2⟩ := q_most hF h3 hi h8 p2 p3 p4 p5
    refine ⟨b, r, hb, ?_, e2⟩
    obtain ⟨kk, gr, sw⟩ := b
    change kk = _ at hk
    subst hk
    exact e1
  · left
    unfold fX8_most_N fX9_most
    rw [findnot hx x1 x2 h8, bd_some, isnot hx x1 x2 h8, bd_some, if_pos rfl]
    exact ⟨_, rfl, rfl⟩
