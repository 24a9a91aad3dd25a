/-! one step of class and reference alike, over contents -/
theorem body_at {C : XCt} {M : MCt} (h : Rl C M) (p1 : Int32) : (∃ i b, p1 = iz ((i : Nat) : Int) ∧ i < C.bo.length ∧ p1.toNatClampNeg = i ∧ C.bo[p1.toNatClampNeg]? = some b ∧ BRl i b M.FI M.CO M.CR M.SI M.SR M.MO M.BO) ∨ (∃ x : Int, p1 = iz x ∧ (x < 0 ∨ ((C.bo.length : Nat) : Int) ≤ x) ∧ -2147483648 ≤ x ∧ x < 2147483648) := by
  obtain ⟨x, rfl, x1, x2⟩ := some_iz p1
  have h8 := h.2.2.2.2.2.1
  by_cases c : x < 0 ∨ ((C.bo.length : Nat) : Int) ≤ x
  · exact Or.inr ⟨x, rfl, c, x1, x2⟩
  · left
    obtain ⟨i, rfl⟩ := nat_of (show 0 ≤ x by omega)
    have hi : i < C.bo.length := by omega
    have hc : (iz (i : Int)).toNatClampNeg = i := iz_cn (by omega)
    refine ⟨i, C.bo[i], rfl, hi, hc, ?_, h.2.2.2.2.2.2 i _ (List.getElem?_eq_getElem hi)⟩
    rw [hc]
    exact List.getElem?_eq_getElem hi
theorem Rl_corner {C : XCt} {M : MCt} (h : Rl C M) (p1 p2 p3 : Int32) : ∃ res resM, fX8_corner C.ds C.DX C.DY C.DZ p1 p2 p3 = some res ∧ fX9_corner M.dr M.DR p1 p2 p3 = some resM ∧ res.1 = resM.1 ∧ Rl (XCt.mk' C.bc res.2.1 C.fi C.ps C.ss C.bs C.l1 C.l2 C.l3 C.c1 C.c2 C.c3 C.r1 C.r2 C.r3 C.f1 C.f2 C.f3 res.2.2.1 res.2.2.2.1 res.2.2.2.2 C.X C.Y C.Z C.SA C.SB C.SC C.SE C.BA C.BB C.BC C.BD C.la C.si C.CE C.bo) (MCt.mk' resM.2.1 M.bo M.po M.sx M.sy M.sw M.tx M.ty M.tz resM.2.2 M.LA M.LE M.CE M.FI M.CO M.CR M.SI M.SR M.MO M.BO M.PX M.PY M.PZ M.SX) := by
  obtain ⟨h1, h2, h3, h4, h5, h6⟩ := h
  obtain ⟨r, ds', DX', DY', DZ', DR', e1, e2, k⟩ := c_corner h1 p1 p2 p3
  rw [h2]
  exact ⟨_, _, e1, e2, rfl, k, rfl, h3, h4, h5, h6⟩
theorem Rl_draw {C : XCt} {M : MCt} (h : Rl C M) (p1 p2 p3 : Int32) : ∃ res resM, fX8_draw C.ds C.DX C.DY C.DZ (C.la (shI p1.toNatClampNeg)) (C.si (shI p1.toNatClampNeg)) (C.CE (shI p1.toNatClampNeg)) p1 p2 p3 = some res ∧ fX9_draw M.dr M.DR M.LA M.LE M.CE p1 p2 p3 = some resM ∧ res.1 = resM.1 ∧ Rl (XCt.mk' C.bc res.2.1 C.fi C.ps C.ss C.bs C.l1 C.l2 C.l3 C.c1 C.c2 C.c3 C.r1 C.r2 C.r3 C.f1 C.f2 C.f3 res.2.2.1 res.2.2.2.1 res.2.2.2.2 C.X C.Y C.Z C.SA C.SB C.SC C.SE C.BA C.BB C.BC C.BD C.la C.si C.CE C.bo) (MCt.mk' resM.2.1 M.bo M.po M.sx M.sy M.sw M.tx M.ty M.tz resM.2.2 M.LA M.LE M.CE M.FI M.CO M.CR M.SI M.SR M.MO M.BO M.PX M.PY M.PZ M.SX) := by
  obtain ⟨h1, h2, h3, h4, h5, h6⟩ := h
  obtain ⟨r, ds', DX', DY', DZ', DR', e1, e2, k⟩ := c_draw h1 h3 p1 p2 p3
  rw [h2]
  exact ⟨_, _, e1, e2, rfl, k, rfl, h3, h4, h5, h6⟩
