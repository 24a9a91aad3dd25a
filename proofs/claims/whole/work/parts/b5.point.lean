/-! point and rank alike, over contents: the whole of it -/
theorem Rl_point {C : XCt} {M : MCt} (h : Rl C M) (p1 p2 p3 p4 : Int32) : (∃ res resM, fX8_point_N C.bc p1 p2 p3 p4 = some res ∧ fX9_point_ M.bo M.tx M.ty M.tz M.FI M.CO M.CR M.SI M.SR M.BO p1 p2 p3 p4 = some resM ∧ res.1 = resM.1) ∨ (∃ b res resM, C.bo[p1.toNatClampNeg]? = some b ∧ fX8_point_B C.bc p1 p2 p3 p4 = some res ∧ fX9_point_ M.bo M.tx M.ty M.tz M.FI M.CO M.CR M.SI M.SR M.BO p1 p2 p3 p4 = some resM ∧ res.1 = resM.1) ∨ (∃ b r res resM, C.bo[p1.toNatClampNeg]? = some b ∧ b.sw (kept p2).toNatClampNeg = some r ∧ fX8_point_C b.ns b.nb r.n C.bc b.ss b.SA b.SB b.SC b.SE b.bs b.BA b.BB b.BC b.BD r.fac r.lx r.ly r.gy r.lz r.gz r.lo r.hi r.BE p1 p2 p3 p4 = some res ∧ fX9_point_ M.bo M.tx M.ty M.tz M.FI M.CO M.CR M.SI M.SR M.BO p1 p2 p3 p4 = some resM ∧ res.1 = resM.1 ∧ Rl (XCt.mc' C.kk C.la C.si C.CE (C.bo.set p1.toNatClampNeg (BCt.mc' b.kk b.gr (va_up b.sw (kept p2).toNatClampNeg (some (SCt.mk' r.n r.fac r.lx r.gx r.ly r.gy r.lz r.gz res.2.1 res.2.2 r.BE)))))) M) ∨ (∃ b res resM, C.bo[p1.toNatClampNeg]? = some b ∧ b.sw (kept p2).toNatClampNeg = none ∧ fX8_point_W b.ns b.nb C.bc b.ss b.SA b.SB b.SC b.SE b.bs b.BA b.BB b.BC b.BD b.LL b.GG p1 p2 p3 p4 = some res ∧ fX9_point_ M.bo M.tx M.ty M.tz M.FI M.CO M.CR M.SI M.SR M.BO p1 p2 p3 p4 = some resM ∧ res.1 = resM.1 ∧ Rl (XCt.mc' C.kk C.la C.si C.CE (C.bo.set p1.toNatClampNeg (BCt.mc' b.kk b.gr (va_up b.sw (kept p2).toNatClampNeg (some (SCt.mk' res.2.2.2.2.2.2.2.2.2.2.2 res.2.1 res.2.2.1 res.2.2.2.1 res.2.2.2.2.1 res.2.2.2.2.2.1 res.2.2.2.2.2.2.1 res.2.2.2.2.2.2.2.1 res.2.2.2.2.2.2.2.2.1 res.2.2.2.2.2.2.2.2.2.1 res.2.2.2.2.2.2.2.2.2.2.1)))))) M) := by
  have hc := h.2.2.2.1
  have hm := h.2.2.2.2.1
  have h8 := h.2.2.2.2.2.1
  rw [hc, hm]
  rcases body_at h p1 with ⟨i, b, rfl, hi, ci, hb, n, f, N, cs, c, ss, s, e, bd', be, L, G, h1, hk, h3, h4', h5, h6⟩ | ⟨x, rfl, hx, x1, x2⟩
  · right
    have hF := GB_facts h1
    obtain ⟨Q, rfl, q1, q2⟩ := some_iz p2
    by_cases hQ : 1 ≤ Q ∧ Q ≤ 5
    · obtain ⟨w, rfl, w1, w2⟩ := some_iz p4
      by_cases hw' : 0 ≤ w ∧ w ≤ 2
      · obtain ⟨w, rfl⟩ := nat_of hw'.1
        have hw : w < 3 := by omega
        cases hr : b.sw (kept (iz Q)).toNatClampNeg with
        | some r =>
          right; left
          have hp : SwP f N ss s e be L G Q r := h6 Q hQ r (by rw [← keptn hQ]; exact hr)
          obtain ⟨v, lo, hi', n1, n2, n3, e1, e2⟩ := point_both hF h3 hi h8 hQ hp p3 hw M.tx M.ty M.tz
          refine ⟨b, r, (v, lo, hi'), _, hb, hr, ?_, e2, rfl, ?_⟩
          · obtain ⟨kk, gr, sw⟩ := b
            change kk = _ at hk
            subst hk
            unfold fX8_point_C
            rw [find_i hi h8, bd_some, sw_i q1 q2, bd_some, if_pos hQ, if_neg n10, way_i (by omega) (by omega), bd_some, if_pos (show 0 ≤ (w : Int) ∧ (w : Int) ≤ 2 by omega), if_neg n10, swC_i hQ, bd_some]
            change (bd (fX7_pointPart r.n ss (nbd f) r.fac r.lx r.ly r.gy r.lz r.gz r.lo r.hi r.BE (iz (ss : Int)) (px s) (py s) (pz s) (pe e) (iz ((nbd f : Nat) : Int)) (px bd') (py bd') (pz bd') (pe be) p3 (iz (w : Int))) _) = _
            rw [e1, bd_some]
          · rw [ci]
            exact Rl_setb h ⟨n, f, N, cs, c, ss, s, e, bd', be, L, G, h1, hk, h3, h4', h5, SwK_up h6 hQ (r := SCt.mk' r.n r.fac r.lx r.gx r.ly r.gy r.lz r.gz lo hi' r.BE) hp⟩
        | none =>
          right; right
          obtain ⟨u, u1, hu⟩ := swellW_i hF hQ
          obtain ⟨v, lo, hi', n1, n2, n3, e1, e2⟩ := point_both hF h3 hi h8 hQ hu p3 hw M.tx M.ty M.tz
          refine ⟨b, (v, u.1, u.2.1, u.2.2.1, u.2.2.2.1, u.2.2.2.2.1, u.2.2.2.2.2.1, u.2.2.2.2.2.2.1, lo, hi', u.2.2.2.2.2.2.2.2.2.1, u.2.2.2.2.2.2.2.2.2.2), _, hb, hr, ?_, e2, rfl, ?_⟩
          · obtain ⟨kk, gr, sw⟩ := b
            change kk = _ at hk
            subst hk
            unfold fX8_point_W
            rw [find_i hi h8, bd_some, sw_i q1 q2, bd_some, if_pos hQ, if_neg n10, way_i (by omega) (by omega), bd_some, if_pos (show 0 ≤ (w : Int) ∧ (w : Int) ≤ 2 by omega), if_neg n10]
            change (bd (fX0_swelling_W ss (nbd f) (iz (ss : Int)) (px s) (py s) (pz s) (pe e) (iz ((nbd f : Nat) : Int)) (px bd') (py bd') (pz bd') (pe be) (pe L) (pe G) (iz Q)) _) = _
            rw [u1, bd_some]
            have e1' : fX7_pointPart u.2.2.2.2.2.2.2.2.2.2 ss (nbd f) u.1 u.2.1 u.2.2.2.1 u.2.2.2.2.1 u.2.2.2.2.2.1 u.2.2.2.2.2.2.1 u.2.2.2.2.2.2.2.1 u.2.2.2.2.2.2.2.2.1 u.2.2.2.2.2.2.2.2.2.1 (iz (ss : Int)) (px s) (py s) (pz s) (pe e) (iz ((nbd f : Nat) : Int)) (px bd') (py bd') (pz bd') (pe be) p3 (iz (w : Int)) = some (v, lo, hi') := e1
            change (bd (fX7_pointPart u.2.2.2.2.2.2.2.2.2.2 ss (nbd f) u.1 u.2.1 u.2.2.2.1 u.2.2.2.2.1 u.2.2.2.2.2.1 u.2.2.2.2.2.2.1 u.2.2.2.2.2.2.2.1 u.2.2.2.2.2.2.2.2.1 u.2.2.2.2.2.2.2.2.2.1 (iz (ss : Int)) (px s) (py s) (pz s) (pe e) (iz ((nbd f : Nat) : Int)) (px bd') (py bd') (pz bd') (pe be) p3 (iz (w : Int))) _) = _
            rw [e1', bd_some]
          · rw [ci]
            exact Rl_setb h ⟨n, f, N, cs, c, ss, s, e, bd', be, L, G, h1, hk, h3, h4', h5, SwK_up h6 hQ (r := SCt.mk' u.2.2.2.2.2.2.2.2.2.2 u.1 u.2.1 u.2.2.1 u.2.2.2.1 u.2.2.2.2.1 u.2.2.2.2.2.1 u.2.2.2.2.2.2.1 lo hi' u.2.2.2.2.2.2.2.2.2.1) hu⟩
      · left
        unfold fX8_point_B fX9_point_
        rw [find_i hi h8, bd_some, sw_i q1 q2, bd_some, if_pos hQ, if_neg n10, way_i w1 w2, bd_some, if_neg hw', if_pos rfl, is_i hi h8, bd_some, if_neg n10, iz_lz q1 q2, show (1 : Int64) = lz 1 from rfl, show (5 : Int64) = lz 5 from rfl, in_z (by omega) (by omega) (by omega) (by omega) (by omega) (by omega), bd_some, if_pos hQ, if_neg n10, iz_lz w1 w2, show (0 : Int64) = lz 0 from rfl, show (2 : Int64) = lz 2 from rfl, in_z (by omega) (by omega) (by omega) (by omega) (by omega) (by omega), bd_some, if_neg hw', if_pos rfl, ite_self]
        exact ⟨b, _, _, hb, rfl, rfl, rfl⟩
    · left
      unfold fX8_point_B fX9_point_
      rw [find_i hi h8, bd_some, sw_i q1 q2, bd_some, if_neg hQ, if_pos rfl, is_i hi h8, bd_some, if_neg n10, iz_lz q1 q2, show (1 : Int64) = lz 1 from rfl, show (5 : Int64) = lz 5 from rfl, in_z (by omega) (by omega) (by omega) (by omega) (by omega) (by omega), bd_some, if_neg hQ, if_pos rfl]
      exact ⟨b, _, _, hb, rfl, rfl, rfl⟩
  · left
    unfold fX8_point_N fX9_point_
    rw [findnot hx x1 x2 h8, bd_some, isnot hx x1 x2 h8, bd_some, if_pos rfl]
    exact ⟨_, _, rfl, rfl, rfl⟩
theorem Rl_rank {C : XCt} {M : MCt} (h : Rl C M) (p1 p2 p3 p4 p5 : Int32) : (∃ res resM, fX8_rank_N C.bc p1 p2 p3 p4 p5 = some res ∧ fX9_rank M.bo M.tx M.ty M.tz M.FI M.CO M.CR M.SI M.SR M.BO p1 p2 p3 p4 p5 = some resM ∧ res.1 = resM.1) ∨ (∃ b res resM, C.bo[p1.toNatClampNeg]? = some b ∧ fX8_rank_B C.bc p1 p2 p3 p4 p5 = some res ∧ fX9_rank M.bo M.tx M.ty M.tz M.FI M.CO M.CR M.SI M.SR M.BO p1 p2 p3 p4 p5 = some resM ∧ res.1 = resM.1) ∨ (∃ b r res resM, C.bo[p1.toNatClampNeg]? = some b ∧ b.sw (kept p2).toNatClampNeg = some r ∧ fX8_rank_C b.ns b.nb r.n C.bc b.ss b.SA b.SB b.SC b.SE b.bs b.BA b.BB b.BC b.BD r.fac r.lx r.gx r.ly r.gy r.lz r.gz r.lo r.hi r.BE p1 p2 p3 p4 p5 = some res ∧ fX9_rank M.bo M.tx M.ty M.tz M.FI M.CO M.CR M.SI M.SR M.BO p1 p2 p3 p4 p5 = some resM ∧ res.1 = resM.1 ∧ Rl (XCt.mc' C.kk C.la C.si C.CE (C.bo.set p1.toNatClampNeg (BCt.mc' b.kk b.gr (va_up b.sw (kept p2).toNatClampNeg (some (SCt.mk' r.n r.fac r.lx r.gx r.ly r.gy r.lz r.gz res.2.1 res.2.2 r.BE)))))) M) ∨ (∃ b res resM, C.bo[p1.toNatClampNeg]? = some b ∧ b.sw (kept p2).toNatClampNeg = none ∧ fX8_rank_W b.ns b.nb C.bc b.ss b.SA b.SB b.SC b.SE b.bs b.BA b.BB b.BC b.BD b.LL b.GG p1 p2 p3 p4 p5 = some res ∧ fX9_rank M.bo M.tx M.ty M.tz M.FI M.CO M.CR M.SI M.SR M.BO p1 p2 p3 p4 p5 = some resM ∧ res.1 = resM.1 ∧ Rl (XCt.mc' C.kk C.la C.si C.CE (C.bo.set p1.toNatClampNeg (BCt.mc' b.kk b.gr (va_up b.sw (kept p2).toNatClampNeg (some (SCt.mk' res.2.2.2.2.2.2.2.2.2.2.2 res.2.1 res.2.2.1 res.2.2.2.1 res.2.2.2.2.1 res.2.2.2.2.2.1 res.2.2.2.2.2.2.1 res.2.2.2.2.2.2.2.1 res.2.2.2.2.2.2.2.2.1 res.2.2.2.2.2.2.2.2.2.1 res.2.2.2.2.2.2.2.2.2.2.1)))))) M) := by
  have hc := h.2.2.2.1
  have hm := h.2.2.2.2.1
  have h8 := h.2.2.2.2.2.1
  rw [hc, hm]
  rcases body_at h p1 with ⟨i, b, rfl, hi, ci, hb, n, f, N, cs, c, ss, s, e, bd', be, L, G, h1, hk, h3, h4', h5, h6⟩ | ⟨x, rfl, hx, x1, x2⟩
  · right
    have hF := GB_facts h1
    obtain ⟨Q, rfl, q1, q2⟩ := some_iz p2
    by_cases hQ : 1 ≤ Q ∧ Q ≤ 5
    · cases hr : b.sw (kept (iz Q)).toNatClampNeg with
      | some r =>
        right; left
        have hp : SwP f N ss s e be L G Q r := h6 Q hQ r (by rw [← keptn hQ]; exact hr)
        obtain ⟨v, lo, hi', n1, n2, n3, e1, e2⟩ := rank_both hF h3 hi h8 hQ hp p3 p4 p5 M.tx M.ty M.tz
        refine ⟨b, r, (v, lo, hi'), _, hb, hr, ?_, e2, rfl, ?_⟩
        · obtain ⟨kk, gr, sw⟩ := b
          change kk = _ at hk
          subst hk
          unfold fX8_rank_C
          rw [find_i hi h8, bd_some, sw_i q1 q2, bd_some, if_pos hQ, if_neg n10, swC_i hQ, bd_some]
          change (bd (fX7_rankOf r.n ss (nbd f) r.fac r.lx r.gx r.ly r.gy r.lz r.gz r.lo r.hi r.BE (iz (ss : Int)) (px s) (py s) (pz s) (pe e) (iz ((nbd f : Nat) : Int)) (px bd') (py bd') (pz bd') (pe be) p3 p4 p5) _) = _
          rw [e1, bd_some]
        · rw [ci]
          exact Rl_setb h ⟨n, f, N, cs, c, ss, s, e, bd', be, L, G, h1, hk, h3, h4', h5, SwK_up h6 hQ (r := SCt.mk' r.n r.fac r.lx r.gx r.ly r.gy r.lz r.gz lo hi' r.BE) hp⟩
      | none =>
        right; right
        obtain ⟨u, u1, hu⟩ := swellW_i hF hQ
        obtain ⟨v, lo, hi', n1, n2, n3, e1, e2⟩ := rank_both hF h3 hi h8 hQ hu p3 p4 p5 M.tx M.ty M.tz
        refine ⟨b, (v, u.1, u.2.1, u.2.2.1, u.2.2.2.1, u.2.2.2.2.1, u.2.2.2.2.2.1, u.2.2.2.2.2.2.1, lo, hi', u.2.2.2.2.2.2.2.2.2.1, u.2.2.2.2.2.2.2.2.2.2), _, hb, hr, ?_, e2, rfl, ?_⟩
        · obtain ⟨kk, gr, sw⟩ := b
          change kk = _ at hk
          subst hk
          unfold fX8_rank_W
          rw [find_i hi h8, bd_some, sw_i q1 q2, bd_some, if_pos hQ, if_neg n10]
          change (bd (fX0_swelling_W ss (nbd f) (iz (ss : Int)) (px s) (py s) (pz s) (pe e) (iz ((nbd f : Nat) : Int)) (px bd') (py bd') (pz bd') (pe be) (pe L) (pe G) (iz Q)) _) = _
          rw [u1, bd_some]
          have e1' : fX7_rankOf u.2.2.2.2.2.2.2.2.2.2 ss (nbd f) u.1 u.2.1 u.2.2.1 u.2.2.2.1 u.2.2.2.2.1 u.2.2.2.2.2.1 u.2.2.2.2.2.2.1 u.2.2.2.2.2.2.2.1 u.2.2.2.2.2.2.2.2.1 u.2.2.2.2.2.2.2.2.2.1 (iz (ss : Int)) (px s) (py s) (pz s) (pe e) (iz ((nbd f : Nat) : Int)) (px bd') (py bd') (pz bd') (pe be) p3 p4 p5 = some (v, lo, hi') := e1
          change (bd (fX7_rankOf u.2.2.2.2.2.2.2.2.2.2 ss (nbd f) u.1 u.2.1 u.2.2.1 u.2.2.2.1 u.2.2.2.2.1 u.2.2.2.2.2.1 u.2.2.2.2.2.2.1 u.2.2.2.2.2.2.2.1 u.2.2.2.2.2.2.2.2.1 u.2.2.2.2.2.2.2.2.2.1 (iz (ss : Int)) (px s) (py s) (pz s) (pe e) (iz ((nbd f : Nat) : Int)) (px bd') (py bd') (pz bd') (pe be) p3 p4 p5) _) = _
          rw [e1', bd_some]
        · rw [ci]
          exact Rl_setb h ⟨n, f, N, cs, c, ss, s, e, bd', be, L, G, h1, hk, h3, h4', h5, SwK_up h6 hQ (r := SCt.mk' u.2.2.2.2.2.2.2.2.2.2 u.1 u.2.1 u.2.2.1 u.2.2.2.1 u.2.2.2.2.1 u.2.2.2.2.2.1 u.2.2.2.2.2.2.1 lo hi' u.2.2.2.2.2.2.2.2.2.1) hu⟩
    · left
      unfold fX8_rank_B fX9_rank
      rw [find_i hi h8, bd_some, sw_i q1 q2, bd_some, if_neg hQ, if_pos rfl, is_i hi h8, bd_some, if_neg n10, iz_lz q1 q2, show (1 : Int64) = lz 1 from rfl, show (5 : Int64) = lz 5 from rfl, in_z (by omega) (by omega) (by omega) (by omega) (by omega) (by omega), bd_some, if_neg hQ, if_pos rfl]
      exact ⟨b, _, _, hb, rfl, rfl, rfl⟩
  · left
    unfold fX8_rank_N fX9_rank
    rw [findnot hx x1 x2 h8, bd_some, isnot hx x1 x2 h8, bd_some, if_pos rfl]
    exact ⟨_, _, rfl, rfl, rfl⟩
