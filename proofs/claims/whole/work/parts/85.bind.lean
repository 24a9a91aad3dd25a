/-! the bonds -/
def nbd (f : Nat) : Nat := if f = 3 then 0 else if f = 2 then 1 else 3
def bnd (f : Nat) (N : V3) (i : Nat) : V3 := if f = 0 then (if i = 0 then (1, 0, 0) else if i = 1 then (0, 1, 0) else (0, 0, 1)) else if f = 1 then (if i = 0 then (0, N.2.2, - N.2.1) else if i = 1 then (- N.2.2, 0, N.1) else (N.2.1, - N.1, 0)) else N
theorem bind_i {k : Nat} {q : Nat → V3} (hk : k ≤ 121) (hk1 : 1 ≤ k) {bs : Nat} (hb : bs < 3) (b : Nat → V3) (e : Nat → Int) (u : V3) : fX3_bind (iz (k : Int)) (px q) (py q) (pz q) (iz (bs : Int)) (px b) (py b) (pz b) (pe e) (iz u.1) (iz u.2.1) (iz u.2.2) = some (iz ((bs + 1 : Nat) : Int), px (ud b bs u), py (ud b bs u), pz (ud b bs u), pe (ud e bs (d3 u (q 0)))) := by
  unfold fX3_bind
  rw [if_neg (fun h => by have := (ix_z (by omega)).mp h; omega), show (0 : Int32) = iz ((0 : Nat) : Int) from rfl, ix_gd (by omega) (by omega), iz_cn (by omega), px_i, py_i, pz_i, iz_mul, iz_mul, iz_mul, iz_add, iz_add]
  unfold fX1_put fX1_insert
  rw [if_neg (by rw [z0, iz_lt (by omega) (by omega) (by omega) (by omega)]; omega), if_neg (by rw [ix_lt (by omega) (by omega)]; omega), if_pos (by rw [iz_nI, ix_lt (by omega) (by omega)]; omega), show FU = 4999 + 1 from rfl, LX1_insert_31, if_pos ((ix_le (by omega) (by omega)).mpr (Nat.le_refl _)), ix_gd hb (by omega), ix_s, iz_cn (by omega), upd_px, upd_py, upd_pz, upd_pe, bd_some, bd_some]
  rfl
theorem bindSpace_i {k : Nat} {q : Nat → V3} (hk : k ≤ 121) (hk1 : 1 ≤ k) (hr : ∀ i, i < k → rc3 (q i)) (hq : SS k q) {f : Nat} {L1 L2 L3 R1 R2 R3 : Int32} (h : (f = 0 ∧ k = 1) ∨ (2 ≤ k ∧ L1 = iz (sb3 (q 1) (q 0)).1 ∧ L2 = iz (sb3 (q 1) (q 0)).2.1 ∧ L3 = iz (sb3 (q 1) (q 0)).2.2 ∧ ((f = 1 ∧ ∀ x, x < k → cr (sb3 (q 1) (q 0)) (sb3 (q x) (q 0)) = o3) ∨ ∃ y, y < k ∧ cr (sb3 (q 1) (q 0)) (sb3 (q y) (q 0)) ≠ o3 ∧ R1 = iz (cr (sb3 (q 1) (q 0)) (sb3 (q y) (q 0))).1 ∧ R2 = iz (cr (sb3 (q 1) (q 0)) (sb3 (q y) (q 0))).2.1 ∧ R3 = iz (cr (sb3 (q 1) (q 0)) (sb3 (q y) (q 0))).2.2 ∧ ((f = 2 ∧ ∀ x, x < k → d3 (cr (sb3 (q 1) (q 0)) (sb3 (q y) (q 0))) (sb3 (q x) (q 0)) = 0) ∨ (f = 3 ∧ ∃ x, x < k ∧ d3 (cr (sb3 (q 1) (q 0)) (sb3 (q y) (q 0))) (sb3 (q x) (q 0)) ≠ 0))))) (b : Nat → V3) (e : Nat → Int) : ∃ (N : V3) (b' : Nat → V3) (e' : Nat → Int) (L1' L2' L3' R1' R2' R3' : Int32), fX3_bindSpace (iz (f : Int)) (iz (k : Int)) (px q) (py q) (pz q) 0 (px b) (py b) (pz b) (pe e) L1 L2 L3 R1 R2 R3 = some (iz ((nbd f : Nat) : Int), px b', py b', pz b', pe e', L1', L2', L3', R1', R2', R3') ∧ (∀ i, i < nbd f → b' i = bnd f N i ∧ e' i = d3 (bnd f N i) (q 0)) ∧ FD (Mm k q) f N ∧ bdv 200 N ∧ (f = 2 → R1' = iz N.1 ∧ R2' = iz N.2.1 ∧ R3' = iz N.2.2) ∧ (f = 1 → ∃ d, 0 < d ∧ sb3 (q (k - 1)) (q 0) = sm3 d N ∧ 2 ≤ k) := by
  have b3 : ∀ (u0 u1 u2 : V3) (c : V3 → Int) (i : Nat), i < 3 → (ud (ud (ud b 0 u0) 1 u1) 2 u2 i = if i = 0 then u0 else if i = 1 then u1 else u2) ∧ (ud (ud (ud e 0 (c u0)) 1 (c u1)) 2 (c u2) i = c (if i = 0 then u0 else if i = 1 then u1 else u2)) := by
    intro u0 u1 u2 c i hi
    rcases (show i = 0 ∨ i = 1 ∨ i = 2 by omega) with rfl | rfl | rfl <;> exact ⟨rfl, rfl⟩
  have e0 : (0 : Int32) = iz ((0 : Nat) : Int) := rfl
  unfold fX3_bindSpace
  rcases h with ⟨rfl, h1⟩ | ⟨h2, rfl, rfl, rfl, hh⟩
  · rw [if_pos (show iz ((0 : Nat) : Int) = 0 from rfl)]
    have s1 := bind_i (q := q) hk hk1 (bs := 0) (by omega) b e (1, 0, 0)
    have s2 := bind_i (q := q) hk hk1 (bs := 1) (by omega) (ud b 0 (1, 0, 0)) (ud e 0 (d3 (1, 0, 0) (q 0))) (0, 1, 0)
    have s3 := bind_i (q := q) hk hk1 (bs := 2) (by omega) (ud (ud b 0 (1, 0, 0)) 1 (0, 1, 0)) (ud (ud e 0 (d3 (1, 0, 0) (q 0))) 1 (d3 (0, 1, 0) (q 0))) (0, 0, 1)
    refine ⟨o3, ud (ud (ud b 0 (1, 0, 0)) 1 (0, 1, 0)) 2 (0, 0, 1), ud (ud (ud e 0 (d3 (1, 0, 0) (q 0))) 1 (d3 (0, 1, 0) (q 0))) 2 (d3 (0, 0, 1) (q 0)), L1, L2, L3, R1, R2, R3, ?_, fun i hi => b3 (1, 0, 0) (0, 1, 0) (0, 0, 1) (fun u => d3 u (q 0)) i hi, Or.inl ⟨rfl, fun p r ⟨i, hi, ei⟩ ⟨j, hj, ej⟩ => ?_⟩, by unfold o3; exact ⟨by decide, by decide, by decide⟩, fun h => by omega, fun h => by omega⟩
    · refine (congrArg (fun o => bd o _) s1).trans ?_
      rw [bd_some]
      refine (congrArg (fun o => bd o _) s2).trans ?_
      rw [bd_some]
      refine (congrArg (fun o => bd o _) s3).trans ?_
      rw [bd_some]
      rfl
    · rw [← ei, ← ej, show i = 0 by omega, show j = 0 by omega]
  · have hLb : bdv 10 (sb3 (q 1) (q 0)) := sb_bd (hr 1 (by omega)) (hr 0 (by omega))
    have l01 := hq 0 1 (by omega) (by omega)
    have Lne : sb3 (q 1) (q 0) ≠ o3 := fun h => lx_irr (a := q 0) (by have := sb3_0.mp h; rw [this] at l01; exact l01)
    rcases hh with ⟨rfl, hall⟩ | ⟨y, y1, y2, rfl, rfl, rfl, hh⟩
    · rw [if_neg (show ¬ iz ((1 : Nat) : Int) = 0 by decide), if_pos (show iz ((1 : Nat) : Int) = 1 from rfl), shorten_i (bdv_100 (by decide) hLb), bd_some]
      obtain ⟨p1, p2⟩ := sh_prim Lne
      have em := sh_mul (sb3 (q 1) (q 0))
      have hS : lx o3 (sh (sb3 (q 1) (q 0))) := by
        have := lx_sb.mp l01
        rw [em] at this
        exact (lx_sm (by omega) _).mp this
      generalize hD : sh (sb3 (q 1) (q 0)) = D at *
      have crD : ∀ x, x < k → cr D (sb3 (q x) (q 0)) = o3 := fun x hx => by
        have := hall x hx
        rw [em] at this
        have h := v3_iff.mp this
        unfold cr sm3 o3 at h
        dsimp only at h
        have g : (gv (sb3 (q 1) (q 0)) : Int) ≠ 0 := by omega
        have key : ∀ y : Int, (gv (sb3 (q 1) (q 0)) : Int) * y = 0 → y = 0 := fun y hy => (Int.mul_eq_zero.mp hy).resolve_left g
        unfold cr o3
        exact v3_ext (key _ (by dsimp only; grind)) (key _ (by dsimp only; grind)) (key _ (by dsimp only; grind))
      have l0k := hq 0 (k - 1) (by omega) (by omega)
      obtain ⟨d, d0, ed⟩ := par_of p1 (v := sb3 (q (k - 1)) (q 0)) (fun h => lx_irr (a := q 0) (by have := sb3_0.mp h; rw [this] at l0k; exact l0k)) (crD (k - 1) (by omega))
      have dpos : 0 < d := by
        refine Classical.byContradiction fun hn => ?_
        have := lx_sb.mp l0k
        rw [ed, show sm3 d D = ng3 (sm3 (-d) D) by unfold sm3 ng3; exact v3_ext (by dsimp only; grind) (by dsimp only; grind) (by dsimp only; grind), lx_ng] at this
        exact lx_asym this ((lx_sm (by omega) _).mpr hS)
      have Db : bdv 200 D := by
        have e' := v3_iff.mp em
        unfold sm3 at e'
        dsimp only at e'
        have g1 : (1 : Int) ≤ gv (sb3 (q 1) (q 0)) := by omega
        have key : ∀ x y : Int, -10 ≤ y ∧ y ≤ 10 → y = (gv (sb3 (q 1) (q 0)) : Int) * x → -200 ≤ x ∧ x ≤ 200 := by
          intro x y hy e
          by_cases cx : 0 ≤ x
          · have := Int.mul_le_mul_of_nonneg_right g1 cx
            omega
          · have := Int.mul_le_mul_of_nonneg_right g1 (show 0 ≤ -x by omega)
            have e2 : (gv (sb3 (q 1) (q 0)) : Int) * -x = -y := by rw [e, Int.mul_neg]
            omega
        exact ⟨key _ _ hLb.1 e'.1, key _ _ hLb.2.1 e'.2.1, key _ _ hLb.2.2 e'.2.2⟩
      have s1 := bind_i (q := q) hk hk1 (bs := 0) (by omega) b e (0, D.2.2, -D.2.1)
      have s2 := bind_i (q := q) hk hk1 (bs := 1) (by omega) (ud b 0 (0, D.2.2, -D.2.1)) (ud e 0 (d3 (0, D.2.2, -D.2.1) (q 0))) (-D.2.2, 0, D.1)
      have s3 := bind_i (q := q) hk hk1 (bs := 2) (by omega) (ud (ud b 0 (0, D.2.2, -D.2.1)) 1 (-D.2.2, 0, D.1)) (ud (ud e 0 (d3 (0, D.2.2, -D.2.1) (q 0))) 1 (d3 (-D.2.2, 0, D.1) (q 0))) (D.2.1, -D.1, 0)
      refine ⟨D, ud (ud (ud b 0 (0, D.2.2, -D.2.1)) 1 (-D.2.2, 0, D.1)) 2 (D.2.1, -D.1, 0), ud (ud (ud e 0 (d3 (0, D.2.2, -D.2.1) (q 0))) 1 (d3 (-D.2.2, 0, D.1) (q 0))) 2 (d3 (D.2.1, -D.1, 0) (q 0)), iz D.1, iz D.2.1, iz D.2.2, R1, R2, R3, ?_, fun i hi => b3 (0, D.2.2, -D.2.1) (-D.2.2, 0, D.1) (D.2.1, -D.1, 0) (fun u => d3 u (q 0)) i hi, Or.inr (Or.inl ⟨rfl, p1, hS, fun p r ⟨i, hi, ei⟩ ⟨j, hj, ej⟩ => ?_, q 0, q 1, ⟨0, by omega, rfl⟩, ⟨1, by omega, rfl⟩, fun h => Lne (sb3_0.mpr h.symm)⟩), Db, fun h => by omega, fun _ => ⟨d, dpos, ed, h2⟩⟩
      · simp only [iz_neg]
        refine (congrArg (fun o => bd o _) s1).trans ?_
        rw [bd_some]
        refine (congrArg (fun o => bd o _) s2).trans ?_
        rw [bd_some]
        refine (congrArg (fun o => bd o _) s3).trans ?_
        rw [bd_some]
        rfl
      · have c1 := v3_iff.mp (crD i hi)
        have c2 := v3_iff.mp (crD j hj)
        rw [← ei, ← ej]
        unfold cr sb3 o3 at c1 c2 ⊢
        dsimp only at c1 c2
        exact v3_ext (by dsimp only; grind) (by dsimp only; grind) (by dsimp only; grind)
    · have hRb : bdv 200 (cr (sb3 (q 1) (q 0)) (sb3 (q y) (q 0))) := cr_bd (A := 10) (B := 10) hLb (sb_bd (hr y y1) (hr 0 (by omega)))
      rcases hh with ⟨rfl, hall⟩ | ⟨rfl, hex⟩
      · rw [if_neg (show ¬ iz ((2 : Nat) : Int) = 0 by decide), if_neg (show ¬ iz ((2 : Nat) : Int) = 1 by decide), if_pos (show iz ((2 : Nat) : Int) = 2 from rfl), shorten_i (bdv_100 (by decide) hRb), bd_some]
        obtain ⟨p1, p2⟩ := sh_prim y2
        have em := sh_mul (cr (sb3 (q 1) (q 0)) (sb3 (q y) (q 0)))
        have Rb : bdv 200 (sh (cr (sb3 (q 1) (q 0)) (sb3 (q y) (q 0)))) := by
          have e' := v3_iff.mp em
          unfold sm3 at e'
          dsimp only at e'
          have g1 : (1 : Int) ≤ gv (cr (sb3 (q 1) (q 0)) (sb3 (q y) (q 0))) := by omega
          have key : ∀ x y' : Int, -200 ≤ y' ∧ y' ≤ 200 → y' = (gv (cr (sb3 (q 1) (q 0)) (sb3 (q y) (q 0))) : Int) * x → -200 ≤ x ∧ x ≤ 200 := by
            intro x y' hy e
            by_cases cx : 0 ≤ x
            · have := Int.mul_le_mul_of_nonneg_right g1 cx
              omega
            · have := Int.mul_le_mul_of_nonneg_right g1 (show 0 ≤ -x by omega)
              have e2 : (gv (cr (sb3 (q 1) (q 0)) (sb3 (q y) (q 0))) : Int) * -x = -y' := by rw [e, Int.mul_neg]
              omega
          exact ⟨key _ _ hRb.1 e'.1, key _ _ hRb.2.1 e'.2.1, key _ _ hRb.2.2 e'.2.2⟩
        have flat : ∀ x, x < k → d3 (sh (cr (sb3 (q 1) (q 0)) (sb3 (q y) (q 0)))) (q x) = d3 (sh (cr (sb3 (q 1) (q 0)) (sb3 (q y) (q 0)))) (q 0) := fun x hx => by
          have := hall x hx
          rw [em, d3_sm, d3_sb] at this
          have := (Int.mul_eq_zero.mp this).resolve_left (by omega)
          omega
        have nr : ¬ row3 (q 0) (q 1) (q y) := y2
        generalize hM : sh (cr (sb3 (q 1) (q 0)) (sb3 (q y) (q 0))) = M at *
        have fin : ∀ N : V3, prim N → lx o3 N → bdv 200 N → (∀ x, x < k → d3 N (q x) = d3 N (q 0)) → ∃ (N' : V3) (b' : Nat → V3) (e' : Nat → Int) (L1' L2' L3' R1' R2' R3' : Int32), JX3_bindSpace_191 (iz ((2 : Nat) : Int)) (iz (k : Int)) (px q) (py q) (pz q) 0 (px b) (py b) (pz b) (pe e) (iz (sb3 (q 1) (q 0)).1) (iz (sb3 (q 1) (q 0)).2.1) (iz (sb3 (q 1) (q 0)).2.2) (iz N.1) (iz N.2.1) (iz N.2.2) = some (iz ((nbd 2 : Nat) : Int), px b', py b', pz b', pe e', L1', L2', L3', R1', R2', R3') ∧ (∀ i, i < nbd 2 → b' i = bnd 2 N' i ∧ e' i = d3 (bnd 2 N' i) (q 0)) ∧ FD (Mm k q) 2 N' ∧ bdv 200 N' ∧ (True → R1' = iz N'.1 ∧ R2' = iz N'.2.1 ∧ R3' = iz N'.2.2) ∧ (2 = 1 → ∃ d, 0 < d ∧ sb3 (q (k - 1)) (q 0) = sm3 d N' ∧ 2 ≤ k) := by
          intro N n1 n2 n3 n4
          have s1 := bind_i (q := q) hk hk1 (bs := 0) (by omega) b e N
          refine ⟨N, ud b 0 N, ud e 0 (d3 N (q 0)), iz (sb3 (q 1) (q 0)).1, iz (sb3 (q 1) (q 0)).2.1, iz (sb3 (q 1) (q 0)).2.2, iz N.1, iz N.2.1, iz N.2.2, ?_, fun i hi => ?_, Or.inr (Or.inr (Or.inl ⟨rfl, n1, n2, fun p r ⟨i, hi, ei⟩ ⟨j, hj, ej⟩ => ?_, q 0, q 1, q y, ⟨0, by omega, rfl⟩, ⟨1, by omega, rfl⟩, ⟨y, y1, rfl⟩, nr⟩)), n3, fun _ => ⟨rfl, rfl, rfl⟩, fun h => by omega⟩
          · unfold JX3_bindSpace_191
            refine (congrArg (fun o => bd o _) s1).trans ?_
            rw [bd_some]
            rfl
          · have : i = 0 := by unfold nbd at hi; rw [if_neg (by omega), if_pos rfl] at hi; omega
            subst this
            exact ⟨rfl, rfl⟩
          · rw [← ei, ← ej, n4 i hi, n4 j hj]
        have up : lx o3 M → ∃ (N' : V3) (b' : Nat → V3) (e' : Nat → Int) (L1' L2' L3' R1' R2' R3' : Int32), JX3_bindSpace_178 (iz ((2 : Nat) : Int)) (iz (k : Int)) (px q) (py q) (pz q) 0 (px b) (py b) (pz b) (pe e) (iz (sb3 (q 1) (q 0)).1) (iz (sb3 (q 1) (q 0)).2.1) (iz (sb3 (q 1) (q 0)).2.2) (iz M.1) (iz M.2.1) (iz M.2.2) = some (iz ((nbd 2 : Nat) : Int), px b', py b', pz b', pe e', L1', L2', L3', R1', R2', R3') ∧ (∀ i, i < nbd 2 → b' i = bnd 2 N' i ∧ e' i = d3 (bnd 2 N' i) (q 0)) ∧ FD (Mm k q) 2 N' ∧ bdv 200 N' ∧ (True → R1' = iz N'.1 ∧ R2' = iz N'.2.1 ∧ R3' = iz N'.2.2) ∧ (2 = 1 → ∃ d, 0 < d ∧ sb3 (q (k - 1)) (q 0) = sm3 d N' ∧ 2 ≤ k) := by
          intro hl
          unfold JX3_bindSpace_178 JX3_bindSpace_179
          rw [if_pos rfl]
          exact fin M p1 hl Rb flat
        have dn : lx M o3 → ∃ (N' : V3) (b' : Nat → V3) (e' : Nat → Int) (L1' L2' L3' R1' R2' R3' : Int32), JX3_bindSpace_174 (iz ((2 : Nat) : Int)) (iz (k : Int)) (px q) (py q) (pz q) 0 (px b) (py b) (pz b) (pe e) (iz (sb3 (q 1) (q 0)).1) (iz (sb3 (q 1) (q 0)).2.1) (iz (sb3 (q 1) (q 0)).2.2) (iz M.1) (iz M.2.1) (iz M.2.2) = some (iz ((nbd 2 : Nat) : Int), px b', py b', pz b', pe e', L1', L2', L3', R1', R2', R3') ∧ (∀ i, i < nbd 2 → b' i = bnd 2 N' i ∧ e' i = d3 (bnd 2 N' i) (q 0)) ∧ FD (Mm k q) 2 N' ∧ bdv 200 N' ∧ (True → R1' = iz N'.1 ∧ R2' = iz N'.2.1 ∧ R3' = iz N'.2.2) ∧ (2 = 1 → ∃ d, 0 < d ∧ sb3 (q (k - 1)) (q 0) = sm3 d N' ∧ 2 ≤ k) := by
          intro hl
          unfold JX3_bindSpace_174 JX3_bindSpace_179
          rw [if_neg (by decide), flip_i, bd_some]
          refine fin (ng3 M) (prim_ng p1) (lx_ng.mpr hl) ?_ (fun x hx => by rw [d3_ng, d3_ng, flat x hx])
          obtain ⟨r1, r2, r3⟩ := Rb
          unfold ng3
          exact ⟨by dsimp only; omega, by dsimp only; omega, by dsimp only; omega⟩
        have tri := lx_0 (prim_0 p1)
        obtain ⟨r1, r2, r3⟩ := Rb
        rw [z0] at *
        simp (disch := omega) only [iz_lt, iz_eq, iz_le]
        unfold lx o3 at tri up dn
        dsimp only at tri up dn
        by_cases c1 : M.1 < 0
        · rw [if_pos c1]; exact dn (by omega)
        · rw [if_neg c1]
          by_cases c2 : M.1 = 0
          · rw [if_pos c2]
            by_cases c3 : M.2.1 < 0
            · rw [if_pos c3]; exact dn (by omega)
            · rw [if_neg c3]
              by_cases c4 : M.2.1 = 0
              · rw [if_pos c4]
                by_cases c5 : 0 ≤ M.2.2
                · rw [if_pos c5]; exact up (by omega)
                · rw [if_neg c5]; exact dn (by omega)
              · rw [if_neg c4]; exact up (by omega)
          · rw [if_neg c2]; exact up (by omega)
      · rw [if_neg (show ¬ iz ((3 : Nat) : Int) = 0 by decide), if_neg (show ¬ iz ((3 : Nat) : Int) = 1 by decide), if_neg (show ¬ iz ((3 : Nat) : Int) = 2 by decide)]
        obtain ⟨x, x1, x2⟩ := hex
        exact ⟨o3, b, e, iz (sb3 (q 1) (q 0)).1, iz (sb3 (q 1) (q 0)).2.1, iz (sb3 (q 1) (q 0)).2.2, iz (cr (sb3 (q 1) (q 0)) (sb3 (q y) (q 0))).1, iz (cr (sb3 (q 1) (q 0)) (sb3 (q y) (q 0))).2.1, iz (cr (sb3 (q 1) (q 0)) (sb3 (q y) (q 0))).2.2, rfl, fun i hi => by unfold nbd at hi; rw [if_pos rfl] at hi; omega, Or.inr (Or.inr (Or.inr ⟨rfl, q 0, q 1, q y, q x, ⟨0, by omega, rfl⟩, ⟨1, by omega, rfl⟩, ⟨y, y1, rfl⟩, ⟨x, x1, rfl⟩, x2⟩)), by unfold o3; exact ⟨by decide, by decide, by decide⟩, fun h => by omega, fun h => by omega⟩
