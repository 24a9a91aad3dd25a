set_option maxRecDepth 20000 in
theorem KM.of_risub {l : Launch} {y : MethodName} {ws : List Cond} {rm : Room} {av : List Value} {G : GT} {wc W : va_W} {res : Int32} (h : Met l y ws rm (va_Pc av (pR G wc)) (vp_Si (fun r => r = res)) 0 0 (fun _ => False)) (is : List Nat) (hs : is.filterMap (fun i => W[i]?) = wc) : KM l y ws rm av G W (fun v w => v = some (.int res) ∧ w = W) 0 0 := fun sz =>
  metMono h (fun _ _ q => ⟨q.1, q.2.1.2.1.sub is hs, q.2.1.2.2.1⟩) (fun a s o t q0 hW q => by
    obtain ⟨r, e, h1, hh⟩ := q
    subst h1
    obtain ⟨-, ⟨q1, qP, qK, qD⟩, -⟩ := q0
    exact ⟨⟨_, _, e, ⟨rfl, rfl⟩, by rw [hh]; exact qP, va_K.moved hW.alike qK, qD.self⟩, by rw [hh]; exact Nat.le_refl _, fun q _ _ => by rw [hh]⟩) (fun _ h => h.elim)
set_option maxRecDepth 20000 in
theorem KX8_within_SS (l : Launch) (G : GT) (A : XAd) (C : XCt) (a : BAd) (b : BCt) (og : Option Nat) (p1 p2 : Int32) (hq : A.RB p1.toNatClampNeg = some a.f) (hq2 : A.RB p2.toNatClampNeg = some a.f) (res : Int32) (hF : fX8_within_FF b.nc b.ns b.nb C.bc b.cs b.CX b.CY b.CZ b.ss b.SA b.SB b.SC b.SE b.bs b.BA b.BB b.BC b.BD p1 p2 = some res) (Wr : va_W) : KM l yX8_within wsX8_within rX8_within_FF [.ref A.h, .int p1, .int p2] G (f1W G A C ++ (bcW G a b og ++ Wr)) (fun v w => v = some (.int res) ∧ w = (f1W G A C ++ (bcW G a b og ++ Wr))) 0 0 :=
  KM.of_risub (kX8_within_FF l G A.h A.qb a.f a.c a.cx a.cy a.cz a.f a.s a.sa a.sb a.sc a.se a.b a.ba a.bb a.bc a.be A.d A.qs A.m a.s a.b a.al a.ag a.aw a.c a.al a.ag a.aw b.nc b.ns b.nb C.bc A.RB b.fl b.mo og b.cs b.CX b.CY b.CZ b.fl b.mo og b.ss b.SA b.SB b.SC b.SE b.bs b.BA b.BB b.BC b.BD p1 p2 hq hq2 res hF) [0, 6, 26, 27, 28, 29, 30, 26, 31, 32, 33, 34, 35, 36, 37, 38, 39, 40] rfl
set_option maxRecDepth 20000 in
theorem XK_X8_within_SS (l : Launch) (G : GT) {A : XAd} {C : XCt} (hx : xok A C) (p1 p2 : Int32) (b : BCt) (hb : C.bo[p1.toNatClampNeg]? = some b) (he : p2.toNatClampNeg = p1.toNatClampNeg) (res : Int32) (hF : fX8_within_FF b.nc b.ns b.nb C.bc b.cs b.CX b.CY b.CZ b.ss b.SA b.SB b.SC b.SE b.bs b.BA b.BB b.BC b.BD p1 p2 = some res) : XK l yX8_within wsX8_within [.ref A.h, .int p1, .int p2] G A C (.int res) (fun C' => C' = C) := by
  obtain ⟨a, ha⟩ := x_ad hx hb
  refine ((KE.of (KX8_within_SS l G A C a b (b.gr.map fun _ => a.o) p1 p2 (hx.rb _ a ha) (by rw [he]; exact hx.rb _ a ha) res hF _) rfl rfl (by decide)).perm (x1 G A C _ a b ha hb)).post (fun v w q => ?_)
  obtain ⟨rfl, rfl⟩ := q
  exact ⟨_, (x1 G A C _ a b ha hb).symm, rfl, A, C, rfl, rfl, hx, rfl⟩
set_option maxRecDepth 20000 in
theorem KX8_same_SS (l : Launch) (G : GT) (A : XAd) (C : XCt) (a : BAd) (b : BCt) (og : Option Nat) (p1 p2 : Int32) (hq : A.RB p1.toNatClampNeg = some a.f) (hq2 : A.RB p2.toNatClampNeg = some a.f) (res : Int32) (hF : fX8_same_FF b.nc b.nc C.bc b.cs b.CX b.CY b.CZ b.cs b.CX b.CY b.CZ p1 p2 = some res) (Wr : va_W) : KM l yX8_same wsX8_same rX8_same_FF [.ref A.h, .int p1, .int p2] G (f1W G A C ++ (bcW G a b og ++ Wr)) (fun v w => v = some (.int res) ∧ w = (f1W G A C ++ (bcW G a b og ++ Wr))) 0 0 :=
  KM.of_risub (kX8_same_FF l G A.h A.qb a.f a.c a.cx a.cy a.cz a.f a.c a.cx a.cy a.cz A.d A.qs A.m a.s a.b a.al a.ag a.aw a.s a.b a.al a.ag a.aw b.nc b.nc C.bc A.RB b.fl b.mo og b.cs b.CX b.CY b.CZ b.fl b.mo og b.cs b.CX b.CY b.CZ p1 p2 hq hq2 res hF) [0, 6, 26, 27, 28, 29, 30, 26, 27, 28, 29, 30] rfl
set_option maxRecDepth 20000 in
theorem XK_X8_same_SS (l : Launch) (G : GT) {A : XAd} {C : XCt} (hx : xok A C) (p1 p2 : Int32) (b : BCt) (hb : C.bo[p1.toNatClampNeg]? = some b) (he : p2.toNatClampNeg = p1.toNatClampNeg) (res : Int32) (hF : fX8_same_FF b.nc b.nc C.bc b.cs b.CX b.CY b.CZ b.cs b.CX b.CY b.CZ p1 p2 = some res) : XK l yX8_same wsX8_same [.ref A.h, .int p1, .int p2] G A C (.int res) (fun C' => C' = C) := by
  obtain ⟨a, ha⟩ := x_ad hx hb
  refine ((KE.of (KX8_same_SS l G A C a b (b.gr.map fun _ => a.o) p1 p2 (hx.rb _ a ha) (by rw [he]; exact hx.rb _ a ha) res hF _) rfl rfl (by decide)).perm (x1 G A C _ a b ha hb)).post (fun v w q => ?_)
  obtain ⟨rfl, rfl⟩ := q
  exact ⟨_, (x1 G A C _ a b ha hb).symm, rfl, A, C, rfl, rfl, hx, rfl⟩
set_option maxRecDepth 20000 in
theorem gloop_core : ∀ (j : Nat) (b : BCt) (n : Int32) (CT : Nat → Int32) (x : BCt × (Nat → Int32)), gloop j b n CT = some x → x.1 = (BCt.mc' b.kk b.gr x.1.sw) := by
  intro j
  induction j with
  | zero => intro b n CT x h; cases h; rfl
  | succ j ih =>
    intro b n CT x h
    rw [gloop] at h
    by_cases c : b.fl < n
    · rw [if_pos c] at h; cases h; rfl
    · rw [if_neg c] at h
      obtain ⟨r, _, h⟩ := bd_s h
      obtain ⟨t, _, h⟩ := bd_s h
      have h2 := ih _ _ _ _ h
      exact h2
set_option maxRecDepth 20000 in
theorem fgrow_core {b : BCt} {g : Int32 × (Nat → Int32) × BCt} (h : fgrow b = some g) : g.2.2 = (BCt.mc' b.kk b.gr g.2.2.sw) := by
  unfold fgrow at h
  obtain ⟨x, hx, h⟩ := bd_s h
  obtain ⟨u, _, h⟩ := bd_s h
  cases h
  exact gloop_core _ _ _ _ _ hx
set_option maxRecDepth 20000 in
theorem xk_g {l : Launch} {y : MethodName} {ws : List Cond} {av : List Value} {G : GT} {A : XAd} {C : XCt} (hx : xok A C) {k : Nat} {a : BAd} {b : BCt} (ha : A.bo[k]? = some a) (hb : C.bo[k]? = some b) (hg : b.gr = none) {gres : Int32 × (Nat → Int32) × BCt} (hG : fgrow b = some gres) {v : Value}
    (h : KE l y ws av G (f1W G A C ++ (bcW G a b none ++ (swsW G a b.sw ++ (shsW G A C ++ bsW G (A.bo.eraseIdx k) (C.bo.eraseIdx k))))) (gmQ G A C a b gres (shsW G A C ++ bsW G (A.bo.eraseIdx k) (C.bo.eraseIdx k)) (some v)) 8 200 50 2200) :
    XK l y ws av G A C v (fun C' => C' = C ∨ C' = (XCt.mc' C.kk C.la C.si C.CE (C.bo.set k (BCt.mc' gres.2.2.kk (some (gres.1, gres.2.1)) gres.2.2.sw)))) := by
  have P : (xW G A C).Perm (f1W G A C ++ (bcW G a b none ++ (swsW G a b.sw ++ (shsW G A C ++ bsW G (A.bo.eraseIdx k) (C.bo.eraseIdx k))))) := by
    have p := x1 G A C k a b ha hb
    rw [hg] at p
    exact p
  refine (h.perm P).post (fun v w q => ?_)
  obtain ⟨rfl, q⟩ := q
  rcases q with rfl | ⟨RW, w', wb', o, an, hok, rfl⟩
  · exact ⟨_, P.symm, rfl, A, C, rfl, Or.inl rfl, hx, rfl⟩
  · have hk1 := (List.getElem?_eq_some_iff.mp ha).1
    have hk2 := (List.getElem?_eq_some_iff.mp hb).1
    have hc := fgrow_core hG
    have e : bW G (aset2 a RW w' wb' o an) (BCt.mc' gres.2.2.kk (some (gres.1, gres.2.1)) gres.2.2.sw) = bcW G (aset2 a RW w' wb' o an) b (some o) ++ (grW G o an gres.1 gres.2.1 ++ swsW G (aset2 a RW w' wb' o an) gres.2.2.sw) := by
      rw [hc]; rfl
    have p2 := xfin G A A C C k (aset2 a RW w' wb' o an) (BCt.mc' gres.2.2.kk (some (gres.1, gres.2.1)) gres.2.2.sw) hk1 hk2 rfl
    rw [e] at p2
    have p3 := fl_perm [bcW G (aset2 a RW w' wb' o an) b (some o), grW G o an gres.1 gres.2.1, swsW G (aset2 a RW w' wb' o an) gres.2.2.sw, f1W G A C] (is := [0, 1, 2, 3]) (js := [3, 0, 1, 2]) (shsW G A C ++ bsW G (A.bo.eraseIdx k) (C.bo.eraseIdx k)) (by decide)
    refine ⟨_, List.Perm.trans p3 (List.Perm.trans (.of_eq ?_) p2), rfl, (XAd.mc' A.kk A.RB A.RS A.sf A.sl (A.bo.set k (aset2 a RW w' wb' o an))), (XCt.mc' C.kk C.la C.si C.CE (C.bo.set k (BCt.mc' gres.2.2.kk (some (gres.1, gres.2.1)) gres.2.2.sw))), rfl, Or.inr rfl, xok_set hx (A2 := A) (C2 := C) (a' := aset2 a RW w' wb' o an) ha rfl (b' := (BCt.mc' gres.2.2.kk (some (gres.1, gres.2.1)) gres.2.2.sw)) hok rfl rfl rfl rfl, rfl⟩
    simp only [fl, List.append_assoc]
    rfl
set_option maxRecDepth 20000 in
theorem XK_X8_count_g (l : Launch) (G : GT) {A : XAd} {C : XCt} (hx : xok A C) (p1 p2 : Int32) (b : BCt) (hb : C.bo[p1.toNatClampNeg]? = some b) (hg : b.gr = none) (gres : Int32 × (Nat → Int32) × BCt) (hG : fgrow b = some gres) (res : Int32) (hF : fX8_count_c C.bc gres.2.1 p1 p2 = some res) : XK l yX8_count wsX8_count [.ref A.h, .int p1, .int p2] G A C (.int res) (fun C' => C' = C ∨ C' = (XCt.mc' C.kk C.la C.si C.CE (C.bo.set p1.toNatClampNeg (BCt.mc' gres.2.2.kk (some (gres.1, gres.2.1)) gres.2.2.sw)))) := by
  obtain ⟨a, ha⟩ := x_ad hx hb
  exact xk_g hx ha hb hg hG (KE.of (KX8_count_g l G A C a b p1 p2 (hx.rb _ a ha) (hx.bk _ a b ha hb) gres hG res hF _) rfl rfl (by decide))
set_option maxRecDepth 20000 in
theorem XK_X8_inner_g (l : Launch) (G : GT) {A : XAd} {C : XCt} (hx : xok A C) (p1 p2 : Int32) (b : BCt) (hb : C.bo[p1.toNatClampNeg]? = some b) (hg : b.gr = none) (gres : Int32 × (Nat → Int32) × BCt) (hG : fgrow b = some gres) (res : Int32) (hF : fX8_inner_c C.bc b.fl gres.2.1 p1 p2 = some res) : XK l yX8_inner wsX8_inner [.ref A.h, .int p1, .int p2] G A C (.int res) (fun C' => C' = C ∨ C' = (XCt.mc' C.kk C.la C.si C.CE (C.bo.set p1.toNatClampNeg (BCt.mc' gres.2.2.kk (some (gres.1, gres.2.1)) gres.2.2.sw)))) := by
  obtain ⟨a, ha⟩ := x_ad hx hb
  exact xk_g hx ha hb hg hG (KE.of (KX8_inner_g l G A C a b p1 p2 (hx.rb _ a ha) (hx.bk _ a b ha hb) gres hG res hF _) rfl rfl (by decide))
set_option maxRecDepth 20000 in
theorem XK_X8_number_g (l : Launch) (G : GT) {A : XAd} {C : XCt} (hx : xok A C) (p1 p2 : Int32) (b : BCt) (hb : C.bo[p1.toNatClampNeg]? = some b) (hg : b.gr = none) (gres : Int32 × (Nat → Int32) × BCt) (hG : fgrow b = some gres) (res : Int32) (hF : fX8_number_c C.bc gres.2.1 p1 p2 = some res) : XK l yX8_number wsX8_number [.ref A.h, .int p1, .int p2] G A C (.int res) (fun C' => C' = C ∨ C' = (XCt.mc' C.kk C.la C.si C.CE (C.bo.set p1.toNatClampNeg (BCt.mc' gres.2.2.kk (some (gres.1, gres.2.1)) gres.2.2.sw)))) := by
  obtain ⟨a, ha⟩ := x_ad hx hb
  exact xk_g hx ha hb hg hG (KE.of (KX8_number_g l G A C a b p1 p2 (hx.rb _ a ha) (hx.bk _ a b ha hb) gres hG res hF _) rfl rfl (by decide))
set_option maxRecDepth 20000 in
theorem XK_X8_rule_g (l : Launch) (G : GT) {A : XAd} {C : XCt} (hx : xok A C) (p1 p2 : Int32) (b : BCt) (hb : C.bo[p1.toNatClampNeg]? = some b) (hg : b.gr = none) (gres : Int32 × (Nat → Int32) × BCt) (hG : fgrow b = some gres) (res : Int64) (hF : fX8_rule_c C.bc gres.2.1 p1 p2 = some res) : XK l yX8_rule wsX8_rule [.ref A.h, .int p1, .int p2] G A C (.long res) (fun C' => C' = C ∨ C' = (XCt.mc' C.kk C.la C.si C.CE (C.bo.set p1.toNatClampNeg (BCt.mc' gres.2.2.kk (some (gres.1, gres.2.1)) gres.2.2.sw)))) := by
  obtain ⟨a, ha⟩ := x_ad hx hb
  exact xk_g hx ha hb hg hG (KE.of (KX8_rule_g l G A C a b p1 p2 (hx.rb _ a ha) (hx.bk _ a b ha hb) gres hG res hF _) rfl rfl (by decide))
set_option maxRecDepth 20000 in
theorem XK_X8_stairs_g (l : Launch) (G : GT) {A : XAd} {C : XCt} (hx : xok A C) (p1 p2 : Int32) (b : BCt) (hb : C.bo[p1.toNatClampNeg]? = some b) (hg : b.gr = none) (gres : Int32 × (Nat → Int32) × BCt) (hG : fgrow b = some gres) (res : Int32) (hF : fX8_stairs_c C.bc b.fl gres.1 gres.2.1 p1 p2 = some res) : XK l yX8_stairs wsX8_stairs [.ref A.h, .int p1, .int p2] G A C (.int res) (fun C' => C' = C ∨ C' = (XCt.mc' C.kk C.la C.si C.CE (C.bo.set p1.toNatClampNeg (BCt.mc' gres.2.2.kk (some (gres.1, gres.2.1)) gres.2.2.sw)))) := by
  obtain ⟨a, ha⟩ := x_ad hx hb
  exact xk_g hx ha hb hg hG (KE.of (KX8_stairs_g l G A C a b p1 p2 (hx.rb _ a ha) (hx.bk _ a b ha hb) gres hG res hF _) rfl rfl (by decide))
set_option maxRecDepth 20000 in
theorem XK_X8_drop_dr (l : Launch) (G : GT) {A : XAd} {C : XCt} (hx : xok A C) (res : Int32 × Int32) (hF : fX8_drop_dr C.bc = some res) (bs : List BCt) (b : BCt) (hbo : C.bo = bs ++ [b]) (hbc : res.2.toInt = bs.length) (hbc2 : (C.bc - 1).toNatClampNeg = bs.length) : XK l yX8_drop wsX8_drop [.ref A.h] G A C (.int res.1) (fun C' => C' = (XCt.mk' res.2 C.ds C.fi C.ps C.ss C.bs C.l1 C.l2 C.l3 C.c1 C.c2 C.c3 C.r1 C.r2 C.r3 C.f1 C.f2 C.f3 C.DX C.DY C.DZ C.X C.Y C.Z C.SA C.SB C.SC C.SE C.BA C.BB C.BC C.BD C.la C.si C.CE bs)) := by
  refine (KE.of (KX8_drop_dr l G A C res hF (shsW G A C ++ bsW G A.bo C.bo)) rfl rfl (by decide)).post2 (fun v w q => ?_)
  obtain ⟨rfl, nu, rfl⟩ := q
  have hl : A.bo.length = bs.length + 1 := by rw [hx.len, hbo]; simp
  have hne : A.bo ≠ [] := fun h => by rw [h] at hl; simp at hl
  have hA : A.bo = A.bo.dropLast ++ [A.bo.getLast hne] := (List.dropLast_concat_getLast hne).symm
  have hl2 : A.bo.dropLast.length = bs.length := by simp [hl]
  generalize A.bo.getLast hne = a at hA
  generalize hd : A.bo.dropLast = as at hA hl2
  have p := (bs_app G as bs a b hl2).trans List.perm_append_comm
  rw [← hA, ← hbo] at p
  refine ⟨xW G (XAd.mc' A.kk (va_up A.RB (C.bc - 1).toNatClampNeg none) A.RS A.sf A.sl as) (XCt.mk' res.2 C.ds C.fi C.ps C.ss C.bs C.l1 C.l2 C.l3 C.c1 C.c2 C.c3 C.r1 C.r2 C.r3 C.f1 C.f2 C.f3 C.DX C.DY C.DZ C.X C.Y C.Z C.SA C.SB C.SC C.SE C.BA C.BB C.BC C.BD C.la C.si C.CE bs), bW G a b, ?_, rfl, (XAd.mc' A.kk (va_up A.RB (C.bc - 1).toNatClampNeg none) A.RS A.sf A.sl as), (XCt.mk' res.2 C.ds C.fi C.ps C.ss C.bs C.l1 C.l2 C.l3 C.c1 C.c2 C.c3 C.r1 C.r2 C.r3 C.f1 C.f2 C.f3 C.DX C.DY C.DZ C.X C.Y C.Z C.SA C.SB C.SC C.SE C.BA C.BB C.BC C.BD C.la C.si C.CE bs), rfl, rfl, ⟨hl2, ?_, hbc, hx.rs, ?_, ?_⟩, rfl⟩
  · refine List.Perm.trans (List.Perm.append_left _ (List.Perm.append_left _ p)) (.of_eq ?_)
    simp only [xW, List.append_assoc]
    rfl
  · have := hx.le8
    rw [hbo] at this
    simp at this
    show bs.length ≤ 8
    omega
  · intro j x hj
    have hj' : as[j]? = some x := hj
    have hlt := (List.getElem?_eq_some_iff.mp hj').1
    have h := hx.rb j x (by rw [hA, List.getElem?_append_left hlt]; exact hj')
    show va_up A.RB (C.bc - 1).toNatClampNeg none j = some x.f
    unfold va_up
    rw [if_neg (by omega)]
    exact h
  · intro j x z hj hz
    have hj' : as[j]? = some x := hj
    have hz' : bs[j]? = some z := hz
    have hlt := (List.getElem?_eq_some_iff.mp hj').1
    exact hx.bk j x z (by rw [hA, List.getElem?_append_left hlt]; exact hj') (by rw [hbo, List.getElem?_append_left (by omega)]; exact hz')
