set_option maxRecDepth 20000 in
theorem x_ad {A : XAd} {C : XCt} (hx : xok A C) {k : Nat} {b : BCt} (hb : C.bo[k]? = some b) : ∃ a, A.bo[k]? = some a := by
  have := (List.getElem?_eq_some_iff.mp hb).1
  rw [← hx.len] at this
  exact ⟨A.bo[k], List.getElem?_eq_getElem this⟩
set_option maxRecDepth 20000 in
theorem x1 (G : GT) (A : XAd) (C : XCt) (k : Nat) (a : BAd) (b : BCt) (h1 : A.bo[k]? = some a) (h2 : C.bo[k]? = some b) : (xW G A C).Perm (f1W G A C ++ (bcW G a b (b.gr.map fun _ => a.o) ++ (grO G a.o a.an b.gr ++ (swsW G a b.sw ++ (shsW G A C ++ bsW G (A.bo.eraseIdx k) (C.bo.eraseIdx k)))))) :=
  (x_focus G A C k a b h1 h2).trans (.of_eq (by unfold bW; simp only [List.append_assoc]))
set_option maxRecDepth 20000 in
theorem bw_C (G : GT) (a : BAd) (b : BCt) (K : Nat) (hK : K < 6) (r2 : SCt) (Z : va_W) : (bcW G a b (b.gr.map fun _ => a.o) ++ (swW G a.s a.b (a.w K) (a.wb K) r2 ++ (grO G a.o a.an b.gr ++ (swsW G a (va_up b.sw K none) ++ Z)))).Perm (bW G a (BCt.mc' b.kk b.gr (va_up b.sw K (some r2))) ++ Z) := by
  have e1 : va_up a.w K (a.w K) = a.w := by funext j; unfold va_up; split <;> simp_all
  have e2 : va_up a.wb K (a.wb K) = a.wb := by funext j; unfold va_up; split <;> simp_all
  have p := sws_put G a b.sw K hK (a.w K) (a.wb K) r2 a.RW
  rw [e1, e2] at p
  have h := fl_perm [bcW G a b (b.gr.map fun _ => a.o), swW G a.s a.b (a.w K) (a.wb K) r2, grO G a.o a.an b.gr, swsW G a (va_up b.sw K none)] (is := [0, 1, 2, 3]) (js := [0, 2, 1, 3]) Z (by decide)
  refine h.trans ?_
  have h2 : (bcW G a b (b.gr.map fun _ => a.o) ++ (grO G a.o a.an b.gr ++ ((swW G a.s a.b (a.w K) (a.wb K) r2 ++ swsW G a (va_up b.sw K none)) ++ Z))).Perm (bcW G a b (b.gr.map fun _ => a.o) ++ (grO G a.o a.an b.gr ++ (swsW G a (va_up b.sw K (some r2)) ++ Z))) := List.Perm.append_left _ (List.Perm.append_left _ (List.Perm.append_right _ p.symm))
  refine List.Perm.trans (.of_eq ?_) (h2.trans (.of_eq ?_))
  · simp [fl]
  · unfold bW; simp only [List.append_assoc]
set_option maxRecDepth 20000 in
theorem bw_W (G : GT) (a : BAd) (b : BCt) (K : Nat) (hK : K < 6) (hn : b.sw K = none) (RW : Nat → Option Nat) (w wb : Nat) (r2 : SCt) (Z : va_W) : (bcW G (BAd.mc' a.kk RW a.o a.an a.w a.wb) b (b.gr.map fun _ => a.o) ++ (swW G a.s a.b w wb r2 ++ (grO G a.o a.an b.gr ++ (swsW G a b.sw ++ Z)))).Perm (bW G (aset a RW (va_up a.w K w) (va_up a.wb K wb)) (BCt.mc' b.kk b.gr (va_up b.sw K (some r2))) ++ Z) := by
  have p := sws_put G a b.sw K hK w wb r2 RW
  rw [sws_none b.sw K hn] at p
  have h := fl_perm [bcW G (BAd.mc' a.kk RW a.o a.an a.w a.wb) b (b.gr.map fun _ => a.o), swW G a.s a.b w wb r2, grO G a.o a.an b.gr, swsW G a b.sw] (is := [0, 1, 2, 3]) (js := [0, 2, 1, 3]) Z (by decide)
  refine h.trans ?_
  have h2 : (bcW G (BAd.mc' a.kk RW a.o a.an a.w a.wb) b (b.gr.map fun _ => a.o) ++ (grO G a.o a.an b.gr ++ ((swW G a.s a.b w wb r2 ++ swsW G a b.sw) ++ Z))).Perm (bcW G (BAd.mc' a.kk RW a.o a.an a.w a.wb) b (b.gr.map fun _ => a.o) ++ (grO G a.o a.an b.gr ++ (swsW G (aset a RW (va_up a.w K w) (va_up a.wb K wb)) (va_up b.sw K (some r2)) ++ Z))) := List.Perm.append_left _ (List.Perm.append_left _ (List.Perm.append_right _ p.symm))
  refine List.Perm.trans (.of_eq ?_) (h2.trans (.of_eq ?_))
  · simp [fl]
  · unfold bW; simp only [List.append_assoc]
set_option maxRecDepth 20000 in
theorem x1C (G : GT) (A : XAd) (C : XCt) (k : Nat) (a : BAd) (b : BCt) (h1 : A.bo[k]? = some a) (h2 : C.bo[k]? = some b) (K : Nat) (hK : K < 6) (r : SCt) (hr : b.sw K = some r) : (xW G A C).Perm (f1W G A C ++ (bcW G a b (b.gr.map fun _ => a.o) ++ (swW G a.s a.b (a.w K) (a.wb K) r ++ (grO G a.o a.an b.gr ++ (swsW G a (va_up b.sw K none) ++ (shsW G A C ++ bsW G (A.bo.eraseIdx k) (C.bo.eraseIdx k))))))) := by
  refine (x_focus G A C k a b h1 h2).trans (List.Perm.append_left _ ?_)
  have e3 : va_up b.sw K (some r) = b.sw := by funext j; unfold va_up; split <;> simp_all
  have p := (bw_C G a b K hK r (shsW G A C ++ bsW G (A.bo.eraseIdx k) (C.bo.eraseIdx k))).symm
  rw [e3] at p
  exact p
set_option maxRecDepth 20000 in
theorem x1g (G : GT) (A : XAd) (C : XCt) (k : Nat) (a : BAd) (b : BCt) (h1 : A.bo[k]? = some a) (h2 : C.bo[k]? = some b) (dg : Int32) (NU : Nat → Int32) (hg : b.gr = some (dg, NU)) : (xW G A C).Perm (f1W G A C ++ (bcW G a b (some a.o) ++ (grW G a.o a.an dg NU ++ (swsW G a b.sw ++ (shsW G A C ++ bsW G (A.bo.eraseIdx k) (C.bo.eraseIdx k)))))) := by
  have h := x1 G A C k a b h1 h2
  rw [hg] at h
  exact h
set_option maxRecDepth 20000 in
theorem bok_C {a : BAd} {b : BCt} (h : bok a b) {K : Nat} {r r2 : SCt} (hr : b.sw K = some r) : bok a (BCt.mc' b.kk b.gr (va_up b.sw K (some r2))) := by
  intro j hj
  show a.RW j = (va_up b.sw K (some r2) j).map _
  rw [h j hj]
  unfold va_up
  split
  · rename_i e
    subst e
    rw [hr]; rfl
  · rfl
set_option maxRecDepth 20000 in
theorem bok_W {a : BAd} {b : BCt} (h : bok a b) {K : Nat} {w wb : Nat} {r2 : SCt} : bok (aset a (va_up a.RW K (some w)) (va_up a.w K w) (va_up a.wb K wb)) (BCt.mc' b.kk b.gr (va_up b.sw K (some r2))) := by
  intro j hj
  show va_up a.RW K (some w) j = (va_up b.sw K (some r2) j).map (fun _ => va_up a.w K w j)
  unfold va_up
  split
  · rfl
  · exact h j hj
set_option maxRecDepth 20000 in
theorem XK_X8_corner (l : Launch) (G : GT) {A : XAd} {C : XCt} (hx : xok A C) (p1 : Int32) (p2 : Int32) (p3 : Int32) (res : Int32 × Int32 × (Nat → Int32) × (Nat → Int32) × (Nat → Int32)) (hF : fX8_corner C.ds C.DX C.DY C.DZ p1 p2 p3 = some res) : XK l yX8_corner wsX8_corner [.ref A.h, .int p1, .int p2, .int p3] G A C (.int res.1) (fun C' => C' = (XCt.mk' C.bc res.2.1 C.fi C.ps C.ss C.bs C.l1 C.l2 C.l3 C.c1 C.c2 C.c3 C.r1 C.r2 C.r3 C.f1 C.f2 C.f3 res.2.2.1 res.2.2.2.1 res.2.2.2.2 C.X C.Y C.Z C.SA C.SB C.SC C.SE C.BA C.BB C.BC C.BD C.la C.si C.CE C.bo)) := by
  refine (KE.of (KX8_corner l G A C p1 p2 p3  res hF (shsW G A C ++ bsW G A.bo C.bo)) rfl rfl (by decide)).post (fun v w q => ?_)
  obtain ⟨rfl, rfl⟩ := q
  exact ⟨_, .refl _, rfl, A, (XCt.mk' C.bc res.2.1 C.fi C.ps C.ss C.bs C.l1 C.l2 C.l3 C.c1 C.c2 C.c3 C.r1 C.r2 C.r3 C.f1 C.f2 C.f3 res.2.2.1 res.2.2.2.1 res.2.2.2.2 C.X C.Y C.Z C.SA C.SB C.SC C.SE C.BA C.BB C.BC C.BD C.la C.si C.CE C.bo), rfl, rfl, ⟨hx.len, hx.le8, hx.cnt, hx.rs, hx.rb, hx.bk⟩, rfl⟩
set_option maxRecDepth 20000 in
theorem XK_X8_clear (l : Launch) (G : GT) {A : XAd} {C : XCt} (hx : xok A C) (res : Int32 × Int32) (hF : fX8_clear C.ds = some res) : XK l yX8_clear wsX8_clear [.ref A.h] G A C (.int res.1) (fun C' => C' = (XCt.mk' C.bc res.2 C.fi C.ps C.ss C.bs C.l1 C.l2 C.l3 C.c1 C.c2 C.c3 C.r1 C.r2 C.r3 C.f1 C.f2 C.f3 C.DX C.DY C.DZ C.X C.Y C.Z C.SA C.SB C.SC C.SE C.BA C.BB C.BC C.BD C.la C.si C.CE C.bo)) := by
  refine (KE.of (KX8_clear l G A C   res hF (shsW G A C ++ bsW G A.bo C.bo)) rfl rfl (by decide)).post (fun v w q => ?_)
  obtain ⟨rfl, rfl⟩ := q
  exact ⟨_, .refl _, rfl, A, (XCt.mk' C.bc res.2 C.fi C.ps C.ss C.bs C.l1 C.l2 C.l3 C.c1 C.c2 C.c3 C.r1 C.r2 C.r3 C.f1 C.f2 C.f3 C.DX C.DY C.DZ C.X C.Y C.Z C.SA C.SB C.SC C.SE C.BA C.BB C.BC C.BD C.la C.si C.CE C.bo), rfl, rfl, ⟨hx.len, hx.le8, hx.cnt, hx.rs, hx.rb, hx.bk⟩, rfl⟩
set_option maxRecDepth 20000 in
theorem XK_X8_sheaf (l : Launch) (G : GT) {A : XAd} {C : XCt} (hx : xok A C) (p1 : Int32) (p2 : Int32) (p3 : Int32) (res : Int32 × Int32 × Int32 × (Nat → Int64)) (hF : fX8_sheaf (C.la (shI p1.toNatClampNeg)) (C.si (shI p1.toNatClampNeg)) (C.CE (shI p1.toNatClampNeg)) p1 p2 p3 = some res) : XK l yX8_sheaf wsX8_sheaf [.ref A.h, .int p1, .int p2, .int p3] G A C (.int res.1) (fun C' => C' = (XCt.mc' C.kk (va_up C.la (shI p1.toNatClampNeg) (res.2.1)) (va_up C.si (shI p1.toNatClampNeg) (res.2.2.1)) (va_up C.CE (shI p1.toNatClampNeg) (res.2.2.2)) C.bo)) := by
  obtain ⟨Wr, hW⟩ := sh_focus G A C (shI p1.toNatClampNeg) (shI_lt _)
  have P : ∀ C2 : XCt, (∀ j, j ≠ (shI p1.toNatClampNeg) → C2.la j = C.la j ∧ C2.si j = C.si j ∧ C2.CE j = C.CE j) → C2.bo = C.bo → (xW G A C2).Perm (f1W G A C2 ++ (shW G (A.sf (shI p1.toNatClampNeg)) (A.sl (shI p1.toNatClampNeg)) (C2.la (shI p1.toNatClampNeg)) (C2.si (shI p1.toNatClampNeg)) (C2.CE (shI p1.toNatClampNeg)) ++ (Wr ++ bsW G A.bo C.bo))) := fun C2 h e => List.Perm.append_left _ (by rw [e, ← List.append_assoc]; exact List.Perm.append_right _ (hW C2 h))
  refine ((KE.of (KX8_sheaf l G A C (A.sf (shI p1.toNatClampNeg)) (A.sl (shI p1.toNatClampNeg)) (C.la (shI p1.toNatClampNeg)) (C.si (shI p1.toNatClampNeg)) (C.CE (shI p1.toNatClampNeg)) p1 p2 p3 (hx.rs _) res hF (Wr ++ bsW G A.bo C.bo)) rfl rfl (by decide)).perm (P C (fun _ _ => ⟨rfl, rfl, rfl⟩) rfl)).post (fun v w q => ?_)
  obtain ⟨rfl, rfl⟩ := q
  have p := P (XCt.mc' C.kk (va_up C.la (shI p1.toNatClampNeg) (res.2.1)) (va_up C.si (shI p1.toNatClampNeg) (res.2.2.1)) (va_up C.CE (shI p1.toNatClampNeg) (res.2.2.2)) C.bo) (fun j hj => ⟨by show va_up _ _ _ j = _; unfold va_up; rw [if_neg hj], by show va_up _ _ _ j = _; unfold va_up; rw [if_neg hj], by show va_up _ _ _ j = _; unfold va_up; rw [if_neg hj]⟩) rfl
  have e_la : (XCt.mc' C.kk (va_up C.la (shI p1.toNatClampNeg) (res.2.1)) (va_up C.si (shI p1.toNatClampNeg) (res.2.2.1)) (va_up C.CE (shI p1.toNatClampNeg) (res.2.2.2)) C.bo).la (shI p1.toNatClampNeg) = res.2.1 := va_up_s _ _ _
  have e_si : (XCt.mc' C.kk (va_up C.la (shI p1.toNatClampNeg) (res.2.1)) (va_up C.si (shI p1.toNatClampNeg) (res.2.2.1)) (va_up C.CE (shI p1.toNatClampNeg) (res.2.2.2)) C.bo).si (shI p1.toNatClampNeg) = res.2.2.1 := va_up_s _ _ _
  have e_CE : (XCt.mc' C.kk (va_up C.la (shI p1.toNatClampNeg) (res.2.1)) (va_up C.si (shI p1.toNatClampNeg) (res.2.2.1)) (va_up C.CE (shI p1.toNatClampNeg) (res.2.2.2)) C.bo).CE (shI p1.toNatClampNeg) = res.2.2.2 := va_up_s _ _ _
  rw [e_la, e_si, e_CE] at p
  exact ⟨_, p.symm, rfl, A, _, rfl, rfl, ⟨hx.len, hx.le8, hx.cnt, hx.rs, hx.rb, hx.bk⟩, rfl⟩
set_option maxRecDepth 20000 in
theorem XK_X8_lay (l : Launch) (G : GT) {A : XAd} {C : XCt} (hx : xok A C) (p1 : Int32) (p2 : Int32) (p3 : Int64) (res : Int32 × (Nat → Int64)) (hF : fX8_lay (C.la (shI p1.toNatClampNeg)) (C.si (shI p1.toNatClampNeg)) (C.CE (shI p1.toNatClampNeg)) p1 p2 p3 = some res) : XK l yX8_lay wsX8_lay [.ref A.h, .int p1, .int p2, .long p3] G A C (.int res.1) (fun C' => C' = (XCt.mc' C.kk C.la C.si (va_up C.CE (shI p1.toNatClampNeg) (res.2)) C.bo)) := by
  obtain ⟨Wr, hW⟩ := sh_focus G A C (shI p1.toNatClampNeg) (shI_lt _)
  have P : ∀ C2 : XCt, (∀ j, j ≠ (shI p1.toNatClampNeg) → C2.la j = C.la j ∧ C2.si j = C.si j ∧ C2.CE j = C.CE j) → C2.bo = C.bo → (xW G A C2).Perm (f1W G A C2 ++ (shW G (A.sf (shI p1.toNatClampNeg)) (A.sl (shI p1.toNatClampNeg)) (C2.la (shI p1.toNatClampNeg)) (C2.si (shI p1.toNatClampNeg)) (C2.CE (shI p1.toNatClampNeg)) ++ (Wr ++ bsW G A.bo C.bo))) := fun C2 h e => List.Perm.append_left _ (by rw [e, ← List.append_assoc]; exact List.Perm.append_right _ (hW C2 h))
  refine ((KE.of (KX8_lay l G A C (A.sf (shI p1.toNatClampNeg)) (A.sl (shI p1.toNatClampNeg)) (C.la (shI p1.toNatClampNeg)) (C.si (shI p1.toNatClampNeg)) (C.CE (shI p1.toNatClampNeg)) p1 p2 p3 (hx.rs _) res hF (Wr ++ bsW G A.bo C.bo)) rfl rfl (by decide)).perm (P C (fun _ _ => ⟨rfl, rfl, rfl⟩) rfl)).post (fun v w q => ?_)
  obtain ⟨rfl, rfl⟩ := q
  have p := P (XCt.mc' C.kk C.la C.si (va_up C.CE (shI p1.toNatClampNeg) (res.2)) C.bo) (fun j hj => ⟨rfl, rfl, by show va_up _ _ _ j = _; unfold va_up; rw [if_neg hj]⟩) rfl
  have e_CE : (XCt.mc' C.kk C.la C.si (va_up C.CE (shI p1.toNatClampNeg) (res.2)) C.bo).CE (shI p1.toNatClampNeg) = res.2 := va_up_s _ _ _
  rw [e_CE] at p
  exact ⟨_, p.symm, rfl, A, _, rfl, rfl, ⟨hx.len, hx.le8, hx.cnt, hx.rs, hx.rb, hx.bk⟩, rfl⟩
set_option maxRecDepth 20000 in
theorem XK_X8_draw (l : Launch) (G : GT) {A : XAd} {C : XCt} (hx : xok A C) (p1 : Int32) (p2 : Int32) (p3 : Int32) (res : Int32 × Int32 × (Nat → Int32) × (Nat → Int32) × (Nat → Int32)) (hF : fX8_draw C.ds C.DX C.DY C.DZ (C.la (shI p1.toNatClampNeg)) (C.si (shI p1.toNatClampNeg)) (C.CE (shI p1.toNatClampNeg)) p1 p2 p3 = some res) : XK l yX8_draw wsX8_draw [.ref A.h, .int p1, .int p2, .int p3] G A C (.int res.1) (fun C' => C' = (XCt.mk' C.bc res.2.1 C.fi C.ps C.ss C.bs C.l1 C.l2 C.l3 C.c1 C.c2 C.c3 C.r1 C.r2 C.r3 C.f1 C.f2 C.f3 res.2.2.1 res.2.2.2.1 res.2.2.2.2 C.X C.Y C.Z C.SA C.SB C.SC C.SE C.BA C.BB C.BC C.BD C.la C.si C.CE C.bo)) := by
  obtain ⟨Wr, hW⟩ := sh_focus G A C (shI p1.toNatClampNeg) (shI_lt _)
  have P : ∀ C2 : XCt, (∀ j, j ≠ (shI p1.toNatClampNeg) → C2.la j = C.la j ∧ C2.si j = C.si j ∧ C2.CE j = C.CE j) → C2.bo = C.bo → (xW G A C2).Perm (f1W G A C2 ++ (shW G (A.sf (shI p1.toNatClampNeg)) (A.sl (shI p1.toNatClampNeg)) (C2.la (shI p1.toNatClampNeg)) (C2.si (shI p1.toNatClampNeg)) (C2.CE (shI p1.toNatClampNeg)) ++ (Wr ++ bsW G A.bo C.bo))) := fun C2 h e => List.Perm.append_left _ (by rw [e, ← List.append_assoc]; exact List.Perm.append_right _ (hW C2 h))
  refine ((KE.of (KX8_draw l G A C (A.sf (shI p1.toNatClampNeg)) (A.sl (shI p1.toNatClampNeg)) (C.la (shI p1.toNatClampNeg)) (C.si (shI p1.toNatClampNeg)) (C.CE (shI p1.toNatClampNeg)) p1 p2 p3 (hx.rs _) res hF (Wr ++ bsW G A.bo C.bo)) rfl rfl (by decide)).perm (P C (fun _ _ => ⟨rfl, rfl, rfl⟩) rfl)).post (fun v w q => ?_)
  obtain ⟨rfl, rfl⟩ := q
  exact ⟨_, (P (XCt.mk' C.bc res.2.1 C.fi C.ps C.ss C.bs C.l1 C.l2 C.l3 C.c1 C.c2 C.c3 C.r1 C.r2 C.r3 C.f1 C.f2 C.f3 res.2.2.1 res.2.2.2.1 res.2.2.2.2 C.X C.Y C.Z C.SA C.SB C.SC C.SE C.BA C.BB C.BC C.BD C.la C.si C.CE C.bo) (fun _ _ => ⟨rfl, rfl, rfl⟩) rfl).symm, rfl, A, _, rfl, rfl, ⟨hx.len, hx.le8, hx.cnt, hx.rs, hx.rb, hx.bk⟩, rfl⟩
set_option maxRecDepth 20000 in
theorem XK_X8_all (l : Launch) (G : GT) {A : XAd} {C : XCt} (hx : xok A C) (p1 : Int32) (res : Int32) (hF : fX8_all C.bc C.ds (C.la 0) (C.si 0) p1 = some res) : XK l yX8_all wsX8_all [.ref A.h, .int p1] G A C (.int res) (fun C' => C' = C) := by
  obtain ⟨Wr, hW⟩ := sh_focus G A C 0 (by decide)
  have P : ∀ C2 : XCt, (∀ j, j ≠ 0 → C2.la j = C.la j ∧ C2.si j = C.si j ∧ C2.CE j = C.CE j) → C2.bo = C.bo → (xW G A C2).Perm (f1W G A C2 ++ (shW G (A.sf 0) (A.sl 0) (C2.la 0) (C2.si 0) (C2.CE 0) ++ (Wr ++ bsW G A.bo C.bo))) := fun C2 h e => List.Perm.append_left _ (by rw [e, ← List.append_assoc]; exact List.Perm.append_right _ (hW C2 h))
  refine ((KE.of (KX8_all l G A C (A.sf 0) (A.sl 0) (C.la 0) (C.si 0) (C.CE 0) p1 (hx.rs _) res hF (Wr ++ bsW G A.bo C.bo)) rfl rfl (by decide)).perm (P C (fun _ _ => ⟨rfl, rfl, rfl⟩) rfl)).post (fun v w q => ?_)
  obtain ⟨rfl, rfl⟩ := q
  exact ⟨_, (P C (fun _ _ => ⟨rfl, rfl, rfl⟩) rfl).symm, rfl, A, _, rfl, rfl, ⟨hx.len, hx.le8, hx.cnt, hx.rs, hx.rb, hx.bk⟩, rfl⟩
set_option maxRecDepth 20000 in
theorem XK_X8_about_N (l : Launch) (G : GT) {A : XAd} {C : XCt} (hx : xok A C) (p1 : Int32) (p2 : Int32) (res : Int32) (hF : fX8_about_N C.bc p1 p2 = some res) : XK l yX8_about wsX8_about [.ref A.h, .int p1, .int p2] G A C (.int res) (fun C' => C' = C) := by
  refine (KE.of (KX8_about_N l G A C p1 p2  res hF (shsW G A C ++ bsW G A.bo C.bo)) rfl rfl (by decide)).post (fun v w q => ?_)
  obtain ⟨rfl, rfl⟩ := q
  exact ⟨_, .refl _, rfl, A, C, rfl, rfl, ⟨hx.len, hx.le8, hx.cnt, hx.rs, hx.rb, hx.bk⟩, rfl⟩
set_option maxRecDepth 20000 in
theorem XK_X8_about_F (l : Launch) (G : GT) {A : XAd} {C : XCt} (hx : xok A C) (p1 : Int32) (p2 : Int32) (b : BCt) (hb : C.bo[p1.toNatClampNeg]? = some b) (res : Int32) (hF : fX8_about_F b.nc C.bc b.fl b.mo b.cs b.CX b.CY b.CZ b.ss b.LL b.GG p1 p2 = some res) : XK l yX8_about wsX8_about [.ref A.h, .int p1, .int p2] G A C (.int res) (fun C' => C' = C) := by
  obtain ⟨a, ha⟩ := x_ad hx hb
  refine ((KE.of (KX8_about_F l G A C a b (b.gr.map fun _ => a.o) p1 p2 (hx.rb _ a ha) res hF _) rfl rfl (by decide)).perm (x1 G A C _ a b ha hb)).post (fun v w q => ?_)
  obtain ⟨rfl, rfl⟩ := q
  exact ⟨_, (x1 G A C _ a b ha hb).symm, rfl, A, C, rfl, rfl, hx, rfl⟩
set_option maxRecDepth 20000 in
theorem XK_X8_cornerOf_N (l : Launch) (G : GT) {A : XAd} {C : XCt} (hx : xok A C) (p1 : Int32) (p2 : Int32) (p3 : Int32) (res : Int32) (hF : fX8_cornerOf_N C.bc p1 p2 p3 = some res) : XK l yX8_cornerOf wsX8_cornerOf [.ref A.h, .int p1, .int p2, .int p3] G A C (.int res) (fun C' => C' = C) := by
  refine (KE.of (KX8_cornerOf_N l G A C p1 p2 p3  res hF (shsW G A C ++ bsW G A.bo C.bo)) rfl rfl (by decide)).post (fun v w q => ?_)
  obtain ⟨rfl, rfl⟩ := q
  exact ⟨_, .refl _, rfl, A, C, rfl, rfl, ⟨hx.len, hx.le8, hx.cnt, hx.rs, hx.rb, hx.bk⟩, rfl⟩
set_option maxRecDepth 20000 in
theorem XK_X8_cornerOf_F (l : Launch) (G : GT) {A : XAd} {C : XCt} (hx : xok A C) (p1 : Int32) (p2 : Int32) (p3 : Int32) (b : BCt) (hb : C.bo[p1.toNatClampNeg]? = some b) (res : Int32) (hF : fX8_cornerOf_F b.nc C.bc b.cs b.CX b.CY b.CZ p1 p2 p3 = some res) : XK l yX8_cornerOf wsX8_cornerOf [.ref A.h, .int p1, .int p2, .int p3] G A C (.int res) (fun C' => C' = C) := by
  obtain ⟨a, ha⟩ := x_ad hx hb
  refine ((KE.of (KX8_cornerOf_F l G A C a b (b.gr.map fun _ => a.o) p1 p2 p3 (hx.rb _ a ha) res hF _) rfl rfl (by decide)).perm (x1 G A C _ a b ha hb)).post (fun v w q => ?_)
  obtain ⟨rfl, rfl⟩ := q
  exact ⟨_, (x1 G A C _ a b ha hb).symm, rfl, A, C, rfl, rfl, hx, rfl⟩
set_option maxRecDepth 20000 in
theorem XK_X8_side_N (l : Launch) (G : GT) {A : XAd} {C : XCt} (hx : xok A C) (p1 : Int32) (p2 : Int32) (p3 : Int32) (res : Int32) (hF : fX8_side_N C.bc p1 p2 p3 = some res) : XK l yX8_side wsX8_side [.ref A.h, .int p1, .int p2, .int p3] G A C (.int res) (fun C' => C' = C) := by
  refine (KE.of (KX8_side_N l G A C p1 p2 p3  res hF (shsW G A C ++ bsW G A.bo C.bo)) rfl rfl (by decide)).post (fun v w q => ?_)
  obtain ⟨rfl, rfl⟩ := q
  exact ⟨_, .refl _, rfl, A, C, rfl, rfl, ⟨hx.len, hx.le8, hx.cnt, hx.rs, hx.rb, hx.bk⟩, rfl⟩
set_option maxRecDepth 20000 in
theorem XK_X8_side_F (l : Launch) (G : GT) {A : XAd} {C : XCt} (hx : xok A C) (p1 : Int32) (p2 : Int32) (p3 : Int32) (b : BCt) (hb : C.bo[p1.toNatClampNeg]? = some b) (res : Int32) (hF : fX8_side_F b.ns b.nb C.bc b.fl b.ss b.SA b.SB b.SC b.SE b.bs b.BA b.BB b.BC b.BD p1 p2 p3 = some res) : XK l yX8_side wsX8_side [.ref A.h, .int p1, .int p2, .int p3] G A C (.int res) (fun C' => C' = C) := by
  obtain ⟨a, ha⟩ := x_ad hx hb
  refine ((KE.of (KX8_side_F l G A C a b (b.gr.map fun _ => a.o) p1 p2 p3 (hx.rb _ a ha) res hF _) rfl rfl (by decide)).perm (x1 G A C _ a b ha hb)).post (fun v w q => ?_)
  obtain ⟨rfl, rfl⟩ := q
  exact ⟨_, (x1 G A C _ a b ha hb).symm, rfl, A, C, rfl, rfl, hx, rfl⟩
set_option maxRecDepth 20000 in
theorem XK_X8_on_N (l : Launch) (G : GT) {A : XAd} {C : XCt} (hx : xok A C) (p1 : Int32) (p2 : Int32) (res : Int32) (hF : fX8_on_N C.bc p1 p2 = some res) : XK l yX8_on wsX8_on [.ref A.h, .int p1, .int p2] G A C (.int res) (fun C' => C' = C) := by
  refine (KE.of (KX8_on_N l G A C p1 p2  res hF (shsW G A C ++ bsW G A.bo C.bo)) rfl rfl (by decide)).post (fun v w q => ?_)
  obtain ⟨rfl, rfl⟩ := q
  exact ⟨_, .refl _, rfl, A, C, rfl, rfl, ⟨hx.len, hx.le8, hx.cnt, hx.rs, hx.rb, hx.bk⟩, rfl⟩
set_option maxRecDepth 20000 in
theorem XK_X8_on_F (l : Launch) (G : GT) {A : XAd} {C : XCt} (hx : xok A C) (p1 : Int32) (p2 : Int32) (b : BCt) (hb : C.bo[p1.toNatClampNeg]? = some b) (res : Int32) (hF : fX8_on_F b.nc b.ns C.bc b.cs b.CX b.CY b.CZ b.ss b.SA b.SB b.SC b.SE p1 p2 = some res) : XK l yX8_on wsX8_on [.ref A.h, .int p1, .int p2] G A C (.int res) (fun C' => C' = C) := by
  obtain ⟨a, ha⟩ := x_ad hx hb
  refine ((KE.of (KX8_on_F l G A C a b (b.gr.map fun _ => a.o) p1 p2 (hx.rb _ a ha) res hF _) rfl rfl (by decide)).perm (x1 G A C _ a b ha hb)).post (fun v w q => ?_)
  obtain ⟨rfl, rfl⟩ := q
  exact ⟨_, (x1 G A C _ a b ha hb).symm, rfl, A, C, rfl, rfl, hx, rfl⟩
set_option maxRecDepth 20000 in
theorem XK_X8_has_N (l : Launch) (G : GT) {A : XAd} {C : XCt} (hx : xok A C) (p1 : Int32) (p2 : Int32) (p3 : Int32) (p4 : Int32) (p5 : Int32) (res : Int32) (hF : fX8_has_N C.bc p1 p2 p3 p4 p5 = some res) : XK l yX8_has wsX8_has [.ref A.h, .int p1, .int p2, .int p3, .int p4, .int p5] G A C (.int res) (fun C' => C' = C) := by
  refine (KE.of (KX8_has_N l G A C p1 p2 p3 p4 p5  res hF (shsW G A C ++ bsW G A.bo C.bo)) rfl rfl (by decide)).post (fun v w q => ?_)
  obtain ⟨rfl, rfl⟩ := q
  exact ⟨_, .refl _, rfl, A, C, rfl, rfl, ⟨hx.len, hx.le8, hx.cnt, hx.rs, hx.rb, hx.bk⟩, rfl⟩
set_option maxRecDepth 20000 in
theorem XK_X8_has_F (l : Launch) (G : GT) {A : XAd} {C : XCt} (hx : xok A C) (p1 : Int32) (p2 : Int32) (p3 : Int32) (p4 : Int32) (p5 : Int32) (b : BCt) (hb : C.bo[p1.toNatClampNeg]? = some b) (res : Int32) (hF : fX8_has_F b.ns b.nb C.bc b.ss b.SA b.SB b.SC b.SE b.bs b.BA b.BB b.BC b.BD p1 p2 p3 p4 p5 = some res) : XK l yX8_has wsX8_has [.ref A.h, .int p1, .int p2, .int p3, .int p4, .int p5] G A C (.int res) (fun C' => C' = C) := by
  obtain ⟨a, ha⟩ := x_ad hx hb
  refine ((KE.of (KX8_has_F l G A C a b (b.gr.map fun _ => a.o) p1 p2 p3 p4 p5 (hx.rb _ a ha) res hF _) rfl rfl (by decide)).perm (x1 G A C _ a b ha hb)).post (fun v w q => ?_)
  obtain ⟨rfl, rfl⟩ := q
  exact ⟨_, (x1 G A C _ a b ha hb).symm, rfl, A, C, rfl, rfl, hx, rfl⟩
set_option maxRecDepth 20000 in
theorem XK_X8_most_N (l : Launch) (G : GT) {A : XAd} {C : XCt} (hx : xok A C) (p1 : Int32) (p2 : Int32) (p3 : Int32) (p4 : Int32) (p5 : Int32) (res : Int32) (hF : fX8_most_N C.bc p1 p2 p3 p4 p5 = some res) : XK l yX8_most wsX8_most [.ref A.h, .int p1, .int p2, .int p3, .int p4, .int p5] G A C (.int res) (fun C' => C' = C) := by
  refine (KE.of (KX8_most_N l G A C p1 p2 p3 p4 p5  res hF (shsW G A C ++ bsW G A.bo C.bo)) rfl rfl (by decide)).post (fun v w q => ?_)
  obtain ⟨rfl, rfl⟩ := q
  exact ⟨_, .refl _, rfl, A, C, rfl, rfl, ⟨hx.len, hx.le8, hx.cnt, hx.rs, hx.rb, hx.bk⟩, rfl⟩
set_option maxRecDepth 20000 in
theorem XK_X8_most_F (l : Launch) (G : GT) {A : XAd} {C : XCt} (hx : xok A C) (p1 : Int32) (p2 : Int32) (p3 : Int32) (p4 : Int32) (p5 : Int32) (b : BCt) (hb : C.bo[p1.toNatClampNeg]? = some b) (res : Int32) (hF : fX8_most_F b.nc C.bc b.cs b.CX b.CY b.CZ p1 p2 p3 p4 p5 = some res) : XK l yX8_most wsX8_most [.ref A.h, .int p1, .int p2, .int p3, .int p4, .int p5] G A C (.int res) (fun C' => C' = C) := by
  obtain ⟨a, ha⟩ := x_ad hx hb
  refine ((KE.of (KX8_most_F l G A C a b (b.gr.map fun _ => a.o) p1 p2 p3 p4 p5 (hx.rb _ a ha) res hF _) rfl rfl (by decide)).perm (x1 G A C _ a b ha hb)).post (fun v w q => ?_)
  obtain ⟨rfl, rfl⟩ := q
  exact ⟨_, (x1 G A C _ a b ha hb).symm, rfl, A, C, rfl, rfl, hx, rfl⟩
set_option maxRecDepth 20000 in
theorem XK_X8_within_NN (l : Launch) (G : GT) {A : XAd} {C : XCt} (hx : xok A C) (p1 : Int32) (p2 : Int32) (res : Int32) (hF : fX8_within_NN C.bc p1 p2 = some res) : XK l yX8_within wsX8_within [.ref A.h, .int p1, .int p2] G A C (.int res) (fun C' => C' = C) := by
  refine (KE.of (KX8_within_NN l G A C p1 p2  res hF (shsW G A C ++ bsW G A.bo C.bo)) rfl rfl (by decide)).post (fun v w q => ?_)
  obtain ⟨rfl, rfl⟩ := q
  exact ⟨_, .refl _, rfl, A, C, rfl, rfl, ⟨hx.len, hx.le8, hx.cnt, hx.rs, hx.rb, hx.bk⟩, rfl⟩
set_option maxRecDepth 20000 in
theorem XK_X8_within_NF (l : Launch) (G : GT) {A : XAd} {C : XCt} (hx : xok A C) (p1 : Int32) (p2 : Int32) (f0 f1 : Nat) (hq2 : A.RB p2.toNatClampNeg = some f1) (res : Int32) (hF : fX8_within_NF C.bc p1 p2 = some res) : XK l yX8_within wsX8_within [.ref A.h, .int p1, .int p2] G A C (.int res) (fun C' => C' = C) := by
  refine (KE.of (KX8_within_NF l G A C f0 f1 p1 p2 hq2 res hF (shsW G A C ++ bsW G A.bo C.bo)) rfl rfl (by decide)).post (fun v w q => ?_)
  obtain ⟨rfl, rfl⟩ := q
  exact ⟨_, .refl _, rfl, A, C, rfl, rfl, ⟨hx.len, hx.le8, hx.cnt, hx.rs, hx.rb, hx.bk⟩, rfl⟩
set_option maxRecDepth 20000 in
theorem XK_X8_within_FN (l : Launch) (G : GT) {A : XAd} {C : XCt} (hx : xok A C) (p1 : Int32) (p2 : Int32) (f0 f1 : Nat) (hq : A.RB p1.toNatClampNeg = some f0) (res : Int32) (hF : fX8_within_FN C.bc p1 p2 = some res) : XK l yX8_within wsX8_within [.ref A.h, .int p1, .int p2] G A C (.int res) (fun C' => C' = C) := by
  refine (KE.of (KX8_within_FN l G A C f0 f1 p1 p2 hq res hF (shsW G A C ++ bsW G A.bo C.bo)) rfl rfl (by decide)).post (fun v w q => ?_)
  obtain ⟨rfl, rfl⟩ := q
  exact ⟨_, .refl _, rfl, A, C, rfl, rfl, ⟨hx.len, hx.le8, hx.cnt, hx.rs, hx.rb, hx.bk⟩, rfl⟩
set_option maxRecDepth 20000 in
theorem XK_X8_within_FF (l : Launch) (G : GT) {A : XAd} {C : XCt} (hx : xok A C) (p1 : Int32) (p2 : Int32) (b : BCt) (hb : C.bo[p1.toNatClampNeg]? = some b) (b1 : BCt) (hb1 : C.bo[p2.toNatClampNeg]? = some b1) (hne : p1.toNatClampNeg ≠ p2.toNatClampNeg) (res : Int32) (hF : fX8_within_FF b.nc b1.ns b1.nb C.bc b.cs b.CX b.CY b.CZ b1.ss b1.SA b1.SB b1.SC b1.SE b1.bs b1.BA b1.BB b1.BC b1.BD p1 p2 = some res) : XK l yX8_within wsX8_within [.ref A.h, .int p1, .int p2] G A C (.int res) (fun C' => C' = C) := by
  obtain ⟨a, ha⟩ := x_ad hx hb
  obtain ⟨a1, ha1⟩ := x_ad hx hb1
  obtain ⟨Wz, px, pb⟩ := x_focus2 G A C _ _ a b a1 b1 hne ha hb ha1 hb1
  have P : (xW G A C).Perm (f1W G A C ++ (bcW G a b (b.gr.map fun _ => a.o) ++ (bcW G a1 b1 (b1.gr.map fun _ => a1.o) ++ (grO G a.o a.an b.gr ++ (swsW G a b.sw ++ (grO G a1.o a1.an b1.gr ++ (swsW G a1 b1.sw ++ (shsW G A C ++ Wz)))))))) := by
    refine px.trans (List.Perm.append_left _ ?_)
    have h := fl_perm [bcW G a b (b.gr.map fun _ => a.o), grO G a.o a.an b.gr, swsW G a b.sw, bcW G a1 b1 (b1.gr.map fun _ => a1.o), grO G a1.o a1.an b1.gr, swsW G a1 b1.sw] (is := [0, 1, 2, 3, 4, 5]) (js := [0, 3, 1, 2, 4, 5]) (shsW G A C ++ Wz) (by decide)
    refine List.Perm.trans (.of_eq ?_) (h.trans (.of_eq ?_))
    · simp only [bW, fl, List.append_assoc]; rfl
    · rfl
  refine ((KE.of (KX8_within_FF l G A C a b (b.gr.map fun _ => a.o) a1 b1 (b1.gr.map fun _ => a1.o) p1 p2 (hx.rb _ a ha) (hx.rb _ a1 ha1) res hF _) rfl rfl (by decide)).perm P).post (fun v w q => ?_)
  obtain ⟨rfl, rfl⟩ := q
  exact ⟨_, P.symm, rfl, A, C, rfl, rfl, hx, rfl⟩
set_option maxRecDepth 20000 in
theorem XK_X8_same_NN (l : Launch) (G : GT) {A : XAd} {C : XCt} (hx : xok A C) (p1 : Int32) (p2 : Int32) (res : Int32) (hF : fX8_same_NN C.bc p1 p2 = some res) : XK l yX8_same wsX8_same [.ref A.h, .int p1, .int p2] G A C (.int res) (fun C' => C' = C) := by
  refine (KE.of (KX8_same_NN l G A C p1 p2  res hF (shsW G A C ++ bsW G A.bo C.bo)) rfl rfl (by decide)).post (fun v w q => ?_)
  obtain ⟨rfl, rfl⟩ := q
  exact ⟨_, .refl _, rfl, A, C, rfl, rfl, ⟨hx.len, hx.le8, hx.cnt, hx.rs, hx.rb, hx.bk⟩, rfl⟩
set_option maxRecDepth 20000 in
theorem XK_X8_same_NF (l : Launch) (G : GT) {A : XAd} {C : XCt} (hx : xok A C) (p1 : Int32) (p2 : Int32) (f0 f1 : Nat) (hq2 : A.RB p2.toNatClampNeg = some f1) (res : Int32) (hF : fX8_same_NF C.bc p1 p2 = some res) : XK l yX8_same wsX8_same [.ref A.h, .int p1, .int p2] G A C (.int res) (fun C' => C' = C) := by
  refine (KE.of (KX8_same_NF l G A C f0 f1 p1 p2 hq2 res hF (shsW G A C ++ bsW G A.bo C.bo)) rfl rfl (by decide)).post (fun v w q => ?_)
  obtain ⟨rfl, rfl⟩ := q
  exact ⟨_, .refl _, rfl, A, C, rfl, rfl, ⟨hx.len, hx.le8, hx.cnt, hx.rs, hx.rb, hx.bk⟩, rfl⟩
set_option maxRecDepth 20000 in
theorem XK_X8_same_FN (l : Launch) (G : GT) {A : XAd} {C : XCt} (hx : xok A C) (p1 : Int32) (p2 : Int32) (f0 f1 : Nat) (hq : A.RB p1.toNatClampNeg = some f0) (res : Int32) (hF : fX8_same_FN C.bc p1 p2 = some res) : XK l yX8_same wsX8_same [.ref A.h, .int p1, .int p2] G A C (.int res) (fun C' => C' = C) := by
  refine (KE.of (KX8_same_FN l G A C f0 f1 p1 p2 hq res hF (shsW G A C ++ bsW G A.bo C.bo)) rfl rfl (by decide)).post (fun v w q => ?_)
  obtain ⟨rfl, rfl⟩ := q
  exact ⟨_, .refl _, rfl, A, C, rfl, rfl, ⟨hx.len, hx.le8, hx.cnt, hx.rs, hx.rb, hx.bk⟩, rfl⟩
set_option maxRecDepth 20000 in
theorem XK_X8_same_FF (l : Launch) (G : GT) {A : XAd} {C : XCt} (hx : xok A C) (p1 : Int32) (p2 : Int32) (b : BCt) (hb : C.bo[p1.toNatClampNeg]? = some b) (b1 : BCt) (hb1 : C.bo[p2.toNatClampNeg]? = some b1) (hne : p1.toNatClampNeg ≠ p2.toNatClampNeg) (res : Int32) (hF : fX8_same_FF b.nc b1.nc C.bc b.cs b.CX b.CY b.CZ b1.cs b1.CX b1.CY b1.CZ p1 p2 = some res) : XK l yX8_same wsX8_same [.ref A.h, .int p1, .int p2] G A C (.int res) (fun C' => C' = C) := by
  obtain ⟨a, ha⟩ := x_ad hx hb
  obtain ⟨a1, ha1⟩ := x_ad hx hb1
  obtain ⟨Wz, px, pb⟩ := x_focus2 G A C _ _ a b a1 b1 hne ha hb ha1 hb1
  have P : (xW G A C).Perm (f1W G A C ++ (bcW G a b (b.gr.map fun _ => a.o) ++ (bcW G a1 b1 (b1.gr.map fun _ => a1.o) ++ (grO G a.o a.an b.gr ++ (swsW G a b.sw ++ (grO G a1.o a1.an b1.gr ++ (swsW G a1 b1.sw ++ (shsW G A C ++ Wz)))))))) := by
    refine px.trans (List.Perm.append_left _ ?_)
    have h := fl_perm [bcW G a b (b.gr.map fun _ => a.o), grO G a.o a.an b.gr, swsW G a b.sw, bcW G a1 b1 (b1.gr.map fun _ => a1.o), grO G a1.o a1.an b1.gr, swsW G a1 b1.sw] (is := [0, 1, 2, 3, 4, 5]) (js := [0, 3, 1, 2, 4, 5]) (shsW G A C ++ Wz) (by decide)
    refine List.Perm.trans (.of_eq ?_) (h.trans (.of_eq ?_))
    · simp only [bW, fl, List.append_assoc]; rfl
    · rfl
  refine ((KE.of (KX8_same_FF l G A C a b (b.gr.map fun _ => a.o) a1 b1 (b1.gr.map fun _ => a1.o) p1 p2 (hx.rb _ a ha) (hx.rb _ a1 ha1) res hF _) rfl rfl (by decide)).perm P).post (fun v w q => ?_)
  obtain ⟨rfl, rfl⟩ := q
  exact ⟨_, P.symm, rfl, A, C, rfl, rfl, hx, rfl⟩
set_option maxRecDepth 20000 in
theorem XK_X8_body_no (l : Launch) (G : GT) {A : XAd} {C : XCt} (hx : xok A C) (res : Int32 × Unit) (hF : fX8_body_no C.bc C.ds = some res) : XK l yX8_body wsX8_body [.ref A.h] G A C (.int res.1) (fun C' => C' = C) := by
  refine (KE.of (KX8_body_no l G A C   res hF (shsW G A C ++ bsW G A.bo C.bo)) rfl rfl (by decide)).post (fun v w q => ?_)
  obtain ⟨rfl, nu, rfl⟩ := q
  exact ⟨_, .refl _, rfl, A, C, rfl, rfl, ⟨hx.len, hx.le8, hx.cnt, hx.rs, hx.rb, hx.bk⟩, rfl⟩
set_option maxRecDepth 20000 in
theorem XK_X8_drop_no (l : Launch) (G : GT) {A : XAd} {C : XCt} (hx : xok A C) (res : Int32 × Int32) (hF : fX8_drop_no C.bc = some res) (hbc : res.2 = C.bc) : XK l yX8_drop wsX8_drop [.ref A.h] G A C (.int res.1) (fun C' => C' = C) := by
  refine (KE.of (KX8_drop_no l G A C   res hF (shsW G A C ++ bsW G A.bo C.bo)) rfl rfl (by decide)).post (fun v w q => ?_)
  obtain ⟨rfl, nu, rfl⟩ := q
  rw [hbc]
  exact ⟨_, .refl _, rfl, A, C, rfl, rfl, ⟨hx.len, hx.le8, hx.cnt, hx.rs, hx.rb, hx.bk⟩, rfl⟩
set_option maxRecDepth 20000 in
theorem XK_X8_move_N (l : Launch) (G : GT) {A : XAd} {C : XCt} (hx : xok A C) (p1 : Int32) (p2 : Int32) (p3 : Int32) (p4 : Int32) (res : Int32 × Unit) (hF : fX8_move_N C.bc p1 p2 p3 p4 = some res) : XK l yX8_move wsX8_move [.ref A.h, .int p1, .int p2, .int p3, .int p4] G A C (.int res.1) (fun C' => C' = C) := by
  refine (KE.of (KX8_move_N l G A C p1 p2 p3 p4  res hF (shsW G A C ++ bsW G A.bo C.bo)) rfl rfl (by decide)).post (fun v w q => ?_)
  obtain ⟨rfl, nu, rfl⟩ := q
  exact ⟨_, .refl _, rfl, A, C, rfl, rfl, ⟨hx.len, hx.le8, hx.cnt, hx.rs, hx.rb, hx.bk⟩, rfl⟩
set_option maxRecDepth 20000 in
theorem XK_X8_move_no (l : Launch) (G : GT) {A : XAd} {C : XCt} (hx : xok A C) (p1 : Int32) (p2 : Int32) (p3 : Int32) (p4 : Int32) (b : BCt) (hb : C.bo[p1.toNatClampNeg]? = some b) (res : Int32 × Int32 × Int32 × (Nat → Int32) × (Nat → Int32) × (Nat → Int32) × Int32 × (Nat → Int32) × (Nat → Int32) × (Nat → Int32) × (Nat → Int32) × Int32 × (Nat → Int32) × (Nat → Int32) × (Nat → Int32) × (Nat → Int32) × Int32 × Int32 × Int32 × Int32 × Int32 × Int32 × Int32 × Int32 × Int32 × Int32 × Int32 × Int32) (hF : fX8_move_no b.nc C.bc C.fi C.ps C.X C.Y C.Z C.ss C.SA C.SB C.SC C.SE C.bs C.BA C.BB C.BC C.BD C.l1 C.l2 C.l3 C.c1 C.c2 C.c3 C.r1 C.r2 C.r3 C.f1 C.f2 C.f3 b.cs b.CX b.CY b.CZ p1 p2 p3 p4 = some res) : XK l yX8_move wsX8_move [.ref A.h, .int p1, .int p2, .int p3, .int p4] G A C (.int res.1) (fun C' => C' = (XCt.mk' C.bc C.ds res.2.1 res.2.2.1 res.2.2.2.2.2.2.1 res.2.2.2.2.2.2.2.2.2.2.2.1 res.2.2.2.2.2.2.2.2.2.2.2.2.2.2.2.2.1 res.2.2.2.2.2.2.2.2.2.2.2.2.2.2.2.2.2.1 res.2.2.2.2.2.2.2.2.2.2.2.2.2.2.2.2.2.2.1 res.2.2.2.2.2.2.2.2.2.2.2.2.2.2.2.2.2.2.2.1 res.2.2.2.2.2.2.2.2.2.2.2.2.2.2.2.2.2.2.2.2.1 res.2.2.2.2.2.2.2.2.2.2.2.2.2.2.2.2.2.2.2.2.2.1 res.2.2.2.2.2.2.2.2.2.2.2.2.2.2.2.2.2.2.2.2.2.2.1 res.2.2.2.2.2.2.2.2.2.2.2.2.2.2.2.2.2.2.2.2.2.2.2.1 res.2.2.2.2.2.2.2.2.2.2.2.2.2.2.2.2.2.2.2.2.2.2.2.2.1 res.2.2.2.2.2.2.2.2.2.2.2.2.2.2.2.2.2.2.2.2.2.2.2.2.2.1 res.2.2.2.2.2.2.2.2.2.2.2.2.2.2.2.2.2.2.2.2.2.2.2.2.2.2.1 res.2.2.2.2.2.2.2.2.2.2.2.2.2.2.2.2.2.2.2.2.2.2.2.2.2.2.2 C.DX C.DY C.DZ res.2.2.2.1 res.2.2.2.2.1 res.2.2.2.2.2.1 res.2.2.2.2.2.2.2.1 res.2.2.2.2.2.2.2.2.1 res.2.2.2.2.2.2.2.2.2.1 res.2.2.2.2.2.2.2.2.2.2.1 res.2.2.2.2.2.2.2.2.2.2.2.2.1 res.2.2.2.2.2.2.2.2.2.2.2.2.2.1 res.2.2.2.2.2.2.2.2.2.2.2.2.2.2.1 res.2.2.2.2.2.2.2.2.2.2.2.2.2.2.2.1 C.la C.si C.CE C.bo)) := by
  obtain ⟨a, ha⟩ := x_ad hx hb
  refine ((KE.of (KX8_move_no l G A C a b (b.gr.map fun _ => a.o) p1 p2 p3 p4 (hx.rb _ a ha) res hF _) rfl rfl (by decide)).perm (x1 G A C _ a b ha hb)).post (fun v w q => ?_)
  obtain ⟨rfl, nu, rfl⟩ := q
  exact ⟨_, (x1 G A (XCt.mk' C.bc C.ds res.2.1 res.2.2.1 res.2.2.2.2.2.2.1 res.2.2.2.2.2.2.2.2.2.2.2.1 res.2.2.2.2.2.2.2.2.2.2.2.2.2.2.2.2.1 res.2.2.2.2.2.2.2.2.2.2.2.2.2.2.2.2.2.1 res.2.2.2.2.2.2.2.2.2.2.2.2.2.2.2.2.2.2.1 res.2.2.2.2.2.2.2.2.2.2.2.2.2.2.2.2.2.2.2.1 res.2.2.2.2.2.2.2.2.2.2.2.2.2.2.2.2.2.2.2.2.1 res.2.2.2.2.2.2.2.2.2.2.2.2.2.2.2.2.2.2.2.2.2.1 res.2.2.2.2.2.2.2.2.2.2.2.2.2.2.2.2.2.2.2.2.2.2.1 res.2.2.2.2.2.2.2.2.2.2.2.2.2.2.2.2.2.2.2.2.2.2.2.1 res.2.2.2.2.2.2.2.2.2.2.2.2.2.2.2.2.2.2.2.2.2.2.2.2.1 res.2.2.2.2.2.2.2.2.2.2.2.2.2.2.2.2.2.2.2.2.2.2.2.2.2.1 res.2.2.2.2.2.2.2.2.2.2.2.2.2.2.2.2.2.2.2.2.2.2.2.2.2.2.1 res.2.2.2.2.2.2.2.2.2.2.2.2.2.2.2.2.2.2.2.2.2.2.2.2.2.2.2 C.DX C.DY C.DZ res.2.2.2.1 res.2.2.2.2.1 res.2.2.2.2.2.1 res.2.2.2.2.2.2.2.1 res.2.2.2.2.2.2.2.2.1 res.2.2.2.2.2.2.2.2.2.1 res.2.2.2.2.2.2.2.2.2.2.1 res.2.2.2.2.2.2.2.2.2.2.2.2.1 res.2.2.2.2.2.2.2.2.2.2.2.2.2.1 res.2.2.2.2.2.2.2.2.2.2.2.2.2.2.1 res.2.2.2.2.2.2.2.2.2.2.2.2.2.2.2.1 C.la C.si C.CE C.bo) _ a b ha hb).symm, rfl, A, _, rfl, rfl, ⟨hx.len, hx.le8, hx.cnt, hx.rs, hx.rb, hx.bk⟩, rfl⟩
set_option maxRecDepth 20000 in
theorem XK_X8_turn_N (l : Launch) (G : GT) {A : XAd} {C : XCt} (hx : xok A C) (p1 : Int32) (p2 : Int32) (res : Int32 × Unit) (hF : fX8_turn_N C.bc p1 p2 = some res) : XK l yX8_turn wsX8_turn [.ref A.h, .int p1, .int p2] G A C (.int res.1) (fun C' => C' = C) := by
  refine (KE.of (KX8_turn_N l G A C p1 p2  res hF (shsW G A C ++ bsW G A.bo C.bo)) rfl rfl (by decide)).post (fun v w q => ?_)
  obtain ⟨rfl, nu, rfl⟩ := q
  exact ⟨_, .refl _, rfl, A, C, rfl, rfl, ⟨hx.len, hx.le8, hx.cnt, hx.rs, hx.rb, hx.bk⟩, rfl⟩
set_option maxRecDepth 20000 in
theorem XK_X8_turn_no (l : Launch) (G : GT) {A : XAd} {C : XCt} (hx : xok A C) (p1 : Int32) (p2 : Int32) (b : BCt) (hb : C.bo[p1.toNatClampNeg]? = some b) (res : Int32 × Int32 × Int32 × (Nat → Int32) × (Nat → Int32) × (Nat → Int32) × Int32 × (Nat → Int32) × (Nat → Int32) × (Nat → Int32) × (Nat → Int32) × Int32 × (Nat → Int32) × (Nat → Int32) × (Nat → Int32) × (Nat → Int32) × Int32 × Int32 × Int32 × Int32 × Int32 × Int32 × Int32 × Int32 × Int32 × Int32 × Int32 × Int32) (hF : fX8_turn_no b.nc C.bc C.fi C.ps C.X C.Y C.Z C.ss C.SA C.SB C.SC C.SE C.bs C.BA C.BB C.BC C.BD C.l1 C.l2 C.l3 C.c1 C.c2 C.c3 C.r1 C.r2 C.r3 C.f1 C.f2 C.f3 b.cs b.CX b.CY b.CZ p1 p2 = some res) : XK l yX8_turn wsX8_turn [.ref A.h, .int p1, .int p2] G A C (.int res.1) (fun C' => C' = (XCt.mk' C.bc C.ds res.2.1 res.2.2.1 res.2.2.2.2.2.2.1 res.2.2.2.2.2.2.2.2.2.2.2.1 res.2.2.2.2.2.2.2.2.2.2.2.2.2.2.2.2.1 res.2.2.2.2.2.2.2.2.2.2.2.2.2.2.2.2.2.1 res.2.2.2.2.2.2.2.2.2.2.2.2.2.2.2.2.2.2.1 res.2.2.2.2.2.2.2.2.2.2.2.2.2.2.2.2.2.2.2.1 res.2.2.2.2.2.2.2.2.2.2.2.2.2.2.2.2.2.2.2.2.1 res.2.2.2.2.2.2.2.2.2.2.2.2.2.2.2.2.2.2.2.2.2.1 res.2.2.2.2.2.2.2.2.2.2.2.2.2.2.2.2.2.2.2.2.2.2.1 res.2.2.2.2.2.2.2.2.2.2.2.2.2.2.2.2.2.2.2.2.2.2.2.1 res.2.2.2.2.2.2.2.2.2.2.2.2.2.2.2.2.2.2.2.2.2.2.2.2.1 res.2.2.2.2.2.2.2.2.2.2.2.2.2.2.2.2.2.2.2.2.2.2.2.2.2.1 res.2.2.2.2.2.2.2.2.2.2.2.2.2.2.2.2.2.2.2.2.2.2.2.2.2.2.1 res.2.2.2.2.2.2.2.2.2.2.2.2.2.2.2.2.2.2.2.2.2.2.2.2.2.2.2 C.DX C.DY C.DZ res.2.2.2.1 res.2.2.2.2.1 res.2.2.2.2.2.1 res.2.2.2.2.2.2.2.1 res.2.2.2.2.2.2.2.2.1 res.2.2.2.2.2.2.2.2.2.1 res.2.2.2.2.2.2.2.2.2.2.1 res.2.2.2.2.2.2.2.2.2.2.2.2.1 res.2.2.2.2.2.2.2.2.2.2.2.2.2.1 res.2.2.2.2.2.2.2.2.2.2.2.2.2.2.1 res.2.2.2.2.2.2.2.2.2.2.2.2.2.2.2.1 C.la C.si C.CE C.bo)) := by
  obtain ⟨a, ha⟩ := x_ad hx hb
  refine ((KE.of (KX8_turn_no l G A C a b (b.gr.map fun _ => a.o) p1 p2 (hx.rb _ a ha) res hF _) rfl rfl (by decide)).perm (x1 G A C _ a b ha hb)).post (fun v w q => ?_)
  obtain ⟨rfl, nu, rfl⟩ := q
  exact ⟨_, (x1 G A (XCt.mk' C.bc C.ds res.2.1 res.2.2.1 res.2.2.2.2.2.2.1 res.2.2.2.2.2.2.2.2.2.2.2.1 res.2.2.2.2.2.2.2.2.2.2.2.2.2.2.2.2.1 res.2.2.2.2.2.2.2.2.2.2.2.2.2.2.2.2.2.1 res.2.2.2.2.2.2.2.2.2.2.2.2.2.2.2.2.2.2.1 res.2.2.2.2.2.2.2.2.2.2.2.2.2.2.2.2.2.2.2.1 res.2.2.2.2.2.2.2.2.2.2.2.2.2.2.2.2.2.2.2.2.1 res.2.2.2.2.2.2.2.2.2.2.2.2.2.2.2.2.2.2.2.2.2.1 res.2.2.2.2.2.2.2.2.2.2.2.2.2.2.2.2.2.2.2.2.2.2.1 res.2.2.2.2.2.2.2.2.2.2.2.2.2.2.2.2.2.2.2.2.2.2.2.1 res.2.2.2.2.2.2.2.2.2.2.2.2.2.2.2.2.2.2.2.2.2.2.2.2.1 res.2.2.2.2.2.2.2.2.2.2.2.2.2.2.2.2.2.2.2.2.2.2.2.2.2.1 res.2.2.2.2.2.2.2.2.2.2.2.2.2.2.2.2.2.2.2.2.2.2.2.2.2.2.1 res.2.2.2.2.2.2.2.2.2.2.2.2.2.2.2.2.2.2.2.2.2.2.2.2.2.2.2 C.DX C.DY C.DZ res.2.2.2.1 res.2.2.2.2.1 res.2.2.2.2.2.1 res.2.2.2.2.2.2.2.1 res.2.2.2.2.2.2.2.2.1 res.2.2.2.2.2.2.2.2.2.1 res.2.2.2.2.2.2.2.2.2.2.1 res.2.2.2.2.2.2.2.2.2.2.2.2.1 res.2.2.2.2.2.2.2.2.2.2.2.2.2.1 res.2.2.2.2.2.2.2.2.2.2.2.2.2.2.1 res.2.2.2.2.2.2.2.2.2.2.2.2.2.2.2.1 C.la C.si C.CE C.bo) _ a b ha hb).symm, rfl, A, _, rfl, rfl, ⟨hx.len, hx.le8, hx.cnt, hx.rs, hx.rb, hx.bk⟩, rfl⟩
set_option maxRecDepth 20000 in
theorem XK_X8_count_N (l : Launch) (G : GT) {A : XAd} {C : XCt} (hx : xok A C) (p1 : Int32) (p2 : Int32) (res : Int32) (hF : fX8_count_N C.bc p1 p2 = some res) : XK l yX8_count wsX8_count [.ref A.h, .int p1, .int p2] G A C (.int res) (fun C' => C' = C) := by
  refine (KE.of (KX8_count_N l G A C p1 p2  res hF (shsW G A C ++ bsW G A.bo C.bo)) rfl rfl (by decide)).post (fun v w q => ?_)
  obtain ⟨rfl, rfl⟩ := q
  exact ⟨_, .refl _, rfl, A, C, rfl, rfl, ⟨hx.len, hx.le8, hx.cnt, hx.rs, hx.rb, hx.bk⟩, rfl⟩
set_option maxRecDepth 20000 in
theorem XK_X8_count_c (l : Launch) (G : GT) {A : XAd} {C : XCt} (hx : xok A C) (p1 : Int32) (p2 : Int32) (b : BCt) (hb : C.bo[p1.toNatClampNeg]? = some b) (dg : Int32) (NU : Nat → Int32) (hg : b.gr = some (dg, NU)) (res : Int32) (hF : fX8_count_c C.bc NU p1 p2 = some res) : XK l yX8_count wsX8_count [.ref A.h, .int p1, .int p2] G A C (.int res) (fun C' => C' = C) := by
  obtain ⟨a, ha⟩ := x_ad hx hb
  refine ((KE.of (KX8_count_c l G A C a b a.o a.an dg NU p1 p2 (hx.rb _ a ha) res hF _) rfl rfl (by decide)).perm (x1g G A C _ a b ha hb dg NU hg)).post (fun v w q => ?_)
  obtain ⟨rfl, rfl⟩ := q
  exact ⟨_, (x1g G A C _ a b ha hb dg NU hg).symm, rfl, A, C, rfl, rfl, hx, rfl⟩
set_option maxRecDepth 20000 in
theorem XK_X8_inner_N (l : Launch) (G : GT) {A : XAd} {C : XCt} (hx : xok A C) (p1 : Int32) (p2 : Int32) (res : Int32) (hF : fX8_inner_N C.bc p1 p2 = some res) : XK l yX8_inner wsX8_inner [.ref A.h, .int p1, .int p2] G A C (.int res) (fun C' => C' = C) := by
  refine (KE.of (KX8_inner_N l G A C p1 p2  res hF (shsW G A C ++ bsW G A.bo C.bo)) rfl rfl (by decide)).post (fun v w q => ?_)
  obtain ⟨rfl, rfl⟩ := q
  exact ⟨_, .refl _, rfl, A, C, rfl, rfl, ⟨hx.len, hx.le8, hx.cnt, hx.rs, hx.rb, hx.bk⟩, rfl⟩
set_option maxRecDepth 20000 in
theorem XK_X8_inner_c (l : Launch) (G : GT) {A : XAd} {C : XCt} (hx : xok A C) (p1 : Int32) (p2 : Int32) (b : BCt) (hb : C.bo[p1.toNatClampNeg]? = some b) (dg : Int32) (NU : Nat → Int32) (hg : b.gr = some (dg, NU)) (res : Int32) (hF : fX8_inner_c C.bc b.fl NU p1 p2 = some res) : XK l yX8_inner wsX8_inner [.ref A.h, .int p1, .int p2] G A C (.int res) (fun C' => C' = C) := by
  obtain ⟨a, ha⟩ := x_ad hx hb
  refine ((KE.of (KX8_inner_c l G A C a b a.o a.an dg NU p1 p2 (hx.rb _ a ha) res hF _) rfl rfl (by decide)).perm (x1g G A C _ a b ha hb dg NU hg)).post (fun v w q => ?_)
  obtain ⟨rfl, rfl⟩ := q
  exact ⟨_, (x1g G A C _ a b ha hb dg NU hg).symm, rfl, A, C, rfl, rfl, hx, rfl⟩
set_option maxRecDepth 20000 in
theorem XK_X8_number_N (l : Launch) (G : GT) {A : XAd} {C : XCt} (hx : xok A C) (p1 : Int32) (p2 : Int32) (res : Int32) (hF : fX8_number_N C.bc p1 p2 = some res) : XK l yX8_number wsX8_number [.ref A.h, .int p1, .int p2] G A C (.int res) (fun C' => C' = C) := by
  refine (KE.of (KX8_number_N l G A C p1 p2  res hF (shsW G A C ++ bsW G A.bo C.bo)) rfl rfl (by decide)).post (fun v w q => ?_)
  obtain ⟨rfl, rfl⟩ := q
  exact ⟨_, .refl _, rfl, A, C, rfl, rfl, ⟨hx.len, hx.le8, hx.cnt, hx.rs, hx.rb, hx.bk⟩, rfl⟩
set_option maxRecDepth 20000 in
theorem XK_X8_number_c (l : Launch) (G : GT) {A : XAd} {C : XCt} (hx : xok A C) (p1 : Int32) (p2 : Int32) (b : BCt) (hb : C.bo[p1.toNatClampNeg]? = some b) (dg : Int32) (NU : Nat → Int32) (hg : b.gr = some (dg, NU)) (res : Int32) (hF : fX8_number_c C.bc NU p1 p2 = some res) : XK l yX8_number wsX8_number [.ref A.h, .int p1, .int p2] G A C (.int res) (fun C' => C' = C) := by
  obtain ⟨a, ha⟩ := x_ad hx hb
  refine ((KE.of (KX8_number_c l G A C a b a.o a.an dg NU p1 p2 (hx.rb _ a ha) res hF _) rfl rfl (by decide)).perm (x1g G A C _ a b ha hb dg NU hg)).post (fun v w q => ?_)
  obtain ⟨rfl, rfl⟩ := q
  exact ⟨_, (x1g G A C _ a b ha hb dg NU hg).symm, rfl, A, C, rfl, rfl, hx, rfl⟩
set_option maxRecDepth 20000 in
theorem XK_X8_rule_N (l : Launch) (G : GT) {A : XAd} {C : XCt} (hx : xok A C) (p1 : Int32) (p2 : Int32) (res : Int64) (hF : fX8_rule_N C.bc p1 p2 = some res) : XK l yX8_rule wsX8_rule [.ref A.h, .int p1, .int p2] G A C (.long res) (fun C' => C' = C) := by
  refine (KE.of (KX8_rule_N l G A C p1 p2  res hF (shsW G A C ++ bsW G A.bo C.bo)) rfl rfl (by decide)).post (fun v w q => ?_)
  obtain ⟨rfl, rfl⟩ := q
  exact ⟨_, .refl _, rfl, A, C, rfl, rfl, ⟨hx.len, hx.le8, hx.cnt, hx.rs, hx.rb, hx.bk⟩, rfl⟩
set_option maxRecDepth 20000 in
theorem XK_X8_rule_c (l : Launch) (G : GT) {A : XAd} {C : XCt} (hx : xok A C) (p1 : Int32) (p2 : Int32) (b : BCt) (hb : C.bo[p1.toNatClampNeg]? = some b) (dg : Int32) (NU : Nat → Int32) (hg : b.gr = some (dg, NU)) (res : Int64) (hF : fX8_rule_c C.bc NU p1 p2 = some res) : XK l yX8_rule wsX8_rule [.ref A.h, .int p1, .int p2] G A C (.long res) (fun C' => C' = C) := by
  obtain ⟨a, ha⟩ := x_ad hx hb
  refine ((KE.of (KX8_rule_c l G A C a b a.o a.an dg NU p1 p2 (hx.rb _ a ha) res hF _) rfl rfl (by decide)).perm (x1g G A C _ a b ha hb dg NU hg)).post (fun v w q => ?_)
  obtain ⟨rfl, rfl⟩ := q
  exact ⟨_, (x1g G A C _ a b ha hb dg NU hg).symm, rfl, A, C, rfl, rfl, hx, rfl⟩
set_option maxRecDepth 20000 in
theorem XK_X8_stairs_N (l : Launch) (G : GT) {A : XAd} {C : XCt} (hx : xok A C) (p1 : Int32) (p2 : Int32) (res : Int32) (hF : fX8_stairs_N C.bc p1 p2 = some res) : XK l yX8_stairs wsX8_stairs [.ref A.h, .int p1, .int p2] G A C (.int res) (fun C' => C' = C) := by
  refine (KE.of (KX8_stairs_N l G A C p1 p2  res hF (shsW G A C ++ bsW G A.bo C.bo)) rfl rfl (by decide)).post (fun v w q => ?_)
  obtain ⟨rfl, rfl⟩ := q
  exact ⟨_, .refl _, rfl, A, C, rfl, rfl, ⟨hx.len, hx.le8, hx.cnt, hx.rs, hx.rb, hx.bk⟩, rfl⟩
set_option maxRecDepth 20000 in
theorem XK_X8_stairs_c (l : Launch) (G : GT) {A : XAd} {C : XCt} (hx : xok A C) (p1 : Int32) (p2 : Int32) (b : BCt) (hb : C.bo[p1.toNatClampNeg]? = some b) (dg : Int32) (NU : Nat → Int32) (hg : b.gr = some (dg, NU)) (res : Int32) (hF : fX8_stairs_c C.bc b.fl dg NU p1 p2 = some res) : XK l yX8_stairs wsX8_stairs [.ref A.h, .int p1, .int p2] G A C (.int res) (fun C' => C' = C) := by
  obtain ⟨a, ha⟩ := x_ad hx hb
  refine ((KE.of (KX8_stairs_c l G A C a b a.o a.an dg NU p1 p2 (hx.rb _ a ha) res hF _) rfl rfl (by decide)).perm (x1g G A C _ a b ha hb dg NU hg)).post (fun v w q => ?_)
  obtain ⟨rfl, rfl⟩ := q
  exact ⟨_, (x1g G A C _ a b ha hb dg NU hg).symm, rfl, A, C, rfl, rfl, hx, rfl⟩
set_option maxRecDepth 20000 in
theorem XK_X8_join_NN (l : Launch) (G : GT) {A : XAd} {C : XCt} (hx : xok A C) (p1 : Int32) (p2 : Int32) (res : Int32 × Unit) (hF : fX8_join_NN C.bc p1 p2 = some res) : XK l yX8_join wsX8_join [.ref A.h, .int p1, .int p2] G A C (.int res.1) (fun C' => C' = C) := by
  refine (KE.of (KX8_join_NN l G A C p1 p2  res hF (shsW G A C ++ bsW G A.bo C.bo)) rfl rfl (by decide)).post (fun v w q => ?_)
  obtain ⟨rfl, nu, rfl⟩ := q
  exact ⟨_, .refl _, rfl, A, C, rfl, rfl, ⟨hx.len, hx.le8, hx.cnt, hx.rs, hx.rb, hx.bk⟩, rfl⟩
set_option maxRecDepth 20000 in
theorem XK_X8_join_NF (l : Launch) (G : GT) {A : XAd} {C : XCt} (hx : xok A C) (p1 : Int32) (p2 : Int32) (f0 f1 : Nat) (hq2 : A.RB p2.toNatClampNeg = some f1) (res : Int32 × Unit) (hF : fX8_join_NF C.bc p1 p2 = some res) : XK l yX8_join wsX8_join [.ref A.h, .int p1, .int p2] G A C (.int res.1) (fun C' => C' = C) := by
  refine (KE.of (KX8_join_NF l G A C f0 f1 p1 p2 hq2 res hF (shsW G A C ++ bsW G A.bo C.bo)) rfl rfl (by decide)).post (fun v w q => ?_)
  obtain ⟨rfl, nu, rfl⟩ := q
  exact ⟨_, .refl _, rfl, A, C, rfl, rfl, ⟨hx.len, hx.le8, hx.cnt, hx.rs, hx.rb, hx.bk⟩, rfl⟩
set_option maxRecDepth 20000 in
theorem XK_X8_join_FN (l : Launch) (G : GT) {A : XAd} {C : XCt} (hx : xok A C) (p1 : Int32) (p2 : Int32) (f0 f1 : Nat) (hq : A.RB p1.toNatClampNeg = some f0) (res : Int32 × Unit) (hF : fX8_join_FN C.bc p1 p2 = some res) : XK l yX8_join wsX8_join [.ref A.h, .int p1, .int p2] G A C (.int res.1) (fun C' => C' = C) := by
  refine (KE.of (KX8_join_FN l G A C f0 f1 p1 p2 hq res hF (shsW G A C ++ bsW G A.bo C.bo)) rfl rfl (by decide)).post (fun v w q => ?_)
  obtain ⟨rfl, nu, rfl⟩ := q
  exact ⟨_, .refl _, rfl, A, C, rfl, rfl, ⟨hx.len, hx.le8, hx.cnt, hx.rs, hx.rb, hx.bk⟩, rfl⟩
set_option maxRecDepth 20000 in
theorem XK_X8_join_dno (l : Launch) (G : GT) {A : XAd} {C : XCt} (hx : xok A C) (p1 : Int32) (p2 : Int32) (b : BCt) (hb : C.bo[p1.toNatClampNeg]? = some b) (b1 : BCt) (hb1 : C.bo[p2.toNatClampNeg]? = some b1) (hne : p1.toNatClampNeg ≠ p2.toNatClampNeg) (res : Int32 × Int32 × Int32 × (Nat → Int32) × (Nat → Int32) × (Nat → Int32) × Int32 × (Nat → Int32) × (Nat → Int32) × (Nat → Int32) × (Nat → Int32) × Int32 × (Nat → Int32) × (Nat → Int32) × (Nat → Int32) × (Nat → Int32) × Int32 × Int32 × Int32 × Int32 × Int32 × Int32 × Int32 × Int32 × Int32 × Int32 × Int32 × Int32) (hF : fX8_join_dno b.nc b1.nc C.bc C.fi C.ps C.X C.Y C.Z C.ss C.SA C.SB C.SC C.SE C.bs C.BA C.BB C.BC C.BD C.l1 C.l2 C.l3 C.c1 C.c2 C.c3 C.r1 C.r2 C.r3 C.f1 C.f2 C.f3 b.cs b.CX b.CY b.CZ b1.cs b1.CX b1.CY b1.CZ p1 p2 = some res) : XK l yX8_join wsX8_join [.ref A.h, .int p1, .int p2] G A C (.int res.1) (fun C' => C' = (XCt.mk' C.bc C.ds res.2.1 res.2.2.1 res.2.2.2.2.2.2.1 res.2.2.2.2.2.2.2.2.2.2.2.1 res.2.2.2.2.2.2.2.2.2.2.2.2.2.2.2.2.1 res.2.2.2.2.2.2.2.2.2.2.2.2.2.2.2.2.2.1 res.2.2.2.2.2.2.2.2.2.2.2.2.2.2.2.2.2.2.1 res.2.2.2.2.2.2.2.2.2.2.2.2.2.2.2.2.2.2.2.1 res.2.2.2.2.2.2.2.2.2.2.2.2.2.2.2.2.2.2.2.2.1 res.2.2.2.2.2.2.2.2.2.2.2.2.2.2.2.2.2.2.2.2.2.1 res.2.2.2.2.2.2.2.2.2.2.2.2.2.2.2.2.2.2.2.2.2.2.1 res.2.2.2.2.2.2.2.2.2.2.2.2.2.2.2.2.2.2.2.2.2.2.2.1 res.2.2.2.2.2.2.2.2.2.2.2.2.2.2.2.2.2.2.2.2.2.2.2.2.1 res.2.2.2.2.2.2.2.2.2.2.2.2.2.2.2.2.2.2.2.2.2.2.2.2.2.1 res.2.2.2.2.2.2.2.2.2.2.2.2.2.2.2.2.2.2.2.2.2.2.2.2.2.2.1 res.2.2.2.2.2.2.2.2.2.2.2.2.2.2.2.2.2.2.2.2.2.2.2.2.2.2.2 C.DX C.DY C.DZ res.2.2.2.1 res.2.2.2.2.1 res.2.2.2.2.2.1 res.2.2.2.2.2.2.2.1 res.2.2.2.2.2.2.2.2.1 res.2.2.2.2.2.2.2.2.2.1 res.2.2.2.2.2.2.2.2.2.2.1 res.2.2.2.2.2.2.2.2.2.2.2.2.1 res.2.2.2.2.2.2.2.2.2.2.2.2.2.1 res.2.2.2.2.2.2.2.2.2.2.2.2.2.2.1 res.2.2.2.2.2.2.2.2.2.2.2.2.2.2.2.1 C.la C.si C.CE C.bo)) := by
  obtain ⟨a, ha⟩ := x_ad hx hb
  obtain ⟨a1, ha1⟩ := x_ad hx hb1
  obtain ⟨Wz, px, pb⟩ := x_focus2 G A C _ _ a b a1 b1 hne ha hb ha1 hb1
  have P : (xW G A C).Perm (f1W G A C ++ (bcW G a b (b.gr.map fun _ => a.o) ++ (bcW G a1 b1 (b1.gr.map fun _ => a1.o) ++ (grO G a.o a.an b.gr ++ (swsW G a b.sw ++ (grO G a1.o a1.an b1.gr ++ (swsW G a1 b1.sw ++ (shsW G A C ++ Wz)))))))) := by
    refine px.trans (List.Perm.append_left _ ?_)
    have h := fl_perm [bcW G a b (b.gr.map fun _ => a.o), grO G a.o a.an b.gr, swsW G a b.sw, bcW G a1 b1 (b1.gr.map fun _ => a1.o), grO G a1.o a1.an b1.gr, swsW G a1 b1.sw] (is := [0, 1, 2, 3, 4, 5]) (js := [0, 3, 1, 2, 4, 5]) (shsW G A C ++ Wz) (by decide)
    refine List.Perm.trans (.of_eq ?_) (h.trans (.of_eq ?_))
    · simp only [bW, fl, List.append_assoc]; rfl
    · rfl
  refine ((KE.of (KX8_join_dno l G A C a b (b.gr.map fun _ => a.o) a1 b1 (b1.gr.map fun _ => a1.o) p1 p2 (hx.rb _ a ha) (hx.rb _ a1 ha1) res hF _) rfl rfl (by decide)).perm P).post (fun v w q => ?_)
  obtain ⟨rfl, nu, rfl⟩ := q
  have pf2 : (f1W G A (XCt.mk' C.bc C.ds res.2.1 res.2.2.1 res.2.2.2.2.2.2.1 res.2.2.2.2.2.2.2.2.2.2.2.1 res.2.2.2.2.2.2.2.2.2.2.2.2.2.2.2.2.1 res.2.2.2.2.2.2.2.2.2.2.2.2.2.2.2.2.2.1 res.2.2.2.2.2.2.2.2.2.2.2.2.2.2.2.2.2.2.1 res.2.2.2.2.2.2.2.2.2.2.2.2.2.2.2.2.2.2.2.1 res.2.2.2.2.2.2.2.2.2.2.2.2.2.2.2.2.2.2.2.2.1 res.2.2.2.2.2.2.2.2.2.2.2.2.2.2.2.2.2.2.2.2.2.1 res.2.2.2.2.2.2.2.2.2.2.2.2.2.2.2.2.2.2.2.2.2.2.1 res.2.2.2.2.2.2.2.2.2.2.2.2.2.2.2.2.2.2.2.2.2.2.2.1 res.2.2.2.2.2.2.2.2.2.2.2.2.2.2.2.2.2.2.2.2.2.2.2.2.1 res.2.2.2.2.2.2.2.2.2.2.2.2.2.2.2.2.2.2.2.2.2.2.2.2.2.1 res.2.2.2.2.2.2.2.2.2.2.2.2.2.2.2.2.2.2.2.2.2.2.2.2.2.2.1 res.2.2.2.2.2.2.2.2.2.2.2.2.2.2.2.2.2.2.2.2.2.2.2.2.2.2.2 C.DX C.DY C.DZ res.2.2.2.1 res.2.2.2.2.1 res.2.2.2.2.2.1 res.2.2.2.2.2.2.2.1 res.2.2.2.2.2.2.2.2.1 res.2.2.2.2.2.2.2.2.2.1 res.2.2.2.2.2.2.2.2.2.2.1 res.2.2.2.2.2.2.2.2.2.2.2.2.1 res.2.2.2.2.2.2.2.2.2.2.2.2.2.1 res.2.2.2.2.2.2.2.2.2.2.2.2.2.2.1 res.2.2.2.2.2.2.2.2.2.2.2.2.2.2.2.1 C.la C.si C.CE C.bo) ++ (bcW G a b (b.gr.map fun _ => a.o) ++ (bcW G a1 b1 (b1.gr.map fun _ => a1.o) ++ (grO G a.o a.an b.gr ++ (swsW G a b.sw ++ (grO G a1.o a1.an b1.gr ++ (swsW G a1 b1.sw ++ (shsW G A C ++ Wz)))))))).Perm (xW G A (XCt.mk' C.bc C.ds res.2.1 res.2.2.1 res.2.2.2.2.2.2.1 res.2.2.2.2.2.2.2.2.2.2.2.1 res.2.2.2.2.2.2.2.2.2.2.2.2.2.2.2.2.1 res.2.2.2.2.2.2.2.2.2.2.2.2.2.2.2.2.2.1 res.2.2.2.2.2.2.2.2.2.2.2.2.2.2.2.2.2.2.1 res.2.2.2.2.2.2.2.2.2.2.2.2.2.2.2.2.2.2.2.1 res.2.2.2.2.2.2.2.2.2.2.2.2.2.2.2.2.2.2.2.2.1 res.2.2.2.2.2.2.2.2.2.2.2.2.2.2.2.2.2.2.2.2.2.1 res.2.2.2.2.2.2.2.2.2.2.2.2.2.2.2.2.2.2.2.2.2.2.1 res.2.2.2.2.2.2.2.2.2.2.2.2.2.2.2.2.2.2.2.2.2.2.2.1 res.2.2.2.2.2.2.2.2.2.2.2.2.2.2.2.2.2.2.2.2.2.2.2.2.1 res.2.2.2.2.2.2.2.2.2.2.2.2.2.2.2.2.2.2.2.2.2.2.2.2.2.1 res.2.2.2.2.2.2.2.2.2.2.2.2.2.2.2.2.2.2.2.2.2.2.2.2.2.2.1 res.2.2.2.2.2.2.2.2.2.2.2.2.2.2.2.2.2.2.2.2.2.2.2.2.2.2.2 C.DX C.DY C.DZ res.2.2.2.1 res.2.2.2.2.1 res.2.2.2.2.2.1 res.2.2.2.2.2.2.2.1 res.2.2.2.2.2.2.2.2.1 res.2.2.2.2.2.2.2.2.2.1 res.2.2.2.2.2.2.2.2.2.2.1 res.2.2.2.2.2.2.2.2.2.2.2.2.1 res.2.2.2.2.2.2.2.2.2.2.2.2.2.1 res.2.2.2.2.2.2.2.2.2.2.2.2.2.2.1 res.2.2.2.2.2.2.2.2.2.2.2.2.2.2.2.1 C.la C.si C.CE C.bo)) := List.Perm.append_left _ ((List.perm_append_left_iff _).mp P).symm
  exact ⟨_, pf2, rfl, A, _, rfl, rfl, ⟨hx.len, hx.le8, hx.cnt, hx.rs, hx.rb, hx.bk⟩, rfl⟩
set_option maxRecDepth 20000 in
theorem XK_X8_join_sno (l : Launch) (G : GT) {A : XAd} {C : XCt} (hx : xok A C) (p1 : Int32) (p2 : Int32) (b : BCt) (hb : C.bo[p1.toNatClampNeg]? = some b) (he : p2.toNatClampNeg = p1.toNatClampNeg) (res : Int32 × Int32 × Int32 × (Nat → Int32) × (Nat → Int32) × (Nat → Int32) × Int32 × (Nat → Int32) × (Nat → Int32) × (Nat → Int32) × (Nat → Int32) × Int32 × (Nat → Int32) × (Nat → Int32) × (Nat → Int32) × (Nat → Int32) × Int32 × Int32 × Int32 × Int32 × Int32 × Int32 × Int32 × Int32 × Int32 × Int32 × Int32 × Int32) (hF : fX8_join_sno b.nc C.bc C.fi C.ps C.X C.Y C.Z C.ss C.SA C.SB C.SC C.SE C.bs C.BA C.BB C.BC C.BD C.l1 C.l2 C.l3 C.c1 C.c2 C.c3 C.r1 C.r2 C.r3 C.f1 C.f2 C.f3 b.cs b.CX b.CY b.CZ p1 p2 = some res) : XK l yX8_join wsX8_join [.ref A.h, .int p1, .int p2] G A C (.int res.1) (fun C' => C' = (XCt.mk' C.bc C.ds res.2.1 res.2.2.1 res.2.2.2.2.2.2.1 res.2.2.2.2.2.2.2.2.2.2.2.1 res.2.2.2.2.2.2.2.2.2.2.2.2.2.2.2.2.1 res.2.2.2.2.2.2.2.2.2.2.2.2.2.2.2.2.2.1 res.2.2.2.2.2.2.2.2.2.2.2.2.2.2.2.2.2.2.1 res.2.2.2.2.2.2.2.2.2.2.2.2.2.2.2.2.2.2.2.1 res.2.2.2.2.2.2.2.2.2.2.2.2.2.2.2.2.2.2.2.2.1 res.2.2.2.2.2.2.2.2.2.2.2.2.2.2.2.2.2.2.2.2.2.1 res.2.2.2.2.2.2.2.2.2.2.2.2.2.2.2.2.2.2.2.2.2.2.1 res.2.2.2.2.2.2.2.2.2.2.2.2.2.2.2.2.2.2.2.2.2.2.2.1 res.2.2.2.2.2.2.2.2.2.2.2.2.2.2.2.2.2.2.2.2.2.2.2.2.1 res.2.2.2.2.2.2.2.2.2.2.2.2.2.2.2.2.2.2.2.2.2.2.2.2.2.1 res.2.2.2.2.2.2.2.2.2.2.2.2.2.2.2.2.2.2.2.2.2.2.2.2.2.2.1 res.2.2.2.2.2.2.2.2.2.2.2.2.2.2.2.2.2.2.2.2.2.2.2.2.2.2.2 C.DX C.DY C.DZ res.2.2.2.1 res.2.2.2.2.1 res.2.2.2.2.2.1 res.2.2.2.2.2.2.2.1 res.2.2.2.2.2.2.2.2.1 res.2.2.2.2.2.2.2.2.2.1 res.2.2.2.2.2.2.2.2.2.2.1 res.2.2.2.2.2.2.2.2.2.2.2.2.1 res.2.2.2.2.2.2.2.2.2.2.2.2.2.1 res.2.2.2.2.2.2.2.2.2.2.2.2.2.2.1 res.2.2.2.2.2.2.2.2.2.2.2.2.2.2.2.1 C.la C.si C.CE C.bo)) := by
  obtain ⟨a, ha⟩ := x_ad hx hb
  refine ((KE.of (KX8_join_sno l G A C a b (b.gr.map fun _ => a.o) p1 p2 (hx.rb _ a ha) (by rw [he]; exact hx.rb _ a ha) res hF _) rfl rfl (by decide)).perm (x1 G A C _ a b ha hb)).post (fun v w q => ?_)
  obtain ⟨rfl, nu, rfl⟩ := q
  exact ⟨_, (x1 G A (XCt.mk' C.bc C.ds res.2.1 res.2.2.1 res.2.2.2.2.2.2.1 res.2.2.2.2.2.2.2.2.2.2.2.1 res.2.2.2.2.2.2.2.2.2.2.2.2.2.2.2.2.1 res.2.2.2.2.2.2.2.2.2.2.2.2.2.2.2.2.2.1 res.2.2.2.2.2.2.2.2.2.2.2.2.2.2.2.2.2.2.1 res.2.2.2.2.2.2.2.2.2.2.2.2.2.2.2.2.2.2.2.1 res.2.2.2.2.2.2.2.2.2.2.2.2.2.2.2.2.2.2.2.2.1 res.2.2.2.2.2.2.2.2.2.2.2.2.2.2.2.2.2.2.2.2.2.1 res.2.2.2.2.2.2.2.2.2.2.2.2.2.2.2.2.2.2.2.2.2.2.1 res.2.2.2.2.2.2.2.2.2.2.2.2.2.2.2.2.2.2.2.2.2.2.2.1 res.2.2.2.2.2.2.2.2.2.2.2.2.2.2.2.2.2.2.2.2.2.2.2.2.1 res.2.2.2.2.2.2.2.2.2.2.2.2.2.2.2.2.2.2.2.2.2.2.2.2.2.1 res.2.2.2.2.2.2.2.2.2.2.2.2.2.2.2.2.2.2.2.2.2.2.2.2.2.2.1 res.2.2.2.2.2.2.2.2.2.2.2.2.2.2.2.2.2.2.2.2.2.2.2.2.2.2.2 C.DX C.DY C.DZ res.2.2.2.1 res.2.2.2.2.1 res.2.2.2.2.2.1 res.2.2.2.2.2.2.2.1 res.2.2.2.2.2.2.2.2.1 res.2.2.2.2.2.2.2.2.2.1 res.2.2.2.2.2.2.2.2.2.2.1 res.2.2.2.2.2.2.2.2.2.2.2.2.1 res.2.2.2.2.2.2.2.2.2.2.2.2.2.1 res.2.2.2.2.2.2.2.2.2.2.2.2.2.2.1 res.2.2.2.2.2.2.2.2.2.2.2.2.2.2.2.1 C.la C.si C.CE C.bo) _ a b ha hb).symm, rfl, A, _, rfl, rfl, ⟨hx.len, hx.le8, hx.cnt, hx.rs, hx.rb, hx.bk⟩, rfl⟩
set_option maxRecDepth 20000 in
theorem XK_X8_point_N (l : Launch) (G : GT) {A : XAd} {C : XCt} (hx : xok A C) (p1 : Int32) (p2 : Int32) (p3 : Int32) (p4 : Int32) (res : Int32 × Unit) (hF : fX8_point_N C.bc p1 p2 p3 p4 = some res) : XK l yX8_point wsX8_point [.ref A.h, .int p1, .int p2, .int p3, .int p4] G A C (.int res.1) (fun C' => C' = C) := by
  refine (KE.of (KX8_point_N l G A C p1 p2 p3 p4  res hF (shsW G A C ++ bsW G A.bo C.bo)) rfl rfl (by decide)).post (fun v w q => ?_)
  obtain ⟨rfl, nu, rfl⟩ := q
  exact ⟨_, .refl _, rfl, A, C, rfl, rfl, ⟨hx.len, hx.le8, hx.cnt, hx.rs, hx.rb, hx.bk⟩, rfl⟩
set_option maxRecDepth 20000 in
theorem XK_X8_point_B (l : Launch) (G : GT) {A : XAd} {C : XCt} (hx : xok A C) (p1 : Int32) (p2 : Int32) (p3 : Int32) (p4 : Int32) (b : BCt) (hb : C.bo[p1.toNatClampNeg]? = some b) (res : Int32 × Unit) (hF : fX8_point_B C.bc p1 p2 p3 p4 = some res) : XK l yX8_point wsX8_point [.ref A.h, .int p1, .int p2, .int p3, .int p4] G A C (.int res.1) (fun C' => C' = C) := by
  obtain ⟨a, ha⟩ := x_ad hx hb
  refine ((KE.of (KX8_point_B l G A C a b (b.gr.map fun _ => a.o) p1 p2 p3 p4 (hx.rb _ a ha) res hF _) rfl rfl (by decide)).perm (x1 G A C _ a b ha hb)).post (fun v w q => ?_)
  obtain ⟨rfl, nu, rfl⟩ := q
  exact ⟨_, (x1 G A C _ a b ha hb).symm, rfl, A, _, rfl, rfl, ⟨hx.len, hx.le8, hx.cnt, hx.rs, hx.rb, hx.bk⟩, rfl⟩
set_option maxRecDepth 20000 in
theorem XK_X8_rank_N (l : Launch) (G : GT) {A : XAd} {C : XCt} (hx : xok A C) (p1 : Int32) (p2 : Int32) (p3 : Int32) (p4 : Int32) (p5 : Int32) (res : Int32 × Unit) (hF : fX8_rank_N C.bc p1 p2 p3 p4 p5 = some res) : XK l yX8_rank wsX8_rank [.ref A.h, .int p1, .int p2, .int p3, .int p4, .int p5] G A C (.int res.1) (fun C' => C' = C) := by
  refine (KE.of (KX8_rank_N l G A C p1 p2 p3 p4 p5  res hF (shsW G A C ++ bsW G A.bo C.bo)) rfl rfl (by decide)).post (fun v w q => ?_)
  obtain ⟨rfl, nu, rfl⟩ := q
  exact ⟨_, .refl _, rfl, A, C, rfl, rfl, ⟨hx.len, hx.le8, hx.cnt, hx.rs, hx.rb, hx.bk⟩, rfl⟩
set_option maxRecDepth 20000 in
theorem XK_X8_rank_B (l : Launch) (G : GT) {A : XAd} {C : XCt} (hx : xok A C) (p1 : Int32) (p2 : Int32) (p3 : Int32) (p4 : Int32) (p5 : Int32) (b : BCt) (hb : C.bo[p1.toNatClampNeg]? = some b) (res : Int32 × Unit) (hF : fX8_rank_B C.bc p1 p2 p3 p4 p5 = some res) : XK l yX8_rank wsX8_rank [.ref A.h, .int p1, .int p2, .int p3, .int p4, .int p5] G A C (.int res.1) (fun C' => C' = C) := by
  obtain ⟨a, ha⟩ := x_ad hx hb
  refine ((KE.of (KX8_rank_B l G A C a b (b.gr.map fun _ => a.o) p1 p2 p3 p4 p5 (hx.rb _ a ha) res hF _) rfl rfl (by decide)).perm (x1 G A C _ a b ha hb)).post (fun v w q => ?_)
  obtain ⟨rfl, nu, rfl⟩ := q
  exact ⟨_, (x1 G A C _ a b ha hb).symm, rfl, A, _, rfl, rfl, ⟨hx.len, hx.le8, hx.cnt, hx.rs, hx.rb, hx.bk⟩, rfl⟩
set_option maxRecDepth 20000 in
theorem XK_X8_slice_N (l : Launch) (G : GT) {A : XAd} {C : XCt} (hx : xok A C) (p1 : Int32) (p2 : Int32) (p3 : Int32) (res : Int32 × Unit) (hF : fX8_slice_N C.bc p1 p2 p3 = some res) : XK l yX8_slice wsX8_slice [.ref A.h, .int p1, .int p2, .int p3] G A C (.int res.1) (fun C' => C' = C) := by
  refine (KE.of (KX8_slice_N l G A C p1 p2 p3  res hF (shsW G A C ++ bsW G A.bo C.bo)) rfl rfl (by decide)).post (fun v w q => ?_)
  obtain ⟨rfl, nu, rfl⟩ := q
  exact ⟨_, .refl _, rfl, A, C, rfl, rfl, ⟨hx.len, hx.le8, hx.cnt, hx.rs, hx.rb, hx.bk⟩, rfl⟩
set_option maxRecDepth 20000 in
theorem XK_X8_slice_B (l : Launch) (G : GT) {A : XAd} {C : XCt} (hx : xok A C) (p1 : Int32) (p2 : Int32) (p3 : Int32) (b : BCt) (hb : C.bo[p1.toNatClampNeg]? = some b) (res : Int32 × Unit) (hF : fX8_slice_B C.bc p1 p2 p3 = some res) : XK l yX8_slice wsX8_slice [.ref A.h, .int p1, .int p2, .int p3] G A C (.int res.1) (fun C' => C' = C) := by
  obtain ⟨a, ha⟩ := x_ad hx hb
  refine ((KE.of (KX8_slice_B l G A C a b (b.gr.map fun _ => a.o) p1 p2 p3 (hx.rb _ a ha) res hF _) rfl rfl (by decide)).perm (x1 G A C _ a b ha hb)).post (fun v w q => ?_)
  obtain ⟨rfl, nu, rfl⟩ := q
  exact ⟨_, (x1 G A C _ a b ha hb).symm, rfl, A, _, rfl, rfl, ⟨hx.len, hx.le8, hx.cnt, hx.rs, hx.rb, hx.bk⟩, rfl⟩
