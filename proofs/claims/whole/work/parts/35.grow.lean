/-! a contract whose room is only bounded; the call of one -/
def KE (l : Launch) (y : MethodName) (ws : List Cond) (av : List Value) (G : GT) (wc : va_W) (Q : Option Value → va_W → Prop) (fr lo ce sl : Nat) : Prop :=
  ∃ (rm : Room) (mc ms : Nat), rm.cells = mc ∧ rm.slots = ms ∧ rm.frames ≤ fr ∧ rm.locals ≤ lo ∧ mc ≤ ce ∧ ms ≤ sl ∧ KM l y ws rm av G wc Q mc ms
theorem KE.of {l : Launch} {y : MethodName} {ws : List Cond} {rm : Room} {av : List Value} {G : GT} {wc : va_W} {Q : Option Value → va_W → Prop} {mc ms : Nat} (h : KM l y ws rm av G wc Q mc ms) (hc : rm.cells = mc) (hs : rm.slots = ms) {fr lo ce sl : Nat} (hb : rm.frames ≤ fr ∧ rm.locals ≤ lo ∧ mc ≤ ce ∧ ms ≤ sl) : KE l y ws av G wc Q fr lo ce sl :=
  ⟨rm, mc, ms, hc, hs, hb.1, hb.2.1, hb.2.2.1, hb.2.2.2, h⟩
theorem KE.post {l : Launch} {y : MethodName} {ws : List Cond} {av : List Value} {G : GT} {wc : va_W} {Q Q' : Option Value → va_W → Prop} {fr lo ce sl : Nat} (h : KE l y ws av G wc Q fr lo ce sl) (hQ : ∀ v w, Q v w → ∃ w', w.Perm w' ∧ Q' v w') : KE l y ws av G wc Q' fr lo ce sl := by
  obtain ⟨rm, mc, ms, h1, h2, h3, h4, h5, h6, h7⟩ := h
  exact ⟨rm, mc, ms, h1, h2, h3, h4, h5, h6, h7.post hQ⟩
theorem KE.perm {l : Launch} {y : MethodName} {ws : List Cond} {av : List Value} {G : GT} {wc wc' : va_W} {Q : Option Value → va_W → Prop} {fr lo ce sl : Nat} (h : KE l y ws av G wc Q fr lo ce sl) (p : wc'.Perm wc) : KE l y ws av G wc' Q fr lo ce sl := by
  obtain ⟨rm, mc, ms, h1, h2, h3, h4, h5, h6, h7⟩ := h
  exact ⟨rm, mc, ms, h1, h2, h3, h4, h5, h6, h7.perm p⟩
theorem KE.frame {l : Launch} {y : MethodName} {ws : List Cond} {av : List Value} {G : GT} {wc : va_W} {Q : Option Value → va_W → Prop} {fr lo ce sl : Nat} (h : KE l y ws av G wc Q fr lo ce sl) (wr : va_W) : KE l y ws av G (wc ++ wr) (fun v w => ∃ w', Q v w' ∧ w = w' ++ wr) fr lo ce sl := by
  obtain ⟨rm, mc, ms, h1, h2, h3, h4, h5, h6, h7⟩ := h
  exact ⟨rm, mc, ms, h1, h2, h3, h4, h5, h6, h7.frame wr⟩
theorem KE.more {l : Launch} {y : MethodName} {ws : List Cond} {av : List Value} {G : GT} {wc : va_W} {Q : Option Value → va_W → Prop} {fr lo ce sl fr' lo' ce' sl' : Nat} (h : KE l y ws av G wc Q fr lo ce sl) (hb : fr ≤ fr' ∧ lo ≤ lo' ∧ ce ≤ ce' ∧ sl ≤ sl') : KE l y ws av G wc Q fr' lo' ce' sl' := by
  obtain ⟨rm, mc, ms, h1, h2, h3, h4, h5, h6, h7⟩ := h
  exact ⟨rm, mc, ms, h1, h2, by omega, by omega, by omega, by omega, h7⟩
section KEC
variable {p : Program} {l : Launch} {e : Env} {R : Room} {s : State} {m : MethodId} {args : Array Value} {below : List Frame} {meth : Method} {c : Code} {H H0 : Heap} {locs : List Loc} {cells slots : Nat} {Q : State → Prop} {pc : Nat} {ls : Array Slot} {rest st0 : List Value} {G : GT} {A0 : Nat → Prop} {wc : va_W}
variable {y : MethodName} {bytes cc : ByteArray} {maxL nL n index : Nat} {ret : Option FieldType} {ws : List Cond} {Ts : List Cond} {own : String} {b : Addr} {As : List Value}
theorem ke_V {fr lo ce sl q0 : Nat} {Q' : Option Value → va_W → Prop} {q : vw_C} {fs : List Value} (ci : Nat) (hk : KE l y ws (Value.ref b :: As) G wc Q' fr lo ce sl) (S : CallFix p m c cc nL s args Ts own)
    (cw : ∀ (rm : Room) (mc ms : Nat), rm.cells = mc → rm.slots = ms → rm.frames ≤ fr → rm.locals ≤ lo → CallW R s args own q.1 index y bytes maxL ret ws rm mc ms n)
    (hK : va_K (gD G) vwCl (gT G) s) (hN : gN s) (hP : va_P (gD G) vwCl wc H) (hD : va_D A0 wc) (hS : va_S A0 H0 H locs) (hA : ∀ q, H0.size ≤ q → A0 q) (hc : vwCl[ci]? = some q) (he : wc[q0]? = some (b, .inr (ci, fs)))
    (hn : As.length = n) (hsize : ls.size = nL) (hstack : st0 = As.reverse ++ .ref b :: rest) (hW : 2 * (F0 m pc ls st0).monitorRoom + (rest.map fun v => v.category).sum ≤ 8) (hdg : decode cc pc = .ok (.invokevirtual index, 3)) (hf : cells + ce ≤ R.cells ∧ slots + sl ≤ R.slots)
    (kk : ∀ (v : Option Value) (w : va_W) (H1 : Heap) (locs1 : List Loc), Q' v w → va_P (gD G) vwCl w H1 → va_D A0 w → va_S A0 H0 H1 locs1 → W p l e R s m args below meth c H1 locs1 (cells + ce) (slots + sl) Q (F0 m (pc + 3) ls (v.toList ++ rest))) : W p l e R s m args below meth c H locs cells slots Q (F0 m pc ls st0) := by
  obtain ⟨rm, mc, ms, hrc, hrs, hfr, hlo, hmc, hms, hM⟩ := hk
  have hr := va_runV (g := F0 m pc ls st0) S (hM H.size) (cw rm mc ms hrc hrs hfr hlo) (pvWN (q0 := q0) ci hK hP hD hc he hN) rfl hn hsize hstack hW hdg ⟨by omega, by omega⟩ (locs := locs) (cells := cells) (slots := slots) (e := e) (below := below) (meth := meth)
  have hFc : ∀ x, va_A wc H.size x → A0 x := fun x h => by
    rcases h with ⟨k, e', h⟩ | h
    · exact hD.2 k _ h
    · exact hA x (Nat.le_trans hS.1 h)
  intro T hT X
  obtain ⟨v, st₀, t, T', L, h0, X', hL, e1, e2, ⟨⟨v', w, hv, hq, hP1, hK1, hD1⟩, hz, hk2⟩, st⟩ := hr T hT X
  cases hv
  rw [h0] at hz hk2
  obtain ⟨t2, a1, b1⟩ := (W.widen (by omega) (by omega) (kk v w T'.heap (locs ++ L) hq (by rw [e1]; exact hP1) (hD1.weaken fun _ _ _ h => hFc _ h)
    ⟨Nat.le_trans hS.1 (by rw [e1]; exact hz), fun q h1 h2 => by rw [e1, hk2 q (Nat.lt_of_lt_of_le h1 hS.1) (fun z => h2 (hFc q z))]; exact hS.2.1 q h1 h2, fun q hq => by
      rcases List.mem_append.mp hq with h | h
      · exact hS.2.2 q h
      · exact hFc _ (hL q h)⟩)) T' rfl X'
  exact ⟨t2, st t2 a1, b1⟩
theorem ke_I {fr lo ce sl : Nat} {Q' : Option Value → va_W → Prop} (hk : KE l y ws (Value.ref b :: As) G wc Q' fr lo ce sl) (S : CallFix p m c cc nL s args Ts own)
    (cw : ∀ (rm : Room) (mc ms : Nat), rm.cells = mc → rm.slots = ms → rm.frames ≤ fr → rm.locals ≤ lo → CallB R s args own index y bytes maxL none ws rm mc ms n ∧ y.name = "<init>" ∧ (Cond.instanceMethod y).before args s = true)
    (hK : va_K (gD G) vwCl (gT G) s) (hN : gN s) (hP : va_P (gD G) vwCl wc H) (hD : va_D A0 wc) (hS : va_S A0 H0 H locs) (hA : ∀ q, H0.size ≤ q → A0 q)
    (hn : As.length = n) (hsize : ls.size = nL) (hstack : st0 = As.reverse ++ .ref b :: rest) (hW : 2 * (F0 m pc ls st0).monitorRoom + (rest.map fun v => v.category).sum ≤ 8) (hdg : decode cc pc = .ok (.invokespecial index, 3)) (hf : cells + ce ≤ R.cells ∧ slots + sl ≤ R.slots)
    (kk : ∀ (v : Option Value) (w : va_W) (H1 : Heap) (locs1 : List Loc), Q' v w → va_P (gD G) vwCl w H1 → va_D A0 w → va_S A0 H0 H1 locs1 → W p l e R s m args below meth c H1 locs1 (cells + ce) (slots + sl) Q (F0 m (pc + 3) ls (v.toList ++ rest))) : W p l e R s m args below meth c H locs cells slots Q (F0 m pc ls st0) := by
  obtain ⟨rm, mc, ms, hrc, hrs, hfr, hlo, hmc, hms, hM⟩ := hk
  have hr := va_runI (g := F0 m pc ls st0) S (hM H.size) (cw rm mc ms hrc hrs hfr hlo) (psWN hK hP hD hN) rfl hn hsize hstack hW hdg ⟨by omega, by omega⟩ (locs := locs) (cells := cells) (slots := slots) (e := e) (below := below) (meth := meth)
  have hFc : ∀ x, va_A wc H.size x → A0 x := fun x h => by
    rcases h with ⟨k, e', h⟩ | h
    · exact hD.2 k _ h
    · exact hA x (Nat.le_trans hS.1 h)
  intro T hT X
  obtain ⟨v, st₀, t, T', L, h0, X', hL, e1, e2, ⟨⟨v', w, hv, hq, hP1, hK1, hD1⟩, hz, hk2⟩, st⟩ := hr T hT X
  cases hv
  rw [h0] at hz hk2
  obtain ⟨t2, a1, b1⟩ := (W.widen (by omega) (by omega) (kk v w T'.heap (locs ++ L) hq (by rw [e1]; exact hP1) (hD1.weaken fun _ _ _ h => hFc _ h)
    ⟨Nat.le_trans hS.1 (by rw [e1]; exact hz), fun q h1 h2 => by rw [e1, hk2 q (Nat.lt_of_lt_of_le h1 hS.1) (fun z => h2 (hFc q z))]; exact hS.2.1 q h1 h2, fun q hq => by
      rcases List.mem_append.mp hq with h | h
      · exact hS.2.2 q h
      · exact hFc _ (hL q h)⟩)) T' rfl X'
  exact ⟨t2, st t2 a1, b1⟩
end KEC
theorem KM.of_nv {l : Launch} {y : MethodName} {ws : List Cond} {rm : Room} {av : List Value} {G : GT} {wc : va_W} {mc ms : Nat} {S : Type} {res : S} {wf : S → (Nat → Nat) → va_W} (h : ∀ sz, Met l y ws rm (va_Pc av (pW G sz wc)) (va_Qv (fun u => u = res) (fun u t => ∃ nu : Nat → Nat, qW G (va_A wc sz) (wf u nu) t) (va_A wc sz)) mc ms (va_A wc sz)) : KM l y ws rm av G wc (fun v w => v = none ∧ ∃ nu, w = wf res nu) mc ms := fun sz =>
  metMono (h sz) (fun _ _ q => ⟨q.1, q.2.1⟩) (fun a s o t _ _ q => by
    obtain ⟨⟨u, e, h1, nu, h3⟩, hF⟩ := q
    subst h1
    exact ⟨⟨_, _, e, ⟨rfl, nu, rfl⟩, h3⟩, hF⟩) (fun _ h => h)
theorem vP_pre {D : va_G} {cl : List vw_C} {ws x : va_W} {H : Heap} (h : va_P D cl (ws ++ x) H) : va_P D cl ws H :=
  vP_iff.mpr fun q hq => vP_iff.mp h q (List.mem_append_left _ hq)
theorem vD_pre {A : Nat → Prop} {ws x : va_W} (h : va_D A (ws ++ x)) : va_D A ws :=
  ⟨fun i j p q hi hj e => h.1 i j p q (by rw [List.getElem?_append_left (List.getElem?_eq_some_iff.mp hi).1]; exact hi) (by rw [List.getElem?_append_left (List.getElem?_eq_some_iff.mp hj).1]; exact hj) e,
   fun k q hk => h.2 k q (by rw [List.getElem?_append_left (List.getElem?_eq_some_iff.mp hk).1]; exact hk)⟩
theorem i32_succ {n : Int32} (h0 : -100 ≤ n.toInt) (h : n.toInt ≤ 100) : (n + 1).toInt = n.toInt + 1 := by
  rw [Int32.toInt_add, show (1 : Int32).toInt = 1 from rfl]
  simp only [Int.bmod]
  split <;> omega

theorem KM.of_rq {l : Launch} {y : MethodName} {ws : List Cond} {rm : Room} {av : List Value} {G : GT} {wc : va_W} {res : Option Nat} (h : Met l y ws rm (va_Pc av (pR G wc)) (va_Sq (fun r => r = res)) 0 0 (fun _ => False)) : KM l y ws rm av G wc (fun v w => v = some (va_rf res) ∧ w = wc) 0 0 := fun sz =>
  metMono h (fun _ _ q => ⟨q.1, q.2.1.2.1, q.2.1.2.2.1⟩) (fun a s o t q0 hW q => by
    obtain ⟨r, e, h1, hh⟩ := q
    subst h1
    obtain ⟨-, ⟨q1, qP, qK, qD⟩, -⟩ := q0
    exact ⟨⟨_, _, e, ⟨rfl, rfl⟩, by rw [hh]; exact qP, va_K.moved hW.alike qK, qD.self⟩, by rw [hh]; exact Nat.le_refl _, fun q _ _ => by rw [hh]⟩) (fun _ h => h.elim)
/-- a contract that makes cells and gives one back, over more cells -/
theorem KM.reQ {l : Launch} {y : MethodName} {ws : List Cond} {rm : Room} {av : List Value} {G : GT} {wc : va_W} {wd W' : (Nat → Nat) → va_W} {r : (Nat → Nat) → Option Value} {mc ms : Nat} {Wr W : va_W} (Bs : List va_W) (Bs' : (Nat → Nat) → List va_W) (is us rs us' rs' is' : List Nat) (h : KM l y ws rm av G wc (fun v w => ∃ nu, v = r nu ∧ w = wd nu) mc ms) (hW : W = fl Bs is Wr) (hc : wc ++ fl Bs rs Wr = fl Bs (us ++ rs) Wr) (hp : is.Perm (us ++ rs)) (hd : ∀ nu, wd nu ++ fl Bs rs Wr = fl (Bs' nu) (us' ++ rs') Wr) (hp' : (us' ++ rs').Perm is') (hW' : ∀ nu, W' nu = fl (Bs' nu) is' Wr) : KM l y ws rm av G W (fun v w => ∃ nu, v = r nu ∧ w = W' nu) mc ms := by
  have p1 : W.Perm (wc ++ fl Bs rs Wr) := by rw [hW, hc]; exact fl_perm Bs Wr hp
  refine ((h.frame (fl Bs rs Wr)).perm p1).post (fun v w q => ?_)
  obtain ⟨w', ⟨nu, rfl, rfl⟩, rfl⟩ := q
  exact ⟨W' nu, by rw [hd, hW']; exact fl_perm (Bs' nu) Wr hp', nu, rfl, rfl⟩
def kept (n : Int32) : Int32 := if 5 < (if n < 1 then 1 else n) then 5 else (if n < 1 then 1 else n)
def mkS (u : Int32 × Int32 × Int32 × Int32 × Int32 × Int32 × Int32 × Int32 × Int32 × (Nat → Int32) × Nat) : SCt :=
  (SCt.mk' u.2.2.2.2.2.2.2.2.2.2 u.1 u.2.1 u.2.2.1 u.2.2.2.1 u.2.2.2.2.1 u.2.2.2.2.2.1 u.2.2.2.2.2.2.1 u.2.2.2.2.2.2.2.1 u.2.2.2.2.2.2.2.2.1 u.2.2.2.2.2.2.2.2.2.1)
set_option maxRecDepth 20000 in
theorem KX0_swelling_C (l : Launch) (G : GT) (a : BAd) (b : BCt) (og : Option Nat) (w : Nat) (p1 : Int32) (hq : a.RW (kept p1).toNatClampNeg = some w) (hF : fX0_swelling_C p1 = some ()) (Wr : va_W) : KM l yX0_swelling wsX0_swelling rX0_swelling_C [.ref a.f, .int p1] G (bcW G a b og ++ Wr) (fun v w' => v = some (.ref w) ∧ w' = (bcW G a b og ++ Wr)) 0 0 :=
  KM.reR (W := (bcW G a b og ++ Wr)) (Wr := Wr) (bcB G a b og) [0, 1, 2, 3, 4, 5, 6, 7, 8, 9, 10, 11, 12, 13, 14, 15, 16, 17] [0, 17] [1, 2, 3, 4, 5, 6, 7, 8, 9, 10, 11, 12, 13, 14, 15, 16] (KM.of_rq (kX0_swelling_C l G a.f a.aw a.c a.s a.b a.al a.ag w b.fl b.mo og a.RW p1 hq () hF)) rfl rfl (by decide +kernel)
set_option maxRecDepth 20000 in
theorem KX0_swelling_W (l : Launch) (G : GT) (a : BAd) (b : BCt) (og : Option Nat) (p1 : Int32) (hq : a.RW (kept p1).toNatClampNeg = none) (res : Int32 × Int32 × Int32 × Int32 × Int32 × Int32 × Int32 × Int32 × Int32 × (Nat → Int32) × Nat) (hF : fX0_swelling_W b.ns b.nb b.ss b.SA b.SB b.SC b.SE b.bs b.BA b.BB b.BC b.BD b.LL b.GG p1 = some res) (Wr : va_W) : KM l yX0_swelling wsX0_swelling rX0_swelling_W [.ref a.f, .int p1] G (bcW G a b og ++ Wr) (fun v w' => ∃ nu : Nat → Nat, v = some (.ref (nu 0)) ∧ w' = (bcW G (BAd.mc' a.kk (va_up a.RW (kept p1).toNatClampNeg (some (nu 0))) a.o a.an a.w a.wb) b og ++ (swW G a.s a.b (nu 0) (nu 1) (mkS res) ++ Wr))) 2 80 :=
  KM.reQ (W := (bcW G a b og ++ Wr)) (W' := fun nu => (bcW G (BAd.mc' a.kk (va_up a.RW (kept p1).toNatClampNeg (some (nu 0))) a.o a.an a.w a.wb) b og ++ (swW G a.s a.b (nu 0) (nu 1) (mkS res) ++ Wr))) (Wr := Wr) (bcB G a b og) (fun nu => bcB G (BAd.mc' a.kk (va_up a.RW (kept p1).toNatClampNeg (some (nu 0))) a.o a.an a.w a.wb) b og ++ swB G a.s a.b (nu 0) (nu 1) (mkS res)) [0, 1, 2, 3, 4, 5, 6, 7, 8, 9, 10, 11, 12, 13, 14, 15, 16, 17] [0, 5, 6, 7, 8, 9, 10, 11, 12, 13, 14, 15, 16, 17] [1, 2, 3, 4] [0, 5, 6, 7, 8, 9, 10, 11, 12, 13, 14, 15, 16, 17, 18, 19] [1, 2, 3, 4] [0, 1, 2, 3, 4, 5, 6, 7, 8, 9, 10, 11, 12, 13, 14, 15, 16, 17, 18, 19] (KM.of_nr (fun sz => kX0_swelling_W l G a.f a.s a.sa a.sb a.sc a.se a.b a.ba a.bb a.bc a.be a.al a.ag a.aw a.c sz b.ns b.nb b.fl b.mo og b.ss b.SA b.SB b.SC b.SE b.bs b.BA b.BB b.BC b.BD b.LL b.GG a.RW p1 hq res hF)) rfl rfl (by decide +kernel) (fun _ => rfl) (by decide +kernel) (fun _ => rfl)
/-! the cached swellings of a body -/
def swO (G : GT) (s b w wb : Nat) : Option SCt → va_W
  | none => []
  | some r => swW G s b w wb r
def swsW (G : GT) (a : BAd) (sw : Nat → Option SCt) : va_W := swO G a.s a.b (a.w 0) (a.wb 0) (sw 0) ++ (swO G a.s a.b (a.w 1) (a.wb 1) (sw 1) ++ (swO G a.s a.b (a.w 2) (a.wb 2) (sw 2) ++ (swO G a.s a.b (a.w 3) (a.wb 3) (sw 3) ++ (swO G a.s a.b (a.w 4) (a.wb 4) (sw 4) ++ swO G a.s a.b (a.w 5) (a.wb 5) (sw 5)))))
/-- the row of swellings says where each is -/
def bok (a : BAd) (b : BCt) : Prop := ∀ k, k < 6 → a.RW k = (b.sw k).map (fun _ => a.w k)
/-- other rows of swellings in the addresses of a body -/
abbrev aset (a : BAd) (RW : Nat → Option Nat) (w wb : Nat → Nat) : BAd := (BAd.mc' a.kk RW a.o a.an w wb)
theorem six {k : Nat} (h : k < 6) : k = 0 ∨ k = 1 ∨ k = 2 ∨ k = 3 ∨ k = 4 ∨ k = 5 := by omega
theorem sws_put (G : GT) (a : BAd) (sw : Nat → Option SCt) (k : Nat) (hk : k < 6) (w wb : Nat) (r : SCt) (RW : Nat → Option Nat) : (swsW G (BAd.mc' a.kk RW a.o a.an (va_up a.w k w) (va_up a.wb k wb)) (va_up sw k (some r))).Perm (swW G a.s a.b w wb r ++ swsW G a (va_up sw k none)) := by
  rcases six hk with rfl | rfl | rfl | rfl | rfl | rfl
  · exact fl_perm [swW G a.s a.b w wb r, swO G a.s a.b (a.w 1) (a.wb 1) (sw 1), swO G a.s a.b (a.w 2) (a.wb 2) (sw 2), swO G a.s a.b (a.w 3) (a.wb 3) (sw 3), swO G a.s a.b (a.w 4) (a.wb 4) (sw 4)] (is := [0, 1, 2, 3, 4]) (js := [0, 1, 2, 3, 4]) (swO G a.s a.b (a.w 5) (a.wb 5) (sw 5)) (by decide)
  · exact fl_perm [swW G a.s a.b w wb r, swO G a.s a.b (a.w 0) (a.wb 0) (sw 0), swO G a.s a.b (a.w 2) (a.wb 2) (sw 2), swO G a.s a.b (a.w 3) (a.wb 3) (sw 3), swO G a.s a.b (a.w 4) (a.wb 4) (sw 4)] (is := [1, 0, 2, 3, 4]) (js := [0, 1, 2, 3, 4]) (swO G a.s a.b (a.w 5) (a.wb 5) (sw 5)) (by decide)
  · exact fl_perm [swW G a.s a.b w wb r, swO G a.s a.b (a.w 0) (a.wb 0) (sw 0), swO G a.s a.b (a.w 1) (a.wb 1) (sw 1), swO G a.s a.b (a.w 3) (a.wb 3) (sw 3), swO G a.s a.b (a.w 4) (a.wb 4) (sw 4)] (is := [1, 2, 0, 3, 4]) (js := [0, 1, 2, 3, 4]) (swO G a.s a.b (a.w 5) (a.wb 5) (sw 5)) (by decide)
  · exact fl_perm [swW G a.s a.b w wb r, swO G a.s a.b (a.w 0) (a.wb 0) (sw 0), swO G a.s a.b (a.w 1) (a.wb 1) (sw 1), swO G a.s a.b (a.w 2) (a.wb 2) (sw 2), swO G a.s a.b (a.w 4) (a.wb 4) (sw 4)] (is := [1, 2, 3, 0, 4]) (js := [0, 1, 2, 3, 4]) (swO G a.s a.b (a.w 5) (a.wb 5) (sw 5)) (by decide)
  · exact fl_perm [swW G a.s a.b w wb r, swO G a.s a.b (a.w 0) (a.wb 0) (sw 0), swO G a.s a.b (a.w 1) (a.wb 1) (sw 1), swO G a.s a.b (a.w 2) (a.wb 2) (sw 2), swO G a.s a.b (a.w 3) (a.wb 3) (sw 3)] (is := [1, 2, 3, 4, 0]) (js := [0, 1, 2, 3, 4]) (swO G a.s a.b (a.w 5) (a.wb 5) (sw 5)) (by decide)
  · have h := fl_perm [swW G a.s a.b w wb r, swO G a.s a.b (a.w 0) (a.wb 0) (sw 0), swO G a.s a.b (a.w 1) (a.wb 1) (sw 1), swO G a.s a.b (a.w 2) (a.wb 2) (sw 2), swO G a.s a.b (a.w 3) (a.wb 3) (sw 3), swO G a.s a.b (a.w 4) (a.wb 4) (sw 4)] (is := [1, 2, 3, 4, 5, 0]) (js := [0, 1, 2, 3, 4, 5]) [] (by decide)
    refine List.Perm.trans ?_ (h.trans ?_)
    · exact .of_eq rfl
    · exact .of_eq (by simp [fl, swsW, swO, va_up])
theorem sws_at (G : GT) (a : BAd) (sw : Nat → Option SCt) (k : Nat) (hk : k < 6) (r : SCt) (h : sw k = some r) : (swsW G a sw).Perm (swW G a.s a.b (a.w k) (a.wb k) r ++ swsW G a (va_up sw k none)) := by
  have e1 : va_up a.w k (a.w k) = a.w := by funext j; unfold va_up; split <;> simp_all
  have e2 : va_up a.wb k (a.wb k) = a.wb := by funext j; unfold va_up; split <;> simp_all
  have e3 : va_up sw k (some r) = sw := by funext j; unfold va_up; split <;> simp_all
  have := sws_put G a sw k hk (a.w k) (a.wb k) r a.RW
  rw [e1, e2, e3] at this
  exact this
theorem sws_none (sw : Nat → Option SCt) (k : Nat) (h : sw k = none) : va_up sw k none = sw := by funext j; unfold va_up; split <;> simp_all
/-- the swelling by n: kept, or new -/
def getSw (b : BCt) (n : Int32) : Option SCt :=
  match b.sw (kept n).toNatClampNeg with
  | some r => some r
  | none => (fX0_swelling_W b.ns b.nb b.ss b.SA b.SB b.SC b.SE b.bs b.BA b.BB b.BC b.BD b.LL b.GG n).map mkS
theorem kept_eq (n : Int32) : kept n = 1 ∨ kept n = 5 ∨ (kept n = n ∧ 1 ≤ n.toInt ∧ n.toInt ≤ 5) := by
  unfold kept
  by_cases h1 : n < 1
  · left
    rw [if_pos h1]
    rfl
  · rw [if_neg h1]
    by_cases h2 : 5 < n
    · rw [if_pos h2]
      exact Or.inr (Or.inl rfl)
    · rw [if_neg h2]
      rw [Int32.lt_iff_toInt_lt] at h1 h2
      rw [show (1 : Int32).toInt = 1 from rfl] at h1
      rw [show (5 : Int32).toInt = 5 from rfl] at h2
      exact Or.inr (Or.inr ⟨rfl, by omega, by omega⟩)
theorem kept_toInt (n : Int32) : 1 ≤ (kept n).toInt ∧ (kept n).toInt ≤ 5 := by
  rcases kept_eq n with h | h | ⟨h, h1, h2⟩
  · rw [h]; decide
  · rw [h]; decide
  · rw [h]; exact ⟨h1, h2⟩
theorem kept_lt (n : Int32) : (kept n).toNatClampNeg < 6 := by
  have := kept_toInt n
  rw [Int32.toNatClampNeg]
  omega
theorem kept_in (n : Int32) : ¬ (kept n < 0 ∨ 6 ≤ (kept n).toNatClampNeg) := by
  have h1 := kept_toInt n
  have h2 := kept_lt n
  rw [Int32.lt_iff_toInt_lt, show (0 : Int32).toInt = 0 from rfl]
  omega
theorem swC_eq (n : Int32) : fX0_swelling_C n = some () := by
  show gd_in (kept n) 6 (some ()) = some ()
  unfold gd_in
  exact if_neg (kept_in n)
def swQ (G : GT) (a : BAd) (b : BCt) (og : Option Nat) (K : Nat) (r : SCt) (Wr : va_W) : Option Value → va_W → Prop := fun v w => ∃ (RW : Nat → Option Nat) (w' wb' : Nat → Nat), bok (aset a RW w' wb') (BCt.mc' b.kk b.gr (va_up b.sw K (some r))) ∧ v = some (.ref (w' K)) ∧ w = bcW G (aset a RW w' wb') b og ++ (swsW G (aset a RW w' wb') (va_up b.sw K (some r)) ++ Wr)
theorem swQ_C (G : GT) (a : BAd) (b : BCt) (og : Option Nat) (K : Nat) (r : SCt) (Wr : va_W) (hok : bok a b) (hs : b.sw K = some r) {v : Option Value} {w : va_W} (h1 : v = some (.ref (a.w K))) (h2 : w = bcW G a b og ++ (swsW G a b.sw ++ Wr)) : swQ G a b og K r Wr v w := by
  have e3 : va_up b.sw K (some r) = b.sw := by funext j; unfold va_up; split <;> simp_all
  unfold swQ
  rw [e3]
  exact ⟨a.RW, a.w, a.wb, hok, h1, h2⟩
theorem swQ_W (G : GT) (a : BAd) (b : BCt) (og : Option Nat) (K : Nat) (hk : K < 6) (r : SCt) (Wr : va_W) (hok : bok a b) (hs : b.sw K = none) (w wb : Nat) : ∃ w', (bcW G (BAd.mc' a.kk (va_up a.RW K (some w)) a.o a.an a.w a.wb) b og ++ (swW G a.s a.b w wb r ++ (swsW G a b.sw ++ Wr))).Perm w' ∧ swQ G a b og K r Wr (some (.ref w)) w' := by
  have p := sws_put G a b.sw K hk w wb r (va_up a.RW K (some w))
  rw [sws_none b.sw K hs] at p
  refine ⟨_, ?_, va_up a.RW K (some w), va_up a.w K w, va_up a.wb K wb, ?_, ?_, rfl⟩
  · refine List.Perm.append_left _ ?_
    rw [← List.append_assoc]
    exact List.Perm.append_right _ p.symm
  · intro k hk2
    show va_up a.RW K (some w) k = (va_up b.sw K (some r) k).map (fun _ => va_up a.w K w k)
    unfold va_up
    by_cases e : k = K
    · simp [e]
    · simp only [if_neg e]
      exact hok k hk2
  · rw [va_up_s]
theorem KE_sw (l : Launch) (G : GT) (a : BAd) (b : BCt) (og : Option Nat) (n : Int32) (hok : bok a b) (r : SCt) (hr : getSw b n = some r) (Wr : va_W) :
    KE l yX0_swelling wsX0_swelling [.ref a.f, .int n] G (bcW G a b og ++ (swsW G a b.sw ++ Wr)) (swQ G a b og (kept n).toNatClampNeg r Wr) 5 118 2 80 := by
  have hk := kept_lt n
  have hC := KX0_swelling_C l G a b og
  have hW := KX0_swelling_W l G a b og n
  have hF := swC_eq n
  unfold getSw at hr
  have hC := fun w h => hC w n h hF
  clear hF
  generalize (kept n).toNatClampNeg = K at hk hC hW hr ⊢
  cases hs : b.sw K with
  | some r0 =>
    rw [hs] at hr
    have hr := Option.some.inj hr
    subst hr
    have hq : a.RW K = some (a.w K) := by rw [hok _ hk, hs]; rfl
    exact KE.of ((hC _ hq (swsW G a b.sw ++ Wr)).mono (fun v w q => swQ_C G a b og K _ Wr hok hs q.1 q.2)) rfl rfl (by decide)
  | none =>
    rw [hs] at hr
    cases hf : fX0_swelling_W b.ns b.nb b.ss b.SA b.SB b.SC b.SE b.bs b.BA b.BB b.BC b.BD b.LL b.GG n with
    | none => rw [hf] at hr; cases hr
    | some res =>
      rw [hf] at hr
      have hr := Option.some.inj hr
      subst hr
      have hq : a.RW K = none := by rw [hok _ hk, hs]; rfl
      refine KE.of ((hW hq res hf (swsW G a b.sw ++ Wr)).post (fun v w q => ?_)) rfl rfl (by decide)
      obtain ⟨nu, rfl, rfl⟩ := q
      exact swQ_W G a b og K hk (mkS res) Wr hok hs (nu 0) (nu 1)
