/-! growth(), not yet kept -/
def gloop : Nat → BCt → Int32 → (Nat → Int32) → Option (BCt × (Nat → Int32))
  | 0, b, _, CT => some (b, CT)
  | j + 1, b, n, CT => if b.fl < n then some (b, CT) else bd (getSw b n) (fun r => bd (fX7_total r.n r.BE) (fun t => gloop j (BCt.mc' b.kk b.gr (va_up b.sw (kept n).toNatClampNeg (some r))) (n + 1) (va_up CT n.toNatClampNeg t)))
def fgrow (b : BCt) : Option (Int32 × (Nat → Int32) × BCt) :=
  bd (gloop 3 b 1 (va_up (fun _ => 0) 0 1)) (fun x => bd (fX2_init 4 0 x.2 b.fl) (fun u => some (u.1, u.2, x.1)))
abbrev rX0_growth_n : Room := { frames := 6, cells := 10, slots := 260, locals := 160 }
/-- the post of a contract KM -/
def kmQ (G : GT) (A : Nat → Prop) (Q : Option Value → va_W → Prop) : Array Value → State → Outcome → State → Prop := fun _ st oc t => (∃ (v : Option Value) (w : va_W), oc = .returned v ∧ Q v w ∧ qW G A w t) ∧ va_F A st t
abbrev aset2 (a : BAd) (RW : Nat → Option Nat) (w wb : Nat → Nat) (o an : Nat) : BAd := (BAd.mc' a.kk RW o an w wb)
def growQ (G : GT) (a : BAd) (b : BCt) (res : Int32 × (Nat → Int32) × BCt) (Wr : va_W) : Option Value → va_W → Prop := fun v w => ∃ (RW : Nat → Option Nat) (w' wb' : Nat → Nat) (o an : Nat), bok (aset2 a RW w' wb' o an) res.2.2 ∧ v = some (.ref o) ∧ w = bcW G (aset2 a RW w' wb' o an) b (some o) ++ (grW G o an res.1 res.2.1 ++ (swsW G (aset2 a RW w' wb' o an) res.2.2.sw ++ Wr))
set_option maxHeartbeats 40000000 in
set_option maxRecDepth 100000 in
theorem KX0_growth (l : Launch) (G : GT) (a : BAd) (b : BCt) (hok : bok a b) (res : Int32 × (Nat → Int32) × BCt) (hF : fgrow b = some res) (Wr : va_W) :
    KM l yX0_growth wsX0_growth rX0_growth_n [.ref a.f] G (bcW G a b none ++ (swsW G a b.sw ++ Wr)) (growQ G a b res Wr) 10 260 := by
  intro sz
  show Met l _ _ _ _ (kmQ G (va_A (bcW G a b none ++ (swsW G a b.sw ++ Wr)) sz) (growQ G a b res Wr)) _ _ _
  refine Met.ofW (cc := cX0_growth) (maxL := 3) (ret := (some (.object "SwellBodies$Growth"))) (by decide) rfl ?_
  intro p e s m args below meth c s₁ B hml hv
  obtain ⟨rfl, ⟨hsz, hP, hK, hD0⟩, hN⟩ := hv
  have hx := B.exec
  have hb := B.bytes
  have hr := B.returns
  have hts := atoms_spec (ws := wsX0_growth) B.pre
  have hown : s.vm.findClass RX0 = some m.cls := findClass_of_methodNamed B.named
  have hlocks := B.notSynchronized
  subst hsz
  have hD := hD0.self (sz := s.heap.size)
  generalize hAe : va_A (bcW G a b none ++ (swsW G a b.sw ++ Wr)) s.heap.size = A at hD ⊢
  have hA : ∀ q : Nat, s.heap.size ≤ q → A q := fun q h => by rw [← hAe]; exact Or.inr h
  have hS : va_S A s.heap s.heap [] := va_S.rf
  have hin0 : ∀ w ∈ u_ws RX0 TX0 9, w ∈ wsX0_growth := by decide +kernel
  have hfl89 := hts (.fieldLink RX0 89 "SwellBodies$Body" "growth" "LSwellBodies$Growth;") (by decide +kernel)
  have hfl24 := hts (.fieldLink RX0 24 "SwellBodies$Body" "fills" "I") (by decide +kernel)
  have harrI := hts (.arrayClass .int) (by decide +kernel)
  have hin2 : ∀ w ∈ u_ws RX2 TX2 2, w ∈ wsX0_growth := by decide +kernel
  have hcl101 := hts (.classLink RX0 101 RX2) (by decide +kernel)
  have hins2 := hts (.instantiable RX2 2) (by decide +kernel)
  have hini2 := hts (.initialized RX2) (by decide +kernel)
  have him_X2_init := hts (.instanceMethod yX2_init) (by decide +kernel)
  have hml103 := hts (.methodLink RX0 103 yX2_init) (by decide +kernel)
  have hl := lv_entry ([.ref a.f]) (n := 3) (Nat.le_of_ble_eq_true rfl)
  rw [lg_entry_eq]
  generalize (lg_sl ([.ref a.f]) ++ List.replicate (3 - (lg_sl ([.ref a.f])).length) Slot.unset).toArray = ls at hl ⊢
  have hl : lv_has ls 3 [(0, .ref a.f)] := hl
  unfold fgrow at hF
  obtain ⟨x0, hx0, hF⟩ := bd_s hF
  obtain ⟨u0, hu0, hF⟩ := bd_s hF
  have hres := so_e hF
  subst hres
  refine lv_aload_n hx hb dX0_growth_0 rfl (lv_at hl 0 rfl) ?_
  refine va_get (ci := 0) (v := .null) (C := RX0) (T := TX0) (N := 9) hx hb hts hin0 hown hK hP 0 rfl rfl 8 (by decide) hfl89 (fun _ h9 => h9) rfl dX0_growth_1 ?_
  refine lv_ifnonnullN hx hb dX0_growth_4 ?_
  refine lv_iconst (v := 4) hx hb dX0_growth_7 (by decide) ?_
  refine nw_I (N' := 4) hx hb harrI hK hP hD hS hA (by decide) rfl (by omega) (Nat.le_of_ble_eq_true rfl) (Nat.le_of_ble_eq_true rfl) dX0_growth_8 (fun q H hP hD hS => ?_)
  refine lv_astore_n (lv' := [(1, .ref q), (0, .ref a.f)]) hx hb dX0_growth_10 rfl hl (by decide) rfl (fun ls hl => ?_)
  refine lv_aload_n hx hb dX0_growth_11 rfl (lv_at hl 0 rfl) ?_
  refine lv_iconst (v := 0) hx hb dX0_growth_12 (by decide) ?_
  refine lv_iconst (v := 1) hx hb dX0_growth_13 (by decide) ?_
  have pp : ∀ (a : BAd) (sw : Nat → Option SCt) (CT : Nat → Int32), ((q, (.inl (gI G, 4, .inl CT) : va_E)) :: (bcW G a b none ++ (swsW G a sw ++ Wr))).Perm (bcW G a b none ++ (swsW G a sw ++ ((q, .inl (gI G, 4, .inl CT)) :: Wr))) := by
    intro a sw CT
    exact fl_perm [bcW G a b none, swsW G a sw, [(q, (.inl (gI G, 4, .inl CT) : va_E))]] (is := [2, 0, 1]) (js := [0, 1, 2]) Wr (by decide)
  have hP : va_P (gD G) vwCl ((q, .inl (gI G, 4, .inl (fun _ => 0))) :: (bcW G a b none ++ (swsW G a b.sw ++ Wr))) H := vP_perm List.perm_append_comm hP
  have hD : va_D A ((q, .inl (gI G, 4, .inl (fun _ => 0))) :: (bcW G a b none ++ (swsW G a b.sw ++ Wr))) := vD_perm List.perm_append_comm hD
  refine va_iast hx hb hK hP hD hS 0 0 rfl rfl (by unfold vp_in; decide) dX0_growth_14 (fun H locs hP hD hS => ?_)
  have hP := vP_perm (pp a b.sw (va_up (fun _ => 0) 0 1)) hP
  have hD := vD_perm (pp a b.sw (va_up (fun _ => 0) 0 1)) hD
  refine lv_iconst (v := 1) hx hb dX0_growth_15 (by decide) ?_
  refine lv_istore_n (lv' := [(2, .int 1), (1, .ref q), (0, .ref a.f)]) hx hb dX0_growth_16 rfl hl (by decide) rfl (fun ls hl => ?_)
  -- the way out
  have out : ∀ (RW : Nat → Option Nat) (w wb : Nat → Nat) (sw : Nat → Option SCt) (n : Int32) (CT : Nat → Int32) (H : Heap) (locs : List Loc) (ls : Array Slot), bok (aset a RW w wb) (BCt.mc' b.kk b.gr sw) → x0 = ((BCt.mc' b.kk b.gr sw), CT) → va_P (gD G) vwCl (bcW G (aset a RW w wb) b none ++ (swsW G (aset a RW w wb) sw ++ ((q, .inl (gI G, 4, .inl CT)) :: Wr))) H → va_D A (bcW G (aset a RW w wb) b none ++ (swsW G (aset a RW w wb) sw ++ ((q, .inl (gI G, 4, .inl CT)) :: Wr))) → va_S A s.heap H locs → lv_has ls 3 [(2, .int n), (1, .ref q), (0, .ref a.f)] →
      W p l e (headSpec wsX0_growth rX0_growth_n).room s m ([.ref a.f] : List Value).toArray below meth c H locs 7 244 (MQ below (kmQ G A (growQ G a b (u0.1, u0.2, x0.1) Wr)) ([.ref a.f] : List Value).toArray s 10 260 A) (F0 m 47 ls []) := by
    intro RW w wb sw n CT H locs ls hok hx0 hP hD hS hl
    subst hx0
    refine lv_aload_n hx hb dX0_growth_47 rfl (lv_at hl 2 rfl) ?_
    refine va_new (ci := 2) (fs := [.null, .int 0]) (C := RX2) (T := TX2) (N := 2) hx hb hts hin2 tyX2 tyX2_ok hown hcl101 hins2 hini2 hK hP hD hS hA rfl (fun j hj => by rcases (show j = 0 ∨ j = 1 by omega) with rfl | rfl <;> rfl) (Nat.le_of_ble_eq_true rfl) (Nat.le_of_ble_eq_true rfl) dX0_growth_48 (fun o H hP hD hS => ?_)
    have p2 : ((bcW G (aset a RW w wb) b none ++ (swsW G (aset a RW w wb) sw ++ ((q, (.inl (gI G, 4, .inl CT) : va_E)) :: Wr))) ++ [(o, (.inr (2, [.null, .int 0]) : va_E))]).Perm ((o, .inr (2, [.null, .int 0])) :: (q, .inl (gI G, 4, .inl CT)) :: (bcW G (aset a RW w wb) b none ++ (swsW G (aset a RW w wb) sw ++ Wr))) :=
      List.perm_append_comm.trans (List.Perm.cons _ (pp _ _ _).symm)
    have hP := vP_perm p2 hP
    have hD := vD_perm p2 hD
    refine W.widen (k := 8) (n := 246) (by omega) (by omega) ?_
    refine lv_dup hx hb dX0_growth_51 rfl ?_
    refine lv_aload_n hx hb dX0_growth_52 rfl (lv_at hl 2 rfl) ?_
    refine va_get (ci := 0) (v := .int b.fl) (C := RX0) (T := TX0) (N := 9) hx hb hts hin0 hown hK hP 2 rfl rfl 0 (by decide) hfl24 (fun _ h9 => h9) rfl dX0_growth_53 ?_
    refine lv_aload_n hx hb dX0_growth_56 rfl (lv_at hl 1 rfl) ?_
    have hke : KE l yX2_init wsX2_init [.ref o, .int b.fl, .ref q] G ((o, .inr (2, [.null, .int 0])) :: (q, .inl (gI G, 4, .inl CT)) :: (bcW G (aset a RW w wb) b none ++ (swsW G (aset a RW w wb) sw ++ Wr))) _ 1 21 2 8 :=
      KE.of ((KM.of_nv (fun sz => kX2_init l G o q sz 4 0 CT b.fl u0 hu0)).frame (bcW G (aset a RW w wb) b none ++ (swsW G (aset a RW w wb) sw ++ Wr))) rfl rfl (by decide)
    refine ke_I (As := [.int b.fl, .ref q]) (rest := [.ref o, .ref a.f]) hke ⟨hx, hb, hml, hown, hts⟩ (fun rm mc ms h1 h2 h3 h4 => cwI 2 hts gX0_growth_X2_init rfl h1 h2 hini2 hml103 him_X2_init rfl (by decide +kernel) ⟨Nat.le_trans (Nat.add_le_add_right h3 1) (Nat.le_of_ble_eq_true rfl), Nat.le_trans (Nat.add_le_add_left h4 _) (Nat.le_of_ble_eq_true rfl)⟩) hK hN hP hD hS hA rfl hl.1 rfl (lv_room (Nat.le_of_ble_eq_true rfl)) dX0_growth_57 ⟨Nat.le_of_ble_eq_true rfl, Nat.le_of_ble_eq_true rfl⟩ (fun v w' H locs hQ hP hD hS => ?_)
    obtain ⟨w1, ⟨rfl, nu, rfl⟩, rfl⟩ := hQ
    refine W.widen (k := 10) (n := 260) (Nat.le_of_ble_eq_true rfl) (Nat.le_of_ble_eq_true rfl) ?_
    have p3 := fl_perm [[(o, (.inr (2, [.ref (nu 0), .int u0.1]) : va_E))], [(q, .inl (gI G, 4, .inl CT))], [((nu 0), .inl (gI G, 4, .inl u0.2))], bcW G (aset a RW w wb) b none, swsW G (aset a RW w wb) sw, Wr] (is := [0, 1, 2, 3, 4, 5]) (js := [3, 0, 2, 4, 5, 1]) [] (by decide)
    have hP : va_P (gD G) vwCl (bcW G (aset a RW w wb) b none ++ (grW G o (nu 0) u0.1 u0.2 ++ (swsW G (aset a RW w wb) sw ++ (Wr ++ [(q, .inl (gI G, 4, .inl CT))])))) H := vP_perm ((List.Perm.of_eq (by simp [fl])).trans p3) hP
    have hD : va_D A (bcW G (aset a RW w wb) b none ++ (grW G o (nu 0) u0.1 u0.2 ++ (swsW G (aset a RW w wb) sw ++ (Wr ++ [(q, .inl (gI G, 4, .inl CT))])))) := vD_perm ((List.Perm.of_eq (by simp [fl])).trans p3) hD
    refine va_put (ci := 0) (v := .ref o) (ty := .object "SwellBodies$Growth") (C := RX0) (T := TX0) (N := 9) hx hb hts hin0 tyX0 tyX0_ok nmX0 hown hK hP hD hS 0 rfl rfl 8 (by decide) hfl89 (fun _ h9 => h9) rfl (by decide +kernel) rfl rfl (Nat.le_of_ble_eq_true rfl) dX0_growth_60 (fun H locs hP hD hS => ?_)
    have hP : va_P (gD G) vwCl (bcW G (aset2 a RW w wb o (nu 0)) b (some o) ++ (grW G o (nu 0) u0.1 u0.2 ++ (swsW G (aset2 a RW w wb o (nu 0)) sw ++ (Wr ++ [(q, .inl (gI G, 4, .inl CT))])))) H := hP
    have hD : va_D A (bcW G (aset2 a RW w wb o (nu 0)) b (some o) ++ (grW G o (nu 0) u0.1 u0.2 ++ (swsW G (aset2 a RW w wb o (nu 0)) sw ++ (Wr ++ [(q, .inl (gI G, 4, .inl CT))])))) := hD
    refine lv_aload_n hx hb dX0_growth_63 rfl (lv_at hl 2 rfl) ?_
    refine va_get (ci := 0) (v := .ref o) (C := RX0) (T := TX0) (N := 9) hx hb hts hin0 hown hK hP 0 rfl rfl 8 (by decide) hfl89 (fun _ h9 => h9) rfl dX0_growth_64 ?_
    have ea : ∀ x : va_W, bcW G (aset2 a RW w wb o (nu 0)) b (some o) ++ (grW G o (nu 0) u0.1 u0.2 ++ (swsW G (aset2 a RW w wb o (nu 0)) sw ++ (Wr ++ x))) = (bcW G (aset2 a RW w wb o (nu 0)) b (some o) ++ (grW G o (nu 0) u0.1 u0.2 ++ (swsW G (aset2 a RW w wb o (nu 0)) sw ++ Wr))) ++ x := fun x => by simp
    rw [ea] at hP hD
    have hP := vP_pre hP
    have hD := vD_pre hD
    exact W.aret hx hb hr (Or.inl ⟨_, rfl⟩) (Or.inr ⟨_, rfl⟩) (fun t ht hW => ⟨⟨some (.ref o), _, rfl, ⟨RW, w, wb, o, nu 0, hok, rfl, rfl⟩, qW_mk ht hP hK hW hD⟩, hS.F ht⟩) hS.2.2 dX0_growth_67
  have loop : ∀ (j : Nat) (RW : Nat → Option Nat) (w wb : Nat → Nat) (sw : Nat → Option SCt) (n : Int32) (CT : Nat → Int32) (H : Heap) (locs : List Loc) (ls : Array Slot) (ce sl : Nat), n.toInt + j = 4 → j ≤ 3 → ce + 2 * j = 7 → sl + 80 * j = 244 → bok (aset a RW w wb) (BCt.mc' b.kk b.gr sw) → gloop j (BCt.mc' b.kk b.gr sw) n CT = some x0 → va_P (gD G) vwCl (bcW G (aset a RW w wb) b none ++ (swsW G (aset a RW w wb) sw ++ ((q, .inl (gI G, 4, .inl CT)) :: Wr))) H → va_D A (bcW G (aset a RW w wb) b none ++ (swsW G (aset a RW w wb) sw ++ ((q, .inl (gI G, 4, .inl CT)) :: Wr))) → va_S A s.heap H locs → lv_has ls 3 [(2, .int n), (1, .ref q), (0, .ref a.f)] →
      W p l e (headSpec wsX0_growth rX0_growth_n).room s m ([.ref a.f] : List Value).toArray below meth c H locs ce sl (MQ below (kmQ G A (growQ G a b (u0.1, u0.2, x0.1) Wr)) ([.ref a.f] : List Value).toArray s 10 260 A) (F0 m 17 ls []) := by
    intro j
    induction j with
    | zero =>
      intro RW w wb sw n CT H locs ls ce sl hn hj hce hsl hok hF hP hD hS hl
      have hF := so_e hF
      refine lv_iload_n hx hb dX0_growth_17 rfl (lv_at hl 0 rfl) ?_
      refine lv_aload_n hx hb dX0_growth_18 rfl (lv_at hl 2 rfl) ?_
      refine va_get (ci := 0) (v := .int b.fl) (C := RX0) (T := TX0) (N := 9) hx hb hts hin0 hown hK hP 0 rfl rfl 0 (by decide) hfl24 (fun _ h9 => h9) rfl dX0_growth_19 ?_
      refine lv_icmp_gt (tgt := 47) hx hb dX0_growth_22 (by decide) (fun c1 => ?_) (fun c1 => ?_)
      · exact W.widen (k := 7) (n := 244) (by omega) (by omega) (out RW w wb sw n CT H locs ls hok hF.symm hP hD hS hl)
      · refine lv_iload_n hx hb dX0_growth_25 rfl (lv_at hl 0 rfl) ?_
        refine lv_iconst (v := 4) hx hb dX0_growth_26 (by decide) ?_
        refine lv_icmp_ge (tgt := 47) hx hb dX0_growth_27 (by decide) (fun c2 => ?_) (fun c2 => ?_)
        · exact W.widen (k := 7) (n := 244) (by omega) (by omega) (out RW w wb sw n CT H locs ls hok hF.symm hP hD hS hl)
        · exact absurd (Int32.le_iff_toInt_le.mpr (by rw [show (4 : Int32).toInt = 4 from rfl]; omega)) c2
    | succ j ih =>
      intro RW w wb sw n CT H locs ls ce sl hn hj hce hsl hok hF hP hD hS hl
      rw [gloop] at hF
      refine lv_iload_n hx hb dX0_growth_17 rfl (lv_at hl 0 rfl) ?_
      refine lv_aload_n hx hb dX0_growth_18 rfl (lv_at hl 2 rfl) ?_
      refine va_get (ci := 0) (v := .int b.fl) (C := RX0) (T := TX0) (N := 9) hx hb hts hin0 hown hK hP 0 rfl rfl 0 (by decide) hfl24 (fun _ h9 => h9) rfl dX0_growth_19 ?_
      refine lv_icmp_gt (tgt := 47) hx hb dX0_growth_22 (by decide) (fun c1 => ?_) (fun c1 => ?_)
      · have hF := so_e (it_p c1 hF)
        exact W.widen (k := 7) (n := 244) (by omega) (by omega) (out RW w wb sw n CT H locs ls hok hF.symm hP hD hS hl)
      · have hF := it_n c1 hF
        refine lv_iload_n hx hb dX0_growth_25 rfl (lv_at hl 0 rfl) ?_
        refine lv_iconst (v := 4) hx hb dX0_growth_26 (by decide) ?_
        refine lv_icmp_ge (tgt := 47) hx hb dX0_growth_27 (by decide) (fun c2 => ?_) (fun c2 => ?_)
        · exfalso
          have c3 : (4 : Int32).toInt ≤ n.toInt := Int32.le_iff_toInt_le.mp c2
          rw [show (4 : Int32).toInt = 4 from rfl] at c3
          omega
        · obtain ⟨r, hr1, hF⟩ := bd_s hF
          obtain ⟨t1, ht1, hF⟩ := bd_s hF
          refine lv_aload_n hx hb dX0_growth_30 rfl (lv_at hl 1 rfl) ?_
          refine lv_iload_n hx hb dX0_growth_31 rfl (lv_at hl 0 rfl) ?_
          refine lv_aload_n hx hb dX0_growth_32 rfl (lv_at hl 2 rfl) ?_
          refine lv_iload_n hx hb dX0_growth_33 rfl (lv_at hl 0 rfl) ?_
          refine ke_V (q0 := 0) (As := [.int n]) (rest := [.int n, .ref q]) 0 (KE_sw l G (aset a RW w wb) (BCt.mc' b.kk b.gr sw) none n hok r hr1 ((q, .inl (gI G, 4, .inl CT)) :: Wr)) ⟨hx, hb, hml, hown, hts⟩ (fun rm mc ms h1 h2 h3 h4 => cwV 1 hts gX0_growth_X0_swelling rfl h1 h2 (by decide +kernel) ⟨Nat.le_trans (Nat.add_le_add_right h3 1) (Nat.le_of_ble_eq_true rfl), Nat.le_trans (Nat.add_le_add_left h4 _) (Nat.le_of_ble_eq_true rfl)⟩) hK hN hP hD hS hA rfl rfl rfl hl.1 rfl (lv_room (Nat.le_of_ble_eq_true rfl)) dX0_growth_34 ⟨by show ce + 2 ≤ 10; omega, by show sl + 80 ≤ 260; omega⟩ (fun v w2 H locs hQ hP hD hS => ?_)
          obtain ⟨RW', w', wb', hok', rfl, rfl⟩ := hQ
          have hk := kept_lt n
          have p4 := (List.Perm.append_right ((q, (.inl (gI G, 4, .inl CT) : va_E)) :: Wr) (sws_at G (aset a RW' w' wb') (va_up sw (kept n).toNatClampNeg (some r)) (kept n).toNatClampNeg hk r (va_up_s _ _ _)))
          have hPs := vP_perm ((List.perm_append_comm).trans (List.Perm.append_right _ p4)) hP
          refine ro_ie (va_runV (As := []) (rest := [.int n, .ref q]) ⟨hx, hb, hml, hown, hts⟩ (kX7_total l G (w' (kept n).toNatClampNeg) (wb' (kept n).toNatClampNeg) a.s a.b r.n r.fac r.lx r.gx r.ly r.gy r.lz r.gz r.lo r.hi r.BE t1 ht1) (cwV 0 hts gX0_growth_X7_total rfl rfl rfl (by decide +kernel) ⟨Nat.le_of_ble_eq_true rfl, Nat.le_of_ble_eq_true rfl⟩) (pvR (q0 := 0) 7 hK (hPs.sub (ws' := (wSwT G (w' (kept n).toNatClampNeg) (wb' (kept n).toNatClampNeg) a.s a.b r.n r.fac r.lx r.gx r.ly r.gy r.lz r.gz r.lo r.hi r.BE)) [0, 1] rfl) rfl rfl) rfl rfl hl.1 rfl (lv_room (Nat.le_of_ble_eq_true rfl)) dX0_growth_37 ⟨by show ce + 2 + 0 ≤ 10; omega, by show sl + 80 + 0 ≤ 260; omega⟩) ?_
          have hP := vP_perm (pp (aset a RW' w' wb') (va_up sw (kept n).toNatClampNeg (some r)) CT).symm hP
          have hD := vD_perm (pp (aset a RW' w' wb') (va_up sw (kept n).toNatClampNeg (some r)) CT).symm hD
          have hin : vp_in n 4 := by
            rintro (h | h)
            · have h : n.toInt < (0 : Int32).toInt := Int32.lt_iff_toInt_lt.mp h
              rw [show (0 : Int32).toInt = 0 from rfl] at h
              omega
            · rw [Int32.toNatClampNeg] at h
              omega
          refine va_iast hx hb hK hP hD hS 0 0 rfl rfl hin dX0_growth_40 (fun H locs hP hD hS => ?_)
          have hP := vP_perm (pp (aset a RW' w' wb') (va_up sw (kept n).toNatClampNeg (some r)) (va_up CT n.toNatClampNeg t1)) hP
          have hD := vD_perm (pp (aset a RW' w' wb') (va_up sw (kept n).toNatClampNeg (some r)) (va_up CT n.toNatClampNeg t1)) hD
          refine lv_iinc (v := n + 1) (lv' := [(2, .int (n + 1)), (1, .ref q), (0, .ref a.f)]) hx hb dX0_growth_41 hl (k := 0) rfl rfl (by decide) rfl (fun ls hl => ?_)
          refine lv_goto (tgt := 17) hx hb dX0_growth_44 (by decide) ?_
          exact ih RW' w' wb' (va_up sw (kept n).toNatClampNeg (some r)) (n + 1) (va_up CT n.toNatClampNeg t1) H locs ls (ce + 2) (sl + 80) (by rw [i32_succ (by omega) (by omega)]; omega) (by omega) (by omega) (by omega) hok' hF hP hD hS hl
  exact loop 3 a.RW a.w a.wb b.sw 1 (va_up (fun _ => 0) 0 1) H locs ls 1 4 rfl (by omega) (by omega) (by omega) hok hx0 hP hD hS hl
