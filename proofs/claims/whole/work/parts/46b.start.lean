/-! the objects of the law, made -/
def xi8 : Int32 × Int32 × (Nat → Int32) × Nat × (Nat → Int32) × (Nat → Int32) × Int32 × Int32 × Int32 × Int32 × Int32 × Int32 × Int32 × Int32 × Int32 × Int32 × Int32 × Int32 × Int32 × Int32 × Int32 × Int32 × Int32 × Int32 × Int32 × Int32 × Int32 × Int32 × Int32 × (Nat → Int64) × (Nat → Int64) × (Nat → Int64) × (Nat → Int64) × (Nat → Int32) × Nat × (Nat → Int32) × (Nat → Int32) × (Nat → Int32) × Nat × (Nat → Int32) × (Nat → Int32) × (Nat → Int32) × (Nat → Int32) × Nat × (Nat → Int32) × (Nat → Int32) × (Nat → Int32) := (0, 0, (fun _ => 0), 12, (fun _ => 0), (fun _ => 0), -1, 0, -1, 0, -1, 0, -1, 0, 0, 0, 0, 0, 0, 0, 0, 0, 0, 0, 0, 0, 0, 0, 0, (fun _ => 0), (fun _ => 0), (fun _ => 0), (fun _ => 0), (fun _ => 0), 121, (fun _ => 0), (fun _ => 0), (fun _ => 0), 80, (fun _ => 0), (fun _ => 0), (fun _ => 0), (fun _ => 0), 3, (fun _ => 0), (fun _ => 0), (fun _ => 0))
set_option maxRecDepth 20000 in
theorem x8i : fX8_init = some xi8 := rfl
def xi9 : (Nat → Int32) × (Nat → Int32) × (Nat → Int32) × (Nat → Int64) × (Nat → Int32) × (Nat → Int32) × (Nat → Int32) × (Nat → Int32) × (Nat → Int32) × (Nat → Int32) × (Nat → Int32) × (Nat → Int32) × (Nat → Int32) × (Nat → Int32) × (Nat → Int32) := ((fun _ => 0), (upd (upd (upd (upd (fun _ => 0) (0 : Int32).toNatClampNeg (-4)) (1 : Int32).toNatClampNeg (-4)) (2 : Int32).toNatClampNeg (-4)) (3 : Int32).toNatClampNeg (-4)), (fun _ => 0), (fun _ => 0), (fun _ => 0), (fun _ => 0), (fun _ => 0), (fun _ => 0), (fun _ => 0), (fun _ => 0), (fun _ => 0), (fun _ => 0), (fun _ => 0), (fun _ => 0), (fun _ => 0))
theorem x9i : fX9_init = some xi9 := rfl
def xC0 : XCt := XCt.mk' 0 0 0 0 0 0 0 0 0 0 0 0 0 0 0 0 0 0 (fun _ => 0) (fun _ => 0) (fun _ => 0) (fun _ => 0) (fun _ => 0) (fun _ => 0) (fun _ => 0) (fun _ => 0) (fun _ => 0) (fun _ => 0) (fun _ => 0) (fun _ => 0) (fun _ => 0) (fun _ => 0) (fun _ => -1) (fun _ => 0) (fun _ _ => 0) []
def mC0 : MCt := MCt.mk' 0 0 0 0 0 0 0 0 0 (fun _ => 0) (upd (upd (upd (upd (fun _ => 0) (0 : Int32).toNatClampNeg (-4)) (1 : Int32).toNatClampNeg (-4)) (2 : Int32).toNatClampNeg (-4)) (3 : Int32).toNatClampNeg (-4)) (fun _ => 0) (fun _ => 0) (fun _ => 0) (fun _ => 0) (fun _ => 0) (fun _ => 0) (fun _ => 0) (fun _ => 0) (fun _ => 0) (fun _ => 0) (fun _ => 0) (fun _ => 0) (fun _ => 0)
def xA0 (h0 : Nat) (nu : Nat → Nat) : XAd := XAd.mk' h0 (nu 0) (nu 4) (nu 5) (nu 6) (nu 1) (nu 2) (nu 3) (nu 11) (nu 22) (nu 23) (nu 24) (nu 12) (nu 25) (nu 26) (nu 27) (nu 28) (nu 13) (nu 29) (nu 30) (nu 31) (nu 32) (nu 14) (nu 15) (nu 16) (nu 17) (fun _ => none) (fun k => some (nu (7 + shI k))) (fun k => nu (7 + k)) (fun k => nu (18 + k)) []
def mA0 (h0 : Nat) (nu : Nat → Nat) : MAd := MAd.mk' h0 (nu 0) (nu 1) (nu 2) (nu 3) (nu 4) (nu 5) (nu 6) (nu 7) (nu 8) (nu 9) (nu 10) (nu 11) (nu 12) (nu 13) (nu 14)
theorem xok0 (h0 : Nat) (nu : Nat → Nat) : xok (xA0 h0 nu) xC0 := by
  refine ⟨rfl, Nat.zero_le _, rfl, fun _ => rfl, fun k a h => ?_, fun k a b h => ?_⟩
  · have h : ([] : List BAd)[k]? = some a := h
    simp at h
  · have h : ([] : List BAd)[k]? = some a := h
    simp at h
theorem vD_map {A : Nat → Prop} {ws ws' : va_W} (e : ws.map (fun q => q.1) = ws'.map (fun q => q.1)) (h : va_D A ws) : va_D A ws' := by
  have key : ∀ (i : Nat) (p : Nat × va_E), ws'[i]? = some p → ∃ q, ws[i]? = some q ∧ q.1 = p.1 := by
    intro i p hp
    have h1 : (ws'.map (fun q => q.1))[i]? = some p.1 := by rw [List.getElem?_map, hp]; rfl
    rw [← e, List.getElem?_map] at h1
    cases hq : ws[i]? with
    | none => rw [hq] at h1; cases h1
    | some q => rw [hq] at h1; exact ⟨q, rfl, Option.some.inj h1⟩
  refine ⟨fun i j p q hi hj ee => ?_, fun k q hk => ?_⟩
  · obtain ⟨p', a1, a2⟩ := key i p hi
    obtain ⟨q', b1, b2⟩ := key j q hj
    exact h.1 i j p' q' a1 b1 (by rw [a2, b2, ee])
  · obtain ⟨q', b1, b2⟩ := key k q hk
    rw [← b2]
    exact h.2 k q' b1
theorem vp_ext {cA : ClassId} {n : Nat} {f g : Nat → Option Nat} (h : ∀ j, j < n → f j = g j) : vp_cell cA (n, .inr (.inr (.inr (.inr f)))) = vp_cell cA (n, .inr (.inr (.inr (.inr g)))) := by
  show arrV cA n (fun j => va_rf (f j)) = arrV cA n (fun j => va_rf (g j))
  unfold arrV
  congr 1
  refine congrArg _ (funext fun j => ?_)
  show va_rf (f j.val) = va_rf (g j.val)
  rw [h j.val j.isLt]
theorem vP_swap {D : va_G} {cl : List vw_C} {p r : va_W} {x y : Nat × va_E} {H : Heap} (h : va_P D cl (p ++ x :: r) H) (hxy : va_at D cl x H → va_at D cl y H) : va_P D cl (p ++ y :: r) H := by
  refine vP_iff.mpr fun q hq => ?_
  rcases List.mem_append.mp hq with h1 | h1
  · exact vP_iff.mp h q (List.mem_append_left _ h1)
  · rcases List.mem_cons.mp h1 with rfl | h1
    · exact hxy (vP_iff.mp h x (List.mem_append_right _ List.mem_cons_self))
    · exact vP_iff.mp h q (List.mem_append_right _ (List.mem_cons_of_mem _ h1))
theorem KM.post3 {l : Launch} {y : MethodName} {ws : List Cond} {rm : Room} {av : List Value} {G : GT} {wc : va_W} {Q Q' : Option Value → va_W → Prop} {mc ms : Nat} (h : KM l y ws rm av G wc Q mc ms) (hQ : ∀ v w, Q v w → ∃ w', Q' v w' ∧ (∀ H, va_P (gD G) vwCl w H → va_P (gD G) vwCl w' H) ∧ (∀ A, va_D A w → va_D A w')) : KM l y ws rm av G wc Q' mc ms := fun sz =>
  metMono (h sz) (fun _ _ h => h) (fun a s o t _ _ q => by
    obtain ⟨⟨v, w, h1, h2, hP, hK, hD⟩, h4⟩ := q
    obtain ⟨w', h5, h6, h7⟩ := hQ v w h2
    exact ⟨⟨v, w', h1, h5, h6 _ hP, hK, h7 _ hD⟩, h4⟩) (fun _ h => h)
def w8B (G : GT) (h0 : Nat) (nu : Nat → Nat) : List va_W := [(h0, .inr (8, [.ref (nu 0), .ref (nu 1), .ref (nu 2), .ref (nu 3), .int 0]))] :: [((nu 0), .inr (4, [.ref (nu 4), .ref (nu 5), .ref (nu 6), .int (0)]))] :: [((nu 1), .inl (gS G, 4, .inr (.inr (.inr (.inr (fun k => some (nu (7 + shI k))))))))] :: [((nu 2), .inl (gB G, 8, .inr (.inr (.inr (.inr (fun _ => none))))))] :: [((nu 3), .inr (3, [.ref (nu 11), .ref (nu 12), .ref (nu 13), .ref (nu 14), .ref (nu 15), .ref (nu 16), .ref (nu 17), .int (0)]))] :: [((nu 4), .inl (gI G, (12), .inl (fun _ => 0)))] :: [((nu 5), .inl (gI G, (12), .inl (fun _ => 0)))] :: [((nu 6), .inl (gI G, (12), .inl (fun _ => 0)))] :: [((nu 7), .inr (5, [.ref (nu 18), .int (-1), .int (0)]))] :: [((nu 8), .inr (5, [.ref (nu 19), .int (-1), .int (0)]))] :: [((nu 9), .inr (5, [.ref (nu 20), .int (-1), .int (0)]))] :: [((nu 10), .inr (5, [.ref (nu 21), .int (-1), .int (0)]))] :: [((nu 11), .inr (4, [.ref (nu 22), .ref (nu 23), .ref (nu 24), .int (0)]))] :: [((nu 12), .inr (1, [.ref (nu 25), .ref (nu 26), .ref (nu 27), .ref (nu 28), .int (0)]))] :: [((nu 13), .inr (1, [.ref (nu 29), .ref (nu 30), .ref (nu 31), .ref (nu 32), .int (0)]))] :: [((nu 14), .inr (6, [.int (0), .int (0), .int (0)]))] :: [((nu 15), .inr (6, [.int (0), .int (0), .int (0)]))] :: [((nu 16), .inr (6, [.int (0), .int (0), .int (0)]))] :: [((nu 17), .inr (6, [.int (0), .int (0), .int (0)]))] :: [((nu 18), .inl (gJ G, 36, .inr (.inl (fun _ => 0))))] :: [((nu 19), .inl (gJ G, 36, .inr (.inl (fun _ => 0))))] :: [((nu 20), .inl (gJ G, 36, .inr (.inl (fun _ => 0))))] :: [((nu 21), .inl (gJ G, 36, .inr (.inl (fun _ => 0))))] :: [((nu 22), .inl (gI G, (121), .inl (fun _ => 0)))] :: [((nu 23), .inl (gI G, (121), .inl (fun _ => 0)))] :: [((nu 24), .inl (gI G, (121), .inl (fun _ => 0)))] :: [((nu 25), .inl (gI G, (80), .inl (fun _ => 0)))] :: [((nu 26), .inl (gI G, (80), .inl (fun _ => 0)))] :: [((nu 27), .inl (gI G, (80), .inl (fun _ => 0)))] :: [((nu 28), .inl (gI G, (80), .inl (fun _ => 0)))] :: [((nu 29), .inl (gI G, (3), .inl (fun _ => 0)))] :: [((nu 30), .inl (gI G, (3), .inl (fun _ => 0)))] :: [((nu 31), .inl (gI G, (3), .inl (fun _ => 0)))] :: [((nu 32), .inl (gI G, (3), .inl (fun _ => 0)))] :: []
set_option maxRecDepth 20000 in
set_option maxHeartbeats 4000000 in
theorem KX8_init0 (l : Launch) (G : GT) (h0 : Nat) : KM l yX8_init wsX8_init rX8_init [.ref h0] G [(h0, .inr (8, [.null, .null, .null, .null, .int 0]))] (fun v w => v = none ∧ ∃ nu, w = xW G (xA0 h0 nu) xC0) 60 2600 := by
  refine KM.post3 (KM.of_xv (fun sz => kX8_init l G h0 sz 0 xi8 x8i)) (fun v w q => ?_)
  obtain ⟨rfl, nu, rfl⟩ := q
  have p : (fl (w8B G h0 nu) [0, 1, 2, 3, 4, 5, 6, 7, 8, 9, 10, 11, 12, 13, 14, 15, 16, 17, 18, 19, 20, 21, 22, 23, 24, 25, 26, 27, 28, 29, 30, 31, 32, 33] []).Perm (xW G (xA0 h0 nu) xC0) :=
    (fl_perm (w8B G h0 nu) (is := [0, 1, 2, 3, 4, 5, 6, 7, 8, 9, 10, 11, 12, 13, 14, 15, 16, 17, 18, 19, 20, 21, 22, 23, 24, 25, 26, 27, 28, 29, 30, 31, 32, 33]) (js := [0, 1, 5, 6, 7, 2, 3, 4, 12, 23, 24, 25, 13, 26, 27, 28, 29, 14, 30, 31, 32, 33, 15, 16, 17, 18, 8, 19, 9, 20, 10, 21, 11, 22]) [] (by decide +kernel)).trans (.of_eq rfl)
  refine ⟨_, ⟨rfl, nu, rfl⟩, fun H hP => vP_perm p ?_, fun A hD => vD_perm p (vD_map ?_ hD)⟩
  · refine vP_swap (p := ((h0, .inr (8, [.ref (nu 0), .ref (nu 1), .ref (nu 2), .ref (nu 3), .int 0])) :: ((nu 0), .inr (4, [.ref (nu 4), .ref (nu 5), .ref (nu 6), .int (0)])) :: [])) (x := ((nu 1), .inl (gS G, 4, .inr (.inr (.inr (.inr (va_up (va_up (va_up (va_up (fun _ => none) (0 : Int32).toNatClampNeg (some (nu 7))) (1 : Int32).toNatClampNeg (some (nu 8))) (2 : Int32).toNatClampNeg (some (nu 9))) (3 : Int32).toNatClampNeg (some (nu 10))))))))) (y := ((nu 1), .inl (gS G, 4, .inr (.inr (.inr (.inr (fun k => some (nu (7 + shI k))))))))) (r := (((nu 2), .inl (gB G, 8, .inr (.inr (.inr (.inr (fun _ => none)))))) :: ((nu 3), .inr (3, [.ref (nu 11), .ref (nu 12), .ref (nu 13), .ref (nu 14), .ref (nu 15), .ref (nu 16), .ref (nu 17), .int (0)])) :: ((nu 4), .inl (gI G, (12), .inl (fun _ => 0))) :: ((nu 5), .inl (gI G, (12), .inl (fun _ => 0))) :: ((nu 6), .inl (gI G, (12), .inl (fun _ => 0))) :: ((nu 7), .inr (5, [.ref (nu 18), .int (-1), .int (0)])) :: ((nu 8), .inr (5, [.ref (nu 19), .int (-1), .int (0)])) :: ((nu 9), .inr (5, [.ref (nu 20), .int (-1), .int (0)])) :: ((nu 10), .inr (5, [.ref (nu 21), .int (-1), .int (0)])) :: ((nu 11), .inr (4, [.ref (nu 22), .ref (nu 23), .ref (nu 24), .int (0)])) :: ((nu 12), .inr (1, [.ref (nu 25), .ref (nu 26), .ref (nu 27), .ref (nu 28), .int (0)])) :: ((nu 13), .inr (1, [.ref (nu 29), .ref (nu 30), .ref (nu 31), .ref (nu 32), .int (0)])) :: ((nu 14), .inr (6, [.int (0), .int (0), .int (0)])) :: ((nu 15), .inr (6, [.int (0), .int (0), .int (0)])) :: ((nu 16), .inr (6, [.int (0), .int (0), .int (0)])) :: ((nu 17), .inr (6, [.int (0), .int (0), .int (0)])) :: ((nu 18), .inl (gJ G, 36, .inr (.inl (fun _ => 0)))) :: ((nu 19), .inl (gJ G, 36, .inr (.inl (fun _ => 0)))) :: ((nu 20), .inl (gJ G, 36, .inr (.inl (fun _ => 0)))) :: ((nu 21), .inl (gJ G, 36, .inr (.inl (fun _ => 0)))) :: ((nu 22), .inl (gI G, (121), .inl (fun _ => 0))) :: ((nu 23), .inl (gI G, (121), .inl (fun _ => 0))) :: ((nu 24), .inl (gI G, (121), .inl (fun _ => 0))) :: ((nu 25), .inl (gI G, (80), .inl (fun _ => 0))) :: ((nu 26), .inl (gI G, (80), .inl (fun _ => 0))) :: ((nu 27), .inl (gI G, (80), .inl (fun _ => 0))) :: ((nu 28), .inl (gI G, (80), .inl (fun _ => 0))) :: ((nu 29), .inl (gI G, (3), .inl (fun _ => 0))) :: ((nu 30), .inl (gI G, (3), .inl (fun _ => 0))) :: ((nu 31), .inl (gI G, (3), .inl (fun _ => 0))) :: ((nu 32), .inl (gI G, (3), .inl (fun _ => 0))) :: [])) hP (fun h => ?_)
    have h : H[nu 1]? = some (vp_cell (gS G) (4, _)) := h
    show H[nu 1]? = some (vp_cell (gS G) (4, _))
    rw [h]
    exact congrArg some (vp_ext (fun j hj => by
      rcases (show j = 0 ∨ j = 1 ∨ j = 2 ∨ j = 3 by omega) with rfl | rfl | rfl | rfl <;> rfl))
  · rfl
theorem KX9_init0 (l : Launch) (G : GT) (h0 : Nat) : KM l yX9_init wsX9_init rX9_init [.ref h0] G [(h0, .inr (9, [.int 0, .null, .null, .null, .null, .int 0, .null, .null, .null, .null, .null, .null, .null, .int 0, .null, .null, .null, .int 0, .int 0, .int 0, .null, .int 0, .int 0, .int 0]))] (fun v w => v = none ∧ ∃ nu, w = mW G (mA0 h0 nu) mC0) 15 4600 := by
  refine KM.mono (KM.of_nv (fun sz => kX9_init l G h0 sz 0 0 0 0 0 0 0 0 0 xi9 x9i)) (fun v w q => ?_)
  obtain ⟨rfl, nu, rfl⟩ := q
  exact ⟨rfl, nu, rfl⟩
set_option maxRecDepth 20000 in
set_option maxHeartbeats 4000000 in
theorem law_start {p : Program} {e : Env} {s : State} {m : MethodId} {below : List Frame} {meth : Method} {c : Code} (l : Launch) {b L : Nat} {xs : Nat → Int32} (hL : L ≤ 3072) (C0 : lw_At p s m meth c b L xs) (Rl : XCt → MCt → Prop) (hR0 : Rl xC0 mC0) (hs : ∀ G, Sims l G Rl) : W p l e room_1 s m #[Value.ref b] below meth c s.heap [] 0 0 (lw_Z below #[Value.ref b] s) (entryFrame m ([Value.ref b] : List Value).toArray 4) := by
  have C1 := C0
  obtain ⟨hx, hb, hr, hml, hown, hts, hX, hbl, hlocks, -⟩ := C0
  obtain ⟨G, hK⟩ := law_hK hts
  have hN := law_gN hts
  have hA : ∀ q : Nat, s.heap.size ≤ q → nwA s q := fun _ h => h
  have hS : va_S (nwA s) s.heap s.heap [] := va_S.rf
  have hP : va_P (gD G) vwCl [] s.heap := fun k q hk => by simp at hk
  have hD : va_D (nwA s) [] := ⟨fun i j p q hi => by simp at hi, fun k q hk => by simp at hk⟩
  have hl := lv_entry ([.ref b]) (n := 4) (Nat.le_of_ble_eq_true rfl)
  rw [lg_entry_eq]
  generalize (lg_sl ([.ref b]) ++ List.replicate (4 - (lg_sl ([.ref b])).length) Slot.unset).toArray = ls at hl ⊢
  have hl : lv_has ls 4 [(0, .ref b)] := hl
  refine va_new (ci := 8) (fs := [.null, .null, .null, .null, .int 0]) (C := RX8) (T := TX8) (N := 5) hx hb hts wl_c8 tyX8 tyX8_ok hown (hts (.classLink RL 7 RX8) (by decide +kernel)) (hts (.instantiable RX8 5) (by decide +kernel)) (hts (.initialized RX8) (by decide +kernel)) hK hP hD hS hA rfl (fun j hj => by rcases (show j = 0 ∨ j = 1 ∨ j = 2 ∨ j = 3 ∨ j = 4 by omega) with rfl | rfl | rfl | rfl | rfl <;> rfl) (Nat.le_of_ble_eq_true rfl) (Nat.le_of_ble_eq_true rfl) dL_law_0 (fun q H hP hD hS => ?_)
  refine W.widen (k := 10) (n := 100) (Nat.le_of_ble_eq_true rfl) (Nat.le_of_ble_eq_true rfl) ?_
  refine lv_dup hx hb dL_law_3 rfl ?_
  refine ke_I (As := []) (rest := [.ref q]) (KE.of (KX8_init0 l G q) rfl rfl (fr := 3) (lo := 63) (ce := 60) (sl := 2600) (by decide)) ⟨hx, hb, hml, hown, hts⟩ (fun rm mc ms h1 h2 h3 h4 => cwI 0 hts gT_X8_init rfl h1 h2 (hts (.initialized RX8) (by decide +kernel)) (hts (.methodLink RL 9 yX8_init) (by decide +kernel)) (hts (.instanceMethod yX8_init) (by decide +kernel)) rfl (by decide +kernel) ⟨Nat.le_trans (Nat.add_le_add_right h3 1) (Nat.le_of_ble_eq_true rfl), Nat.le_trans (Nat.add_le_add_left h4 _) (Nat.le_of_ble_eq_true rfl)⟩) hK hN hP hD hS hA rfl hl.1 rfl (lv_room (Nat.le_of_ble_eq_true rfl)) dL_law_4 ⟨Nat.le_of_ble_eq_true rfl, Nat.le_of_ble_eq_true rfl⟩ (fun v w H locs hQ hP hD hS => ?_)
  obtain ⟨rfl, nu, rfl⟩ := hQ
  refine lv_astore_n (lv' := [(1, .ref q), (0, .ref b)]) hx hb dL_law_7 rfl hl (by decide) rfl (fun ls hl => ?_)
  refine va_new (ci := 9) (fs := [.int 0, .null, .null, .null, .null, .int 0, .null, .null, .null, .null, .null, .null, .null, .int 0, .null, .null, .null, .int 0, .int 0, .int 0, .null, .int 0, .int 0, .int 0]) (C := RX9) (T := TX9) (N := 24) hx hb hts wl_c9 tyX9 tyX9_ok hown (hts (.classLink RL 10 RX9) (by decide +kernel)) (hts (.instantiable RX9 24) (by decide +kernel)) (hts (.initialized RX9) (by decide +kernel)) hK hP hD hS hA rfl (fun j hj => by rcases (show j = 0 ∨ j = 1 ∨ j = 2 ∨ j = 3 ∨ j = 4 ∨ j = 5 ∨ j = 6 ∨ j = 7 ∨ j = 8 ∨ j = 9 ∨ j = 10 ∨ j = 11 ∨ j = 12 ∨ j = 13 ∨ j = 14 ∨ j = 15 ∨ j = 16 ∨ j = 17 ∨ j = 18 ∨ j = 19 ∨ j = 20 ∨ j = 21 ∨ j = 22 ∨ j = 23 by omega) with rfl | rfl | rfl | rfl | rfl | rfl | rfl | rfl | rfl | rfl | rfl | rfl | rfl | rfl | rfl | rfl | rfl | rfl | rfl | rfl | rfl | rfl | rfl | rfl <;> rfl) (Nat.le_of_ble_eq_true rfl) (Nat.le_of_ble_eq_true rfl) dL_law_8 (fun q2 H hP hD hS => ?_)
  have hP := vP_perm List.perm_append_comm hP
  have hD := vD_perm List.perm_append_comm hD
  refine W.widen (k := 80) (n := 2800) (Nat.le_of_ble_eq_true rfl) (Nat.le_of_ble_eq_true rfl) ?_
  refine lv_dup hx hb dL_law_11 rfl ?_
  refine ke_I (As := []) (rest := [.ref q2]) (KE.of ((KX9_init0 l G q2).frame (xW G (xA0 q nu) xC0)) rfl rfl (fr := 1) (lo := 20) (ce := 15) (sl := 4600) (by decide)) ⟨hx, hb, hml, hown, hts⟩ (fun rm mc ms h1 h2 h3 h4 => cwI 0 hts gT_X9_init rfl h1 h2 (hts (.initialized RX9) (by decide +kernel)) (hts (.methodLink RL 12 yX9_init) (by decide +kernel)) (hts (.instanceMethod yX9_init) (by decide +kernel)) rfl (by decide +kernel) ⟨Nat.le_trans (Nat.add_le_add_right h3 1) (Nat.le_of_ble_eq_true rfl), Nat.le_trans (Nat.add_le_add_left h4 _) (Nat.le_of_ble_eq_true rfl)⟩) hK hN hP hD hS hA rfl hl.1 rfl (lv_room (Nat.le_of_ble_eq_true rfl)) dL_law_12 ⟨Nat.le_of_ble_eq_true rfl, Nat.le_of_ble_eq_true rfl⟩ (fun v w H locs hQ hP hD hS => ?_)
  obtain ⟨w1, ⟨rfl, nu2, rfl⟩, rfl⟩ := hQ
  have hP := vP_perm List.perm_append_comm hP
  have hD := vD_perm List.perm_append_comm hD
  refine lv_astore_n (lv' := [(2, .ref q2), (1, .ref q), (0, .ref b)]) hx hb dL_law_15 rfl hl (by decide) rfl (fun ls hl => ?_)
  refine lv_iconst (v := 0) hx hb dL_law_16 (by decide) ?_
  refine lv_istore_n (lv' := [(3, .int 0), (2, .ref q2), (1, .ref q), (0, .ref b)]) hx hb dL_law_17 rfl hl (by decide) rfl (fun ls hl => ?_)
  refine W.widen (k := 1000) (n := 10000) (Nat.le_of_ble_eq_true rfl) (Nat.le_of_ble_eq_true rfl) ?_
  exact law_loop l C1 hK hN hL (hs G) (D := mA0 q2 nu2) 512 (xA0 q nu) xC0 mC0 H locs 0 1000 10000 ls (by decide) (by show (0 : Int32).toInt ≤ _; rw [show (0 : Int32).toInt = 0 from rfl]; omega) (by rw [show (0 : Int32).toInt = 0 from rfl]; omega) (by omega) (by have := rm_big; omega) (xok0 q nu) hR0 hP hD hS hl
