/-! the law's calls: one step of class and reference alike -/
def SimI (l : Launch) (G : GT) (Rl : XCt → MCt → Prop) (A : XAd) (C : XCt) (D : MAd) (M : MCt) (yx : MethodName) (wx : List Cond) (ym : MethodName) (wm : List Cond) (as : List Value) : Prop :=
  ∃ (r : Int32) (M' : MCt), XK l yx wx (.ref A.h :: as) G A C (.int r) (fun C' => Rl C' M') ∧ MK l ym wm (.ref D.h :: as) G D M (.int r) M'
def SimL (l : Launch) (G : GT) (Rl : XCt → MCt → Prop) (A : XAd) (C : XCt) (D : MAd) (M : MCt) (yx : MethodName) (wx : List Cond) (ym : MethodName) (wm : List Cond) (as : List Value) : Prop :=
  ∃ (r : Int64) (M' : MCt), XK l yx wx (.ref A.h :: as) G A C (.long r) (fun C' => Rl C' M') ∧ MK l ym wm (.ref D.h :: as) G D M (.long r) M'
/-- new cells only -/
def nwA (s : State) : Nat → Prop := fun q => s.heap.size ≤ q
theorem lw_in {i : Int32} {L : Nat} (h0 : 0 ≤ i.toInt) (h1 : i.toInt + 6 ≤ L) (h2 : L ≤ 3072) (k : Int32) (hk : 0 ≤ k.toInt ∧ k.toInt ≤ 5) : vp_in (i + k) L := by
  have e : (i + k).toInt = i.toInt + k.toInt := by
    rw [Int32.toInt_add]
    simp only [Int.bmod]
    split <;> omega
  rintro (h | h)
  · have h : (i + k).toInt < (0 : Int32).toInt := Int32.lt_iff_toInt_lt.mp h
    rw [show (0 : Int32).toInt = 0 from rfl] at h
    omega
  · rw [Int32.toNatClampNeg] at h
    omega
set_option maxRecDepth 20000 in
set_option maxHeartbeats 4000000 in
theorem lc_corner {p : Program} {e : Env} {s : State} {m : MethodId} {below : List Frame} {meth : Method} {c : Code} (l : Launch) {b L : Nat} {xs : Nat → Int32} {G : GT} {Rl : XCt → MCt → Prop} (C0 : lw_At p s m meth c b L xs) (hK : va_K (gD G) vwCl (gT G) s) (hN : gN s) {Q : State → Prop} {A : XAd} {C : XCt} {D : MAd} {M : MCt} {H : Heap} {locs : List Loc} {i : Int32} {cells slots : Nat} {ls : Array Slot} (hi : 0 ≤ i.toInt ∧ i.toInt + 6 ≤ L ∧ L ≤ 3072) (hP : va_P (gD G) vwCl (xW G A C ++ mW G D M) H) (hD : va_D (nwA s) (xW G A C ++ mW G D M)) (hS : va_S (nwA s) s.heap H locs) (hl : lv_has ls 4 [(3, .int i), (2, .ref D.h), (1, .ref A.h), (0, .ref b)]) (hce : cells + 100 ≤ 600000) (hsl : slots + 4400 ≤ room_1.slots) (hsim : SimI l G Rl A C D M yX8_corner wsX8_corner yX9_corner wsX9_corner [.int (xs (i + 1).toNatClampNeg), .int (xs (i + 2).toNatClampNeg), .int (xs (i + 3).toNatClampNeg)])
    (kk : ∀ (A' : XAd) (C' : XCt) (M' : MCt) (H1 : Heap) (locs1 : List Loc), A'.h = A.h → xok A' C' → Rl C' M' → va_P (gD G) vwCl (xW G A' C' ++ mW G D M') H1 → va_D (nwA s) (xW G A' C' ++ mW G D M') → va_S (nwA s) s.heap H1 locs1 → W p l e room_1 s m #[Value.ref b] below meth c H1 locs1 (cells + 100) (slots + 4400) Q (F0 m 1224 ls [])) : W p l e room_1 s m #[Value.ref b] below meth c H locs cells slots Q (F0 m 156 ls []) := by
  obtain ⟨hx, hb, hr, hml, hown, hts, hX, hbl, hlocks, -⟩ := C0
  obtain ⟨r, M', hXK, hMK⟩ := hsim
  have hown : s.vm.findClass RL = some m.cls := hown
  have hA : ∀ q : Nat, s.heap.size ≤ q → nwA s q := fun _ h => h
  have hbA : ¬ nwA s b := Nat.not_le.mpr hbl
  refine lv_aload_n hx hb dL_law_156 rfl (lv_at hl 2 rfl) ?_
  refine lv_aload_n hx hb dL_law_157 rfl (lv_at hl 3 rfl) ?_
  refine lv_iload_n hx hb dL_law_158 rfl (lv_at hl 0 rfl) ?_
  refine lv_iconst (v := 1) hx hb dL_law_159 (by decide) ?_
  refine lv_iadd hx hb dL_law_160 ?_
  refine va_sld hx hb hX hbl hbA hS (lw_in hi.1 hi.2.1 hi.2.2 1 (by decide)) dL_law_161 ?_
  refine lv_aload_n hx hb dL_law_162 rfl (lv_at hl 3 rfl) ?_
  refine lv_iload_n hx hb dL_law_163 rfl (lv_at hl 0 rfl) ?_
  refine lv_iconst (v := 2) hx hb dL_law_164 (by decide) ?_
  refine lv_iadd hx hb dL_law_165 ?_
  refine va_sld hx hb hX hbl hbA hS (lw_in hi.1 hi.2.1 hi.2.2 2 (by decide)) dL_law_166 ?_
  refine lv_aload_n hx hb dL_law_167 rfl (lv_at hl 3 rfl) ?_
  refine lv_iload_n hx hb dL_law_168 rfl (lv_at hl 0 rfl) ?_
  refine lv_iconst (v := 3) hx hb dL_law_169 (by decide) ?_
  refine lv_iadd hx hb dL_law_170 ?_
  refine va_sld hx hb hX hbl hbA hS (lw_in hi.1 hi.2.1 hi.2.2 3 (by decide)) dL_law_171 ?_
  refine ke_V (q := (RX8, TX8, 5)) (q0 := 0) (As := [.int (xs (i + 1).toNatClampNeg), .int (xs (i + 2).toNatClampNeg), .int (xs (i + 3).toNatClampNeg)]) (rest := []) 8 (hXK.frame (mW G D M)) ⟨hx, hb, hml, hown, hts⟩ (fun rm mc ms h1 h2 h3 h4 => cwV 3 hts gT_X8_corner rfl h1 h2 (by decide +kernel) ⟨Nat.le_trans (Nat.add_le_add_right h3 1) (Nat.le_of_ble_eq_true rfl), Nat.le_trans (Nat.add_le_add_left h4 _) (Nat.le_of_ble_eq_true rfl)⟩) hK hN hP hD hS hA rfl rfl rfl hl.1 rfl (lv_room (Nat.le_of_ble_eq_true rfl)) dL_law_172 ⟨by show cells + 50 ≤ 600000; omega, by show slots + 2200 ≤ room_1.slots; omega⟩ (fun v w H locs hQ hP hD hS => ?_)
  obtain ⟨w', ⟨rfl, A', C', hA', hR', hok', rfl⟩, rfl⟩ := hQ
  have hP := vP_perm List.perm_append_comm hP
  have hD := vD_perm List.perm_append_comm hD
  refine lv_aload_n hx hb dL_law_175 rfl (lv_at hl 1 rfl) ?_
  refine lv_aload_n hx hb dL_law_176 rfl (lv_at hl 3 rfl) ?_
  refine lv_iload_n hx hb dL_law_177 rfl (lv_at hl 0 rfl) ?_
  refine lv_iconst (v := 1) hx hb dL_law_178 (by decide) ?_
  refine lv_iadd hx hb dL_law_179 ?_
  refine va_sld hx hb hX hbl hbA hS (lw_in hi.1 hi.2.1 hi.2.2 1 (by decide)) dL_law_180 ?_
  refine lv_aload_n hx hb dL_law_181 rfl (lv_at hl 3 rfl) ?_
  refine lv_iload_n hx hb dL_law_182 rfl (lv_at hl 0 rfl) ?_
  refine lv_iconst (v := 2) hx hb dL_law_183 (by decide) ?_
  refine lv_iadd hx hb dL_law_184 ?_
  refine va_sld hx hb hX hbl hbA hS (lw_in hi.1 hi.2.1 hi.2.2 2 (by decide)) dL_law_185 ?_
  refine lv_aload_n hx hb dL_law_186 rfl (lv_at hl 3 rfl) ?_
  refine lv_iload_n hx hb dL_law_187 rfl (lv_at hl 0 rfl) ?_
  refine lv_iconst (v := 3) hx hb dL_law_188 (by decide) ?_
  refine lv_iadd hx hb dL_law_189 ?_
  refine va_sld hx hb hX hbl hbA hS (lw_in hi.1 hi.2.1 hi.2.2 3 (by decide)) dL_law_190 ?_
  refine ke_V (q := (RX9, TX9, 24)) (q0 := 0) (As := [.int (xs (i + 1).toNatClampNeg), .int (xs (i + 2).toNatClampNeg), .int (xs (i + 3).toNatClampNeg)]) (rest := [.int r]) 9 (hMK.frame (xW G A' C')) ⟨hx, hb, hml, hown, hts⟩ (fun rm mc ms h1 h2 h3 h4 => cwV 3 hts gT_X9_corner rfl h1 h2 (by decide +kernel) ⟨Nat.le_trans (Nat.add_le_add_right h3 1) (Nat.le_of_ble_eq_true rfl), Nat.le_trans (Nat.add_le_add_left h4 _) (Nat.le_of_ble_eq_true rfl)⟩) hK hN hP hD hS hA rfl rfl rfl hl.1 rfl (lv_room (Nat.le_of_ble_eq_true rfl)) dL_law_191 ⟨by show cells + 50 + 50 ≤ 600000; omega, by show slots + 2200 + 2200 ≤ room_1.slots; omega⟩ (fun v w H locs hQ hP hD hS => ?_)
  obtain ⟨w', ⟨rfl, rfl⟩, rfl⟩ := hQ
  have hP := vP_perm List.perm_append_comm hP
  have hD := vD_perm List.perm_append_comm hD
  refine lv_icmp_eq (tgt := 1224) hx hb dL_law_194 (by decide) (fun _ => ?_) (fun cc => absurd rfl cc)
  exact W.widen (k := cells + 100) (n := slots + 4400) (by omega) (by omega) (kk A' C' M' H locs hA' hok' hR' hP hD hS)
set_option maxRecDepth 20000 in
set_option maxHeartbeats 4000000 in
theorem lc_sheaf {p : Program} {e : Env} {s : State} {m : MethodId} {below : List Frame} {meth : Method} {c : Code} (l : Launch) {b L : Nat} {xs : Nat → Int32} {G : GT} {Rl : XCt → MCt → Prop} (C0 : lw_At p s m meth c b L xs) (hK : va_K (gD G) vwCl (gT G) s) (hN : gN s) {Q : State → Prop} {A : XAd} {C : XCt} {D : MAd} {M : MCt} {H : Heap} {locs : List Loc} {i : Int32} {cells slots : Nat} {ls : Array Slot} (hi : 0 ≤ i.toInt ∧ i.toInt + 6 ≤ L ∧ L ≤ 3072) (hP : va_P (gD G) vwCl (xW G A C ++ mW G D M) H) (hD : va_D (nwA s) (xW G A C ++ mW G D M)) (hS : va_S (nwA s) s.heap H locs) (hl : lv_has ls 4 [(3, .int i), (2, .ref D.h), (1, .ref A.h), (0, .ref b)]) (hce : cells + 100 ≤ 600000) (hsl : slots + 4400 ≤ room_1.slots) (hsim : SimI l G Rl A C D M yX8_sheaf wsX8_sheaf yX9_sheaf wsX9_sheaf [.int (xs (i + 1).toNatClampNeg), .int (xs (i + 2).toNatClampNeg), .int (xs (i + 3).toNatClampNeg)])
    (kk : ∀ (A' : XAd) (C' : XCt) (M' : MCt) (H1 : Heap) (locs1 : List Loc), A'.h = A.h → xok A' C' → Rl C' M' → va_P (gD G) vwCl (xW G A' C' ++ mW G D M') H1 → va_D (nwA s) (xW G A' C' ++ mW G D M') → va_S (nwA s) s.heap H1 locs1 → W p l e room_1 s m #[Value.ref b] below meth c H1 locs1 (cells + 100) (slots + 4400) Q (F0 m 1224 ls [])) : W p l e room_1 s m #[Value.ref b] below meth c H locs cells slots Q (F0 m 199 ls []) := by
  obtain ⟨hx, hb, hr, hml, hown, hts, hX, hbl, hlocks, -⟩ := C0
  obtain ⟨r, M', hXK, hMK⟩ := hsim
  have hown : s.vm.findClass RL = some m.cls := hown
  have hA : ∀ q : Nat, s.heap.size ≤ q → nwA s q := fun _ h => h
  have hbA : ¬ nwA s b := Nat.not_le.mpr hbl
  refine lv_aload_n hx hb dL_law_199 rfl (lv_at hl 2 rfl) ?_
  refine lv_aload_n hx hb dL_law_200 rfl (lv_at hl 3 rfl) ?_
  refine lv_iload_n hx hb dL_law_201 rfl (lv_at hl 0 rfl) ?_
  refine lv_iconst (v := 1) hx hb dL_law_202 (by decide) ?_
  refine lv_iadd hx hb dL_law_203 ?_
  refine va_sld hx hb hX hbl hbA hS (lw_in hi.1 hi.2.1 hi.2.2 1 (by decide)) dL_law_204 ?_
  refine lv_aload_n hx hb dL_law_205 rfl (lv_at hl 3 rfl) ?_
  refine lv_iload_n hx hb dL_law_206 rfl (lv_at hl 0 rfl) ?_
  refine lv_iconst (v := 2) hx hb dL_law_207 (by decide) ?_
  refine lv_iadd hx hb dL_law_208 ?_
  refine va_sld hx hb hX hbl hbA hS (lw_in hi.1 hi.2.1 hi.2.2 2 (by decide)) dL_law_209 ?_
  refine lv_aload_n hx hb dL_law_210 rfl (lv_at hl 3 rfl) ?_
  refine lv_iload_n hx hb dL_law_211 rfl (lv_at hl 0 rfl) ?_
  refine lv_iconst (v := 3) hx hb dL_law_212 (by decide) ?_
  refine lv_iadd hx hb dL_law_213 ?_
  refine va_sld hx hb hX hbl hbA hS (lw_in hi.1 hi.2.1 hi.2.2 3 (by decide)) dL_law_214 ?_
  refine ke_V (q := (RX8, TX8, 5)) (q0 := 0) (As := [.int (xs (i + 1).toNatClampNeg), .int (xs (i + 2).toNatClampNeg), .int (xs (i + 3).toNatClampNeg)]) (rest := []) 8 (hXK.frame (mW G D M)) ⟨hx, hb, hml, hown, hts⟩ (fun rm mc ms h1 h2 h3 h4 => cwV 3 hts gT_X8_sheaf rfl h1 h2 (by decide +kernel) ⟨Nat.le_trans (Nat.add_le_add_right h3 1) (Nat.le_of_ble_eq_true rfl), Nat.le_trans (Nat.add_le_add_left h4 _) (Nat.le_of_ble_eq_true rfl)⟩) hK hN hP hD hS hA rfl rfl rfl hl.1 rfl (lv_room (Nat.le_of_ble_eq_true rfl)) dL_law_215 ⟨by show cells + 50 ≤ 600000; omega, by show slots + 2200 ≤ room_1.slots; omega⟩ (fun v w H locs hQ hP hD hS => ?_)
  obtain ⟨w', ⟨rfl, A', C', hA', hR', hok', rfl⟩, rfl⟩ := hQ
  have hP := vP_perm List.perm_append_comm hP
  have hD := vD_perm List.perm_append_comm hD
  refine lv_aload_n hx hb dL_law_218 rfl (lv_at hl 1 rfl) ?_
  refine lv_aload_n hx hb dL_law_219 rfl (lv_at hl 3 rfl) ?_
  refine lv_iload_n hx hb dL_law_220 rfl (lv_at hl 0 rfl) ?_
  refine lv_iconst (v := 1) hx hb dL_law_221 (by decide) ?_
  refine lv_iadd hx hb dL_law_222 ?_
  refine va_sld hx hb hX hbl hbA hS (lw_in hi.1 hi.2.1 hi.2.2 1 (by decide)) dL_law_223 ?_
  refine lv_aload_n hx hb dL_law_224 rfl (lv_at hl 3 rfl) ?_
  refine lv_iload_n hx hb dL_law_225 rfl (lv_at hl 0 rfl) ?_
  refine lv_iconst (v := 2) hx hb dL_law_226 (by decide) ?_
  refine lv_iadd hx hb dL_law_227 ?_
  refine va_sld hx hb hX hbl hbA hS (lw_in hi.1 hi.2.1 hi.2.2 2 (by decide)) dL_law_228 ?_
  refine lv_aload_n hx hb dL_law_229 rfl (lv_at hl 3 rfl) ?_
  refine lv_iload_n hx hb dL_law_230 rfl (lv_at hl 0 rfl) ?_
  refine lv_iconst (v := 3) hx hb dL_law_231 (by decide) ?_
  refine lv_iadd hx hb dL_law_232 ?_
  refine va_sld hx hb hX hbl hbA hS (lw_in hi.1 hi.2.1 hi.2.2 3 (by decide)) dL_law_233 ?_
  refine ke_V (q := (RX9, TX9, 24)) (q0 := 0) (As := [.int (xs (i + 1).toNatClampNeg), .int (xs (i + 2).toNatClampNeg), .int (xs (i + 3).toNatClampNeg)]) (rest := [.int r]) 9 (hMK.frame (xW G A' C')) ⟨hx, hb, hml, hown, hts⟩ (fun rm mc ms h1 h2 h3 h4 => cwV 3 hts gT_X9_sheaf rfl h1 h2 (by decide +kernel) ⟨Nat.le_trans (Nat.add_le_add_right h3 1) (Nat.le_of_ble_eq_true rfl), Nat.le_trans (Nat.add_le_add_left h4 _) (Nat.le_of_ble_eq_true rfl)⟩) hK hN hP hD hS hA rfl rfl rfl hl.1 rfl (lv_room (Nat.le_of_ble_eq_true rfl)) dL_law_234 ⟨by show cells + 50 + 50 ≤ 600000; omega, by show slots + 2200 + 2200 ≤ room_1.slots; omega⟩ (fun v w H locs hQ hP hD hS => ?_)
  obtain ⟨w', ⟨rfl, rfl⟩, rfl⟩ := hQ
  have hP := vP_perm List.perm_append_comm hP
  have hD := vD_perm List.perm_append_comm hD
  refine lv_icmp_eq (tgt := 1224) hx hb dL_law_237 (by decide) (fun _ => ?_) (fun cc => absurd rfl cc)
  exact W.widen (k := cells + 100) (n := slots + 4400) (by omega) (by omega) (kk A' C' M' H locs hA' hok' hR' hP hD hS)
set_option maxRecDepth 20000 in
set_option maxHeartbeats 4000000 in
theorem lc_lay {p : Program} {e : Env} {s : State} {m : MethodId} {below : List Frame} {meth : Method} {c : Code} (l : Launch) {b L : Nat} {xs : Nat → Int32} {G : GT} {Rl : XCt → MCt → Prop} (C0 : lw_At p s m meth c b L xs) (hK : va_K (gD G) vwCl (gT G) s) (hN : gN s) {Q : State → Prop} {A : XAd} {C : XCt} {D : MAd} {M : MCt} {H : Heap} {locs : List Loc} {i : Int32} {cells slots : Nat} {ls : Array Slot} (hi : 0 ≤ i.toInt ∧ i.toInt + 6 ≤ L ∧ L ≤ 3072) (hP : va_P (gD G) vwCl (xW G A C ++ mW G D M) H) (hD : va_D (nwA s) (xW G A C ++ mW G D M)) (hS : va_S (nwA s) s.heap H locs) (hl : lv_has ls 4 [(3, .int i), (2, .ref D.h), (1, .ref A.h), (0, .ref b)]) (hce : cells + 100 ≤ 600000) (hsl : slots + 4400 ≤ room_1.slots) (hsim : SimI l G Rl A C D M yX8_lay wsX8_lay yX9_lay wsX9_lay [.int (xs (i + 1).toNatClampNeg), .int (xs (i + 2).toNatClampNeg), .long ((((xs (i + 3).toNatClampNeg)).toInt64 <<< (((32 : Int32)).toInt64 &&& 63)) ||| (((xs (i + 4).toNatClampNeg)).toInt64 &&& 4294967295))])
    (kk : ∀ (A' : XAd) (C' : XCt) (M' : MCt) (H1 : Heap) (locs1 : List Loc), A'.h = A.h → xok A' C' → Rl C' M' → va_P (gD G) vwCl (xW G A' C' ++ mW G D M') H1 → va_D (nwA s) (xW G A' C' ++ mW G D M') → va_S (nwA s) s.heap H1 locs1 → W p l e room_1 s m #[Value.ref b] below meth c H1 locs1 (cells + 100) (slots + 4400) Q (F0 m 1224 ls [])) : W p l e room_1 s m #[Value.ref b] below meth c H locs cells slots Q (F0 m 242 ls []) := by
  obtain ⟨hx, hb, hr, hml, hown, hts, hX, hbl, hlocks, -⟩ := C0
  obtain ⟨r, M', hXK, hMK⟩ := hsim
  have hown : s.vm.findClass RL = some m.cls := hown
  have hA : ∀ q : Nat, s.heap.size ≤ q → nwA s q := fun _ h => h
  have hbA : ¬ nwA s b := Nat.not_le.mpr hbl
  have hc22 : Cond.constantLong RL 22 (4294967295) ∈ lw_tbl := by decide +kernel
  refine lv_aload_n hx hb dL_law_242 rfl (lv_at hl 2 rfl) ?_
  refine lv_aload_n hx hb dL_law_243 rfl (lv_at hl 3 rfl) ?_
  refine lv_iload_n hx hb dL_law_244 rfl (lv_at hl 0 rfl) ?_
  refine lv_iconst (v := 1) hx hb dL_law_245 (by decide) ?_
  refine lv_iadd hx hb dL_law_246 ?_
  refine va_sld hx hb hX hbl hbA hS (lw_in hi.1 hi.2.1 hi.2.2 1 (by decide)) dL_law_247 ?_
  refine lv_aload_n hx hb dL_law_248 rfl (lv_at hl 3 rfl) ?_
  refine lv_iload_n hx hb dL_law_249 rfl (lv_at hl 0 rfl) ?_
  refine lv_iconst (v := 2) hx hb dL_law_250 (by decide) ?_
  refine lv_iadd hx hb dL_law_251 ?_
  refine va_sld hx hb hX hbl hbA hS (lw_in hi.1 hi.2.1 hi.2.2 2 (by decide)) dL_law_252 ?_
  refine lv_aload_n hx hb dL_law_253 rfl (lv_at hl 3 rfl) ?_
  refine lv_iload_n hx hb dL_law_254 rfl (lv_at hl 0 rfl) ?_
  refine lv_iconst (v := 3) hx hb dL_law_255 (by decide) ?_
  refine lv_iadd hx hb dL_law_256 ?_
  refine va_sld hx hb hX hbl hbA hS (lw_in hi.1 hi.2.1 hi.2.2 3 (by decide)) dL_law_257 ?_
  refine lv_i2l hx hb dL_law_258 rfl ?_
  refine lv_bipush (v := 32) hx hb dL_law_259 rfl ?_
  refine lv_lshl (v := (((xs (i + 3).toNatClampNeg)).toInt64 <<< (((32 : Int32)).toInt64 &&& 63))) hx hb dL_law_261 rfl ?_
  refine lv_aload_n hx hb dL_law_262 rfl (lv_at hl 3 rfl) ?_
  refine lv_iload_n hx hb dL_law_263 rfl (lv_at hl 0 rfl) ?_
  refine lv_iconst (v := 4) hx hb dL_law_264 (by decide) ?_
  refine lv_iadd hx hb dL_law_265 ?_
  refine va_sld hx hb hX hbl hbA hS (lw_in hi.1 hi.2.1 hi.2.2 4 (by decide)) dL_law_266 ?_
  refine lv_i2l hx hb dL_law_267 rfl ?_
  refine lv_ldc2 (own := RL) (v := 4294967295) hx hb hown (hts _ hc22) dL_law_268 ?_
  refine lv_land hx hb dL_law_271 ?_
  refine lv_lor hx hb dL_law_272 ?_
  refine ke_V (q := (RX8, TX8, 5)) (q0 := 0) (As := [.int (xs (i + 1).toNatClampNeg), .int (xs (i + 2).toNatClampNeg), .long ((((xs (i + 3).toNatClampNeg)).toInt64 <<< (((32 : Int32)).toInt64 &&& 63)) ||| (((xs (i + 4).toNatClampNeg)).toInt64 &&& 4294967295))]) (rest := []) 8 (hXK.frame (mW G D M)) ⟨hx, hb, hml, hown, hts⟩ (fun rm mc ms h1 h2 h3 h4 => cwV 3 hts gT_X8_lay rfl h1 h2 (by decide +kernel) ⟨Nat.le_trans (Nat.add_le_add_right h3 1) (Nat.le_of_ble_eq_true rfl), Nat.le_trans (Nat.add_le_add_left h4 _) (Nat.le_of_ble_eq_true rfl)⟩) hK hN hP hD hS hA rfl rfl rfl hl.1 rfl (lv_room (Nat.le_of_ble_eq_true rfl)) dL_law_273 ⟨by show cells + 50 ≤ 600000; omega, by show slots + 2200 ≤ room_1.slots; omega⟩ (fun v w H locs hQ hP hD hS => ?_)
  obtain ⟨w', ⟨rfl, A', C', hA', hR', hok', rfl⟩, rfl⟩ := hQ
  have hP := vP_perm List.perm_append_comm hP
  have hD := vD_perm List.perm_append_comm hD
  refine lv_aload_n hx hb dL_law_276 rfl (lv_at hl 1 rfl) ?_
  refine lv_aload_n hx hb dL_law_277 rfl (lv_at hl 3 rfl) ?_
  refine lv_iload_n hx hb dL_law_278 rfl (lv_at hl 0 rfl) ?_
  refine lv_iconst (v := 1) hx hb dL_law_279 (by decide) ?_
  refine lv_iadd hx hb dL_law_280 ?_
  refine va_sld hx hb hX hbl hbA hS (lw_in hi.1 hi.2.1 hi.2.2 1 (by decide)) dL_law_281 ?_
  refine lv_aload_n hx hb dL_law_282 rfl (lv_at hl 3 rfl) ?_
  refine lv_iload_n hx hb dL_law_283 rfl (lv_at hl 0 rfl) ?_
  refine lv_iconst (v := 2) hx hb dL_law_284 (by decide) ?_
  refine lv_iadd hx hb dL_law_285 ?_
  refine va_sld hx hb hX hbl hbA hS (lw_in hi.1 hi.2.1 hi.2.2 2 (by decide)) dL_law_286 ?_
  refine lv_aload_n hx hb dL_law_287 rfl (lv_at hl 3 rfl) ?_
  refine lv_iload_n hx hb dL_law_288 rfl (lv_at hl 0 rfl) ?_
  refine lv_iconst (v := 3) hx hb dL_law_289 (by decide) ?_
  refine lv_iadd hx hb dL_law_290 ?_
  refine va_sld hx hb hX hbl hbA hS (lw_in hi.1 hi.2.1 hi.2.2 3 (by decide)) dL_law_291 ?_
  refine lv_i2l hx hb dL_law_292 rfl ?_
  refine lv_bipush (v := 32) hx hb dL_law_293 rfl ?_
  refine lv_lshl (v := (((xs (i + 3).toNatClampNeg)).toInt64 <<< (((32 : Int32)).toInt64 &&& 63))) hx hb dL_law_295 rfl ?_
  refine lv_aload_n hx hb dL_law_296 rfl (lv_at hl 3 rfl) ?_
  refine lv_iload_n hx hb dL_law_297 rfl (lv_at hl 0 rfl) ?_
  refine lv_iconst (v := 4) hx hb dL_law_298 (by decide) ?_
  refine lv_iadd hx hb dL_law_299 ?_
  refine va_sld hx hb hX hbl hbA hS (lw_in hi.1 hi.2.1 hi.2.2 4 (by decide)) dL_law_300 ?_
  refine lv_i2l hx hb dL_law_301 rfl ?_
  refine lv_ldc2 (own := RL) (v := 4294967295) hx hb hown (hts _ hc22) dL_law_302 ?_
  refine lv_land hx hb dL_law_305 ?_
  refine lv_lor hx hb dL_law_306 ?_
  refine ke_V (q := (RX9, TX9, 24)) (q0 := 0) (As := [.int (xs (i + 1).toNatClampNeg), .int (xs (i + 2).toNatClampNeg), .long ((((xs (i + 3).toNatClampNeg)).toInt64 <<< (((32 : Int32)).toInt64 &&& 63)) ||| (((xs (i + 4).toNatClampNeg)).toInt64 &&& 4294967295))]) (rest := [.int r]) 9 (hMK.frame (xW G A' C')) ⟨hx, hb, hml, hown, hts⟩ (fun rm mc ms h1 h2 h3 h4 => cwV 3 hts gT_X9_lay rfl h1 h2 (by decide +kernel) ⟨Nat.le_trans (Nat.add_le_add_right h3 1) (Nat.le_of_ble_eq_true rfl), Nat.le_trans (Nat.add_le_add_left h4 _) (Nat.le_of_ble_eq_true rfl)⟩) hK hN hP hD hS hA rfl rfl rfl hl.1 rfl (lv_room (Nat.le_of_ble_eq_true rfl)) dL_law_307 ⟨by show cells + 50 + 50 ≤ 600000; omega, by show slots + 2200 + 2200 ≤ room_1.slots; omega⟩ (fun v w H locs hQ hP hD hS => ?_)
  obtain ⟨w', ⟨rfl, rfl⟩, rfl⟩ := hQ
  have hP := vP_perm List.perm_append_comm hP
  have hD := vD_perm List.perm_append_comm hD
  refine lv_icmp_eq (tgt := 1224) hx hb dL_law_310 (by decide) (fun _ => ?_) (fun cc => absurd rfl cc)
  exact W.widen (k := cells + 100) (n := slots + 4400) (by omega) (by omega) (kk A' C' M' H locs hA' hok' hR' hP hD hS)
set_option maxRecDepth 20000 in
set_option maxHeartbeats 4000000 in
theorem lc_draw {p : Program} {e : Env} {s : State} {m : MethodId} {below : List Frame} {meth : Method} {c : Code} (l : Launch) {b L : Nat} {xs : Nat → Int32} {G : GT} {Rl : XCt → MCt → Prop} (C0 : lw_At p s m meth c b L xs) (hK : va_K (gD G) vwCl (gT G) s) (hN : gN s) {Q : State → Prop} {A : XAd} {C : XCt} {D : MAd} {M : MCt} {H : Heap} {locs : List Loc} {i : Int32} {cells slots : Nat} {ls : Array Slot} (hi : 0 ≤ i.toInt ∧ i.toInt + 6 ≤ L ∧ L ≤ 3072) (hP : va_P (gD G) vwCl (xW G A C ++ mW G D M) H) (hD : va_D (nwA s) (xW G A C ++ mW G D M)) (hS : va_S (nwA s) s.heap H locs) (hl : lv_has ls 4 [(3, .int i), (2, .ref D.h), (1, .ref A.h), (0, .ref b)]) (hce : cells + 100 ≤ 600000) (hsl : slots + 4400 ≤ room_1.slots) (hsim : SimI l G Rl A C D M yX8_draw wsX8_draw yX9_draw wsX9_draw [.int (xs (i + 1).toNatClampNeg), .int (xs (i + 2).toNatClampNeg), .int (xs (i + 3).toNatClampNeg)])
    (kk : ∀ (A' : XAd) (C' : XCt) (M' : MCt) (H1 : Heap) (locs1 : List Loc), A'.h = A.h → xok A' C' → Rl C' M' → va_P (gD G) vwCl (xW G A' C' ++ mW G D M') H1 → va_D (nwA s) (xW G A' C' ++ mW G D M') → va_S (nwA s) s.heap H1 locs1 → W p l e room_1 s m #[Value.ref b] below meth c H1 locs1 (cells + 100) (slots + 4400) Q (F0 m 1224 ls [])) : W p l e room_1 s m #[Value.ref b] below meth c H locs cells slots Q (F0 m 315 ls []) := by
  obtain ⟨hx, hb, hr, hml, hown, hts, hX, hbl, hlocks, -⟩ := C0
  obtain ⟨r, M', hXK, hMK⟩ := hsim
  have hown : s.vm.findClass RL = some m.cls := hown
  have hA : ∀ q : Nat, s.heap.size ≤ q → nwA s q := fun _ h => h
  have hbA : ¬ nwA s b := Nat.not_le.mpr hbl
  refine lv_aload_n hx hb dL_law_315 rfl (lv_at hl 2 rfl) ?_
  refine lv_aload_n hx hb dL_law_316 rfl (lv_at hl 3 rfl) ?_
  refine lv_iload_n hx hb dL_law_317 rfl (lv_at hl 0 rfl) ?_
  refine lv_iconst (v := 1) hx hb dL_law_318 (by decide) ?_
  refine lv_iadd hx hb dL_law_319 ?_
  refine va_sld hx hb hX hbl hbA hS (lw_in hi.1 hi.2.1 hi.2.2 1 (by decide)) dL_law_320 ?_
  refine lv_aload_n hx hb dL_law_321 rfl (lv_at hl 3 rfl) ?_
  refine lv_iload_n hx hb dL_law_322 rfl (lv_at hl 0 rfl) ?_
  refine lv_iconst (v := 2) hx hb dL_law_323 (by decide) ?_
  refine lv_iadd hx hb dL_law_324 ?_
  refine va_sld hx hb hX hbl hbA hS (lw_in hi.1 hi.2.1 hi.2.2 2 (by decide)) dL_law_325 ?_
  refine lv_aload_n hx hb dL_law_326 rfl (lv_at hl 3 rfl) ?_
  refine lv_iload_n hx hb dL_law_327 rfl (lv_at hl 0 rfl) ?_
  refine lv_iconst (v := 3) hx hb dL_law_328 (by decide) ?_
  refine lv_iadd hx hb dL_law_329 ?_
  refine va_sld hx hb hX hbl hbA hS (lw_in hi.1 hi.2.1 hi.2.2 3 (by decide)) dL_law_330 ?_
  refine ke_V (q := (RX8, TX8, 5)) (q0 := 0) (As := [.int (xs (i + 1).toNatClampNeg), .int (xs (i + 2).toNatClampNeg), .int (xs (i + 3).toNatClampNeg)]) (rest := []) 8 (hXK.frame (mW G D M)) ⟨hx, hb, hml, hown, hts⟩ (fun rm mc ms h1 h2 h3 h4 => cwV 3 hts gT_X8_draw rfl h1 h2 (by decide +kernel) ⟨Nat.le_trans (Nat.add_le_add_right h3 1) (Nat.le_of_ble_eq_true rfl), Nat.le_trans (Nat.add_le_add_left h4 _) (Nat.le_of_ble_eq_true rfl)⟩) hK hN hP hD hS hA rfl rfl rfl hl.1 rfl (lv_room (Nat.le_of_ble_eq_true rfl)) dL_law_331 ⟨by show cells + 50 ≤ 600000; omega, by show slots + 2200 ≤ room_1.slots; omega⟩ (fun v w H locs hQ hP hD hS => ?_)
  obtain ⟨w', ⟨rfl, A', C', hA', hR', hok', rfl⟩, rfl⟩ := hQ
  have hP := vP_perm List.perm_append_comm hP
  have hD := vD_perm List.perm_append_comm hD
  refine lv_aload_n hx hb dL_law_334 rfl (lv_at hl 1 rfl) ?_
  refine lv_aload_n hx hb dL_law_335 rfl (lv_at hl 3 rfl) ?_
  refine lv_iload_n hx hb dL_law_336 rfl (lv_at hl 0 rfl) ?_
  refine lv_iconst (v := 1) hx hb dL_law_337 (by decide) ?_
  refine lv_iadd hx hb dL_law_338 ?_
  refine va_sld hx hb hX hbl hbA hS (lw_in hi.1 hi.2.1 hi.2.2 1 (by decide)) dL_law_339 ?_
  refine lv_aload_n hx hb dL_law_340 rfl (lv_at hl 3 rfl) ?_
  refine lv_iload_n hx hb dL_law_341 rfl (lv_at hl 0 rfl) ?_
  refine lv_iconst (v := 2) hx hb dL_law_342 (by decide) ?_
  refine lv_iadd hx hb dL_law_343 ?_
  refine va_sld hx hb hX hbl hbA hS (lw_in hi.1 hi.2.1 hi.2.2 2 (by decide)) dL_law_344 ?_
  refine lv_aload_n hx hb dL_law_345 rfl (lv_at hl 3 rfl) ?_
  refine lv_iload_n hx hb dL_law_346 rfl (lv_at hl 0 rfl) ?_
  refine lv_iconst (v := 3) hx hb dL_law_347 (by decide) ?_
  refine lv_iadd hx hb dL_law_348 ?_
  refine va_sld hx hb hX hbl hbA hS (lw_in hi.1 hi.2.1 hi.2.2 3 (by decide)) dL_law_349 ?_
  refine ke_V (q := (RX9, TX9, 24)) (q0 := 0) (As := [.int (xs (i + 1).toNatClampNeg), .int (xs (i + 2).toNatClampNeg), .int (xs (i + 3).toNatClampNeg)]) (rest := [.int r]) 9 (hMK.frame (xW G A' C')) ⟨hx, hb, hml, hown, hts⟩ (fun rm mc ms h1 h2 h3 h4 => cwV 3 hts gT_X9_draw rfl h1 h2 (by decide +kernel) ⟨Nat.le_trans (Nat.add_le_add_right h3 1) (Nat.le_of_ble_eq_true rfl), Nat.le_trans (Nat.add_le_add_left h4 _) (Nat.le_of_ble_eq_true rfl)⟩) hK hN hP hD hS hA rfl rfl rfl hl.1 rfl (lv_room (Nat.le_of_ble_eq_true rfl)) dL_law_350 ⟨by show cells + 50 + 50 ≤ 600000; omega, by show slots + 2200 + 2200 ≤ room_1.slots; omega⟩ (fun v w H locs hQ hP hD hS => ?_)
  obtain ⟨w', ⟨rfl, rfl⟩, rfl⟩ := hQ
  have hP := vP_perm List.perm_append_comm hP
  have hD := vD_perm List.perm_append_comm hD
  refine lv_icmp_eq (tgt := 1224) hx hb dL_law_353 (by decide) (fun _ => ?_) (fun cc => absurd rfl cc)
  exact W.widen (k := cells + 100) (n := slots + 4400) (by omega) (by omega) (kk A' C' M' H locs hA' hok' hR' hP hD hS)
set_option maxRecDepth 20000 in
set_option maxHeartbeats 4000000 in
theorem lc_clear {p : Program} {e : Env} {s : State} {m : MethodId} {below : List Frame} {meth : Method} {c : Code} (l : Launch) {b L : Nat} {xs : Nat → Int32} {G : GT} {Rl : XCt → MCt → Prop} (C0 : lw_At p s m meth c b L xs) (hK : va_K (gD G) vwCl (gT G) s) (hN : gN s) {Q : State → Prop} {A : XAd} {C : XCt} {D : MAd} {M : MCt} {H : Heap} {locs : List Loc} {i : Int32} {cells slots : Nat} {ls : Array Slot} (hi : 0 ≤ i.toInt ∧ i.toInt + 6 ≤ L ∧ L ≤ 3072) (hP : va_P (gD G) vwCl (xW G A C ++ mW G D M) H) (hD : va_D (nwA s) (xW G A C ++ mW G D M)) (hS : va_S (nwA s) s.heap H locs) (hl : lv_has ls 4 [(3, .int i), (2, .ref D.h), (1, .ref A.h), (0, .ref b)]) (hce : cells + 100 ≤ 600000) (hsl : slots + 4400 ≤ room_1.slots) (hsim : SimI l G Rl A C D M yX8_clear wsX8_clear yX9_clear wsX9_clear [])
    (kk : ∀ (A' : XAd) (C' : XCt) (M' : MCt) (H1 : Heap) (locs1 : List Loc), A'.h = A.h → xok A' C' → Rl C' M' → va_P (gD G) vwCl (xW G A' C' ++ mW G D M') H1 → va_D (nwA s) (xW G A' C' ++ mW G D M') → va_S (nwA s) s.heap H1 locs1 → W p l e room_1 s m #[Value.ref b] below meth c H1 locs1 (cells + 100) (slots + 4400) Q (F0 m 1224 ls [])) : W p l e room_1 s m #[Value.ref b] below meth c H locs cells slots Q (F0 m 358 ls []) := by
  obtain ⟨hx, hb, hr, hml, hown, hts, hX, hbl, hlocks, -⟩ := C0
  obtain ⟨r, M', hXK, hMK⟩ := hsim
  have hown : s.vm.findClass RL = some m.cls := hown
  have hA : ∀ q : Nat, s.heap.size ≤ q → nwA s q := fun _ h => h
  have hbA : ¬ nwA s b := Nat.not_le.mpr hbl
  refine lv_aload_n hx hb dL_law_358 rfl (lv_at hl 2 rfl) ?_
  refine ke_V (q := (RX8, TX8, 5)) (q0 := 0) (As := []) (rest := []) 8 (hXK.frame (mW G D M)) ⟨hx, hb, hml, hown, hts⟩ (fun rm mc ms h1 h2 h3 h4 => cwV 0 hts gT_X8_clear rfl h1 h2 (by decide +kernel) ⟨Nat.le_trans (Nat.add_le_add_right h3 1) (Nat.le_of_ble_eq_true rfl), Nat.le_trans (Nat.add_le_add_left h4 _) (Nat.le_of_ble_eq_true rfl)⟩) hK hN hP hD hS hA rfl rfl rfl hl.1 rfl (lv_room (Nat.le_of_ble_eq_true rfl)) dL_law_359 ⟨by show cells + 50 ≤ 600000; omega, by show slots + 2200 ≤ room_1.slots; omega⟩ (fun v w H locs hQ hP hD hS => ?_)
  obtain ⟨w', ⟨rfl, A', C', hA', hR', hok', rfl⟩, rfl⟩ := hQ
  have hP := vP_perm List.perm_append_comm hP
  have hD := vD_perm List.perm_append_comm hD
  refine lv_aload_n hx hb dL_law_362 rfl (lv_at hl 1 rfl) ?_
  refine ke_V (q := (RX9, TX9, 24)) (q0 := 0) (As := []) (rest := [.int r]) 9 (hMK.frame (xW G A' C')) ⟨hx, hb, hml, hown, hts⟩ (fun rm mc ms h1 h2 h3 h4 => cwV 0 hts gT_X9_clear rfl h1 h2 (by decide +kernel) ⟨Nat.le_trans (Nat.add_le_add_right h3 1) (Nat.le_of_ble_eq_true rfl), Nat.le_trans (Nat.add_le_add_left h4 _) (Nat.le_of_ble_eq_true rfl)⟩) hK hN hP hD hS hA rfl rfl rfl hl.1 rfl (lv_room (Nat.le_of_ble_eq_true rfl)) dL_law_363 ⟨by show cells + 50 + 50 ≤ 600000; omega, by show slots + 2200 + 2200 ≤ room_1.slots; omega⟩ (fun v w H locs hQ hP hD hS => ?_)
  obtain ⟨w', ⟨rfl, rfl⟩, rfl⟩ := hQ
  have hP := vP_perm List.perm_append_comm hP
  have hD := vD_perm List.perm_append_comm hD
  refine lv_icmp_eq (tgt := 1224) hx hb dL_law_366 (by decide) (fun _ => ?_) (fun cc => absurd rfl cc)
  exact W.widen (k := cells + 100) (n := slots + 4400) (by omega) (by omega) (kk A' C' M' H locs hA' hok' hR' hP hD hS)
set_option maxRecDepth 20000 in
set_option maxHeartbeats 4000000 in
theorem lc_body {p : Program} {e : Env} {s : State} {m : MethodId} {below : List Frame} {meth : Method} {c : Code} (l : Launch) {b L : Nat} {xs : Nat → Int32} {G : GT} {Rl : XCt → MCt → Prop} (C0 : lw_At p s m meth c b L xs) (hK : va_K (gD G) vwCl (gT G) s) (hN : gN s) {Q : State → Prop} {A : XAd} {C : XCt} {D : MAd} {M : MCt} {H : Heap} {locs : List Loc} {i : Int32} {cells slots : Nat} {ls : Array Slot} (hi : 0 ≤ i.toInt ∧ i.toInt + 6 ≤ L ∧ L ≤ 3072) (hP : va_P (gD G) vwCl (xW G A C ++ mW G D M) H) (hD : va_D (nwA s) (xW G A C ++ mW G D M)) (hS : va_S (nwA s) s.heap H locs) (hl : lv_has ls 4 [(3, .int i), (2, .ref D.h), (1, .ref A.h), (0, .ref b)]) (hce : cells + 100 ≤ 600000) (hsl : slots + 4400 ≤ room_1.slots) (hsim : SimI l G Rl A C D M yX8_body wsX8_body yX9_body wsX9_body [])
    (kk : ∀ (A' : XAd) (C' : XCt) (M' : MCt) (H1 : Heap) (locs1 : List Loc), A'.h = A.h → xok A' C' → Rl C' M' → va_P (gD G) vwCl (xW G A' C' ++ mW G D M') H1 → va_D (nwA s) (xW G A' C' ++ mW G D M') → va_S (nwA s) s.heap H1 locs1 → W p l e room_1 s m #[Value.ref b] below meth c H1 locs1 (cells + 100) (slots + 4400) Q (F0 m 1224 ls [])) : W p l e room_1 s m #[Value.ref b] below meth c H locs cells slots Q (F0 m 371 ls []) := by
  obtain ⟨hx, hb, hr, hml, hown, hts, hX, hbl, hlocks, -⟩ := C0
  obtain ⟨r, M', hXK, hMK⟩ := hsim
  have hown : s.vm.findClass RL = some m.cls := hown
  have hA : ∀ q : Nat, s.heap.size ≤ q → nwA s q := fun _ h => h
  have hbA : ¬ nwA s b := Nat.not_le.mpr hbl
  refine lv_aload_n hx hb dL_law_371 rfl (lv_at hl 2 rfl) ?_
  refine ke_V (q := (RX8, TX8, 5)) (q0 := 0) (As := []) (rest := []) 8 (hXK.frame (mW G D M)) ⟨hx, hb, hml, hown, hts⟩ (fun rm mc ms h1 h2 h3 h4 => cwV 0 hts gT_X8_body rfl h1 h2 (by decide +kernel) ⟨Nat.le_trans (Nat.add_le_add_right h3 1) (Nat.le_of_ble_eq_true rfl), Nat.le_trans (Nat.add_le_add_left h4 _) (Nat.le_of_ble_eq_true rfl)⟩) hK hN hP hD hS hA rfl rfl rfl hl.1 rfl (lv_room (Nat.le_of_ble_eq_true rfl)) dL_law_372 ⟨by show cells + 50 ≤ 600000; omega, by show slots + 2200 ≤ room_1.slots; omega⟩ (fun v w H locs hQ hP hD hS => ?_)
  obtain ⟨w', ⟨rfl, A', C', hA', hR', hok', rfl⟩, rfl⟩ := hQ
  have hP := vP_perm List.perm_append_comm hP
  have hD := vD_perm List.perm_append_comm hD
  refine lv_aload_n hx hb dL_law_375 rfl (lv_at hl 1 rfl) ?_
  refine ke_V (q := (RX9, TX9, 24)) (q0 := 0) (As := []) (rest := [.int r]) 9 (hMK.frame (xW G A' C')) ⟨hx, hb, hml, hown, hts⟩ (fun rm mc ms h1 h2 h3 h4 => cwV 0 hts gT_X9_body rfl h1 h2 (by decide +kernel) ⟨Nat.le_trans (Nat.add_le_add_right h3 1) (Nat.le_of_ble_eq_true rfl), Nat.le_trans (Nat.add_le_add_left h4 _) (Nat.le_of_ble_eq_true rfl)⟩) hK hN hP hD hS hA rfl rfl rfl hl.1 rfl (lv_room (Nat.le_of_ble_eq_true rfl)) dL_law_376 ⟨by show cells + 50 + 50 ≤ 600000; omega, by show slots + 2200 + 2200 ≤ room_1.slots; omega⟩ (fun v w H locs hQ hP hD hS => ?_)
  obtain ⟨w', ⟨rfl, rfl⟩, rfl⟩ := hQ
  have hP := vP_perm List.perm_append_comm hP
  have hD := vD_perm List.perm_append_comm hD
  refine lv_icmp_eq (tgt := 1224) hx hb dL_law_379 (by decide) (fun _ => ?_) (fun cc => absurd rfl cc)
  exact W.widen (k := cells + 100) (n := slots + 4400) (by omega) (by omega) (kk A' C' M' H locs hA' hok' hR' hP hD hS)
set_option maxRecDepth 20000 in
set_option maxHeartbeats 4000000 in
theorem lc_drop {p : Program} {e : Env} {s : State} {m : MethodId} {below : List Frame} {meth : Method} {c : Code} (l : Launch) {b L : Nat} {xs : Nat → Int32} {G : GT} {Rl : XCt → MCt → Prop} (C0 : lw_At p s m meth c b L xs) (hK : va_K (gD G) vwCl (gT G) s) (hN : gN s) {Q : State → Prop} {A : XAd} {C : XCt} {D : MAd} {M : MCt} {H : Heap} {locs : List Loc} {i : Int32} {cells slots : Nat} {ls : Array Slot} (hi : 0 ≤ i.toInt ∧ i.toInt + 6 ≤ L ∧ L ≤ 3072) (hP : va_P (gD G) vwCl (xW G A C ++ mW G D M) H) (hD : va_D (nwA s) (xW G A C ++ mW G D M)) (hS : va_S (nwA s) s.heap H locs) (hl : lv_has ls 4 [(3, .int i), (2, .ref D.h), (1, .ref A.h), (0, .ref b)]) (hce : cells + 100 ≤ 600000) (hsl : slots + 4400 ≤ room_1.slots) (hsim : SimI l G Rl A C D M yX8_drop wsX8_drop yX9_drop wsX9_drop [])
    (kk : ∀ (A' : XAd) (C' : XCt) (M' : MCt) (H1 : Heap) (locs1 : List Loc), A'.h = A.h → xok A' C' → Rl C' M' → va_P (gD G) vwCl (xW G A' C' ++ mW G D M') H1 → va_D (nwA s) (xW G A' C' ++ mW G D M') → va_S (nwA s) s.heap H1 locs1 → W p l e room_1 s m #[Value.ref b] below meth c H1 locs1 (cells + 100) (slots + 4400) Q (F0 m 1224 ls [])) : W p l e room_1 s m #[Value.ref b] below meth c H locs cells slots Q (F0 m 384 ls []) := by
  obtain ⟨hx, hb, hr, hml, hown, hts, hX, hbl, hlocks, -⟩ := C0
  obtain ⟨r, M', hXK, hMK⟩ := hsim
  have hown : s.vm.findClass RL = some m.cls := hown
  have hA : ∀ q : Nat, s.heap.size ≤ q → nwA s q := fun _ h => h
  have hbA : ¬ nwA s b := Nat.not_le.mpr hbl
  refine lv_aload_n hx hb dL_law_384 rfl (lv_at hl 2 rfl) ?_
  refine ke_V (q := (RX8, TX8, 5)) (q0 := 0) (As := []) (rest := []) 8 (hXK.frame (mW G D M)) ⟨hx, hb, hml, hown, hts⟩ (fun rm mc ms h1 h2 h3 h4 => cwV 0 hts gT_X8_drop rfl h1 h2 (by decide +kernel) ⟨Nat.le_trans (Nat.add_le_add_right h3 1) (Nat.le_of_ble_eq_true rfl), Nat.le_trans (Nat.add_le_add_left h4 _) (Nat.le_of_ble_eq_true rfl)⟩) hK hN hP hD hS hA rfl rfl rfl hl.1 rfl (lv_room (Nat.le_of_ble_eq_true rfl)) dL_law_385 ⟨by show cells + 50 ≤ 600000; omega, by show slots + 2200 ≤ room_1.slots; omega⟩ (fun v w H locs hQ hP hD hS => ?_)
  obtain ⟨w', ⟨rfl, A', C', hA', hR', hok', rfl⟩, rfl⟩ := hQ
  have hP := vP_perm List.perm_append_comm hP
  have hD := vD_perm List.perm_append_comm hD
  refine lv_aload_n hx hb dL_law_388 rfl (lv_at hl 1 rfl) ?_
  refine ke_V (q := (RX9, TX9, 24)) (q0 := 0) (As := []) (rest := [.int r]) 9 (hMK.frame (xW G A' C')) ⟨hx, hb, hml, hown, hts⟩ (fun rm mc ms h1 h2 h3 h4 => cwV 0 hts gT_X9_drop rfl h1 h2 (by decide +kernel) ⟨Nat.le_trans (Nat.add_le_add_right h3 1) (Nat.le_of_ble_eq_true rfl), Nat.le_trans (Nat.add_le_add_left h4 _) (Nat.le_of_ble_eq_true rfl)⟩) hK hN hP hD hS hA rfl rfl rfl hl.1 rfl (lv_room (Nat.le_of_ble_eq_true rfl)) dL_law_389 ⟨by show cells + 50 + 50 ≤ 600000; omega, by show slots + 2200 + 2200 ≤ room_1.slots; omega⟩ (fun v w H locs hQ hP hD hS => ?_)
  obtain ⟨w', ⟨rfl, rfl⟩, rfl⟩ := hQ
  have hP := vP_perm List.perm_append_comm hP
  have hD := vD_perm List.perm_append_comm hD
  refine lv_icmp_eq (tgt := 1224) hx hb dL_law_392 (by decide) (fun _ => ?_) (fun cc => absurd rfl cc)
  exact W.widen (k := cells + 100) (n := slots + 4400) (by omega) (by omega) (kk A' C' M' H locs hA' hok' hR' hP hD hS)
set_option maxRecDepth 20000 in
set_option maxHeartbeats 4000000 in
theorem lc_about {p : Program} {e : Env} {s : State} {m : MethodId} {below : List Frame} {meth : Method} {c : Code} (l : Launch) {b L : Nat} {xs : Nat → Int32} {G : GT} {Rl : XCt → MCt → Prop} (C0 : lw_At p s m meth c b L xs) (hK : va_K (gD G) vwCl (gT G) s) (hN : gN s) {Q : State → Prop} {A : XAd} {C : XCt} {D : MAd} {M : MCt} {H : Heap} {locs : List Loc} {i : Int32} {cells slots : Nat} {ls : Array Slot} (hi : 0 ≤ i.toInt ∧ i.toInt + 6 ≤ L ∧ L ≤ 3072) (hP : va_P (gD G) vwCl (xW G A C ++ mW G D M) H) (hD : va_D (nwA s) (xW G A C ++ mW G D M)) (hS : va_S (nwA s) s.heap H locs) (hl : lv_has ls 4 [(3, .int i), (2, .ref D.h), (1, .ref A.h), (0, .ref b)]) (hce : cells + 100 ≤ 600000) (hsl : slots + 4400 ≤ room_1.slots) (hsim : SimI l G Rl A C D M yX8_about wsX8_about yX9_about wsX9_about [.int (xs (i + 1).toNatClampNeg), .int (xs (i + 2).toNatClampNeg)])
    (kk : ∀ (A' : XAd) (C' : XCt) (M' : MCt) (H1 : Heap) (locs1 : List Loc), A'.h = A.h → xok A' C' → Rl C' M' → va_P (gD G) vwCl (xW G A' C' ++ mW G D M') H1 → va_D (nwA s) (xW G A' C' ++ mW G D M') → va_S (nwA s) s.heap H1 locs1 → W p l e room_1 s m #[Value.ref b] below meth c H1 locs1 (cells + 100) (slots + 4400) Q (F0 m 1224 ls [])) : W p l e room_1 s m #[Value.ref b] below meth c H locs cells slots Q (F0 m 397 ls []) := by
  obtain ⟨hx, hb, hr, hml, hown, hts, hX, hbl, hlocks, -⟩ := C0
  obtain ⟨r, M', hXK, hMK⟩ := hsim
  have hown : s.vm.findClass RL = some m.cls := hown
  have hA : ∀ q : Nat, s.heap.size ≤ q → nwA s q := fun _ h => h
  have hbA : ¬ nwA s b := Nat.not_le.mpr hbl
  refine lv_aload_n hx hb dL_law_397 rfl (lv_at hl 2 rfl) ?_
  refine lv_aload_n hx hb dL_law_398 rfl (lv_at hl 3 rfl) ?_
  refine lv_iload_n hx hb dL_law_399 rfl (lv_at hl 0 rfl) ?_
  refine lv_iconst (v := 1) hx hb dL_law_400 (by decide) ?_
  refine lv_iadd hx hb dL_law_401 ?_
  refine va_sld hx hb hX hbl hbA hS (lw_in hi.1 hi.2.1 hi.2.2 1 (by decide)) dL_law_402 ?_
  refine lv_aload_n hx hb dL_law_403 rfl (lv_at hl 3 rfl) ?_
  refine lv_iload_n hx hb dL_law_404 rfl (lv_at hl 0 rfl) ?_
  refine lv_iconst (v := 2) hx hb dL_law_405 (by decide) ?_
  refine lv_iadd hx hb dL_law_406 ?_
  refine va_sld hx hb hX hbl hbA hS (lw_in hi.1 hi.2.1 hi.2.2 2 (by decide)) dL_law_407 ?_
  refine ke_V (q := (RX8, TX8, 5)) (q0 := 0) (As := [.int (xs (i + 1).toNatClampNeg), .int (xs (i + 2).toNatClampNeg)]) (rest := []) 8 (hXK.frame (mW G D M)) ⟨hx, hb, hml, hown, hts⟩ (fun rm mc ms h1 h2 h3 h4 => cwV 2 hts gT_X8_about rfl h1 h2 (by decide +kernel) ⟨Nat.le_trans (Nat.add_le_add_right h3 1) (Nat.le_of_ble_eq_true rfl), Nat.le_trans (Nat.add_le_add_left h4 _) (Nat.le_of_ble_eq_true rfl)⟩) hK hN hP hD hS hA rfl rfl rfl hl.1 rfl (lv_room (Nat.le_of_ble_eq_true rfl)) dL_law_408 ⟨by show cells + 50 ≤ 600000; omega, by show slots + 2200 ≤ room_1.slots; omega⟩ (fun v w H locs hQ hP hD hS => ?_)
  obtain ⟨w', ⟨rfl, A', C', hA', hR', hok', rfl⟩, rfl⟩ := hQ
  have hP := vP_perm List.perm_append_comm hP
  have hD := vD_perm List.perm_append_comm hD
  refine lv_aload_n hx hb dL_law_411 rfl (lv_at hl 1 rfl) ?_
  refine lv_aload_n hx hb dL_law_412 rfl (lv_at hl 3 rfl) ?_
  refine lv_iload_n hx hb dL_law_413 rfl (lv_at hl 0 rfl) ?_
  refine lv_iconst (v := 1) hx hb dL_law_414 (by decide) ?_
  refine lv_iadd hx hb dL_law_415 ?_
  refine va_sld hx hb hX hbl hbA hS (lw_in hi.1 hi.2.1 hi.2.2 1 (by decide)) dL_law_416 ?_
  refine lv_aload_n hx hb dL_law_417 rfl (lv_at hl 3 rfl) ?_
  refine lv_iload_n hx hb dL_law_418 rfl (lv_at hl 0 rfl) ?_
  refine lv_iconst (v := 2) hx hb dL_law_419 (by decide) ?_
  refine lv_iadd hx hb dL_law_420 ?_
  refine va_sld hx hb hX hbl hbA hS (lw_in hi.1 hi.2.1 hi.2.2 2 (by decide)) dL_law_421 ?_
  refine ke_V (q := (RX9, TX9, 24)) (q0 := 0) (As := [.int (xs (i + 1).toNatClampNeg), .int (xs (i + 2).toNatClampNeg)]) (rest := [.int r]) 9 (hMK.frame (xW G A' C')) ⟨hx, hb, hml, hown, hts⟩ (fun rm mc ms h1 h2 h3 h4 => cwV 2 hts gT_X9_about rfl h1 h2 (by decide +kernel) ⟨Nat.le_trans (Nat.add_le_add_right h3 1) (Nat.le_of_ble_eq_true rfl), Nat.le_trans (Nat.add_le_add_left h4 _) (Nat.le_of_ble_eq_true rfl)⟩) hK hN hP hD hS hA rfl rfl rfl hl.1 rfl (lv_room (Nat.le_of_ble_eq_true rfl)) dL_law_422 ⟨by show cells + 50 + 50 ≤ 600000; omega, by show slots + 2200 + 2200 ≤ room_1.slots; omega⟩ (fun v w H locs hQ hP hD hS => ?_)
  obtain ⟨w', ⟨rfl, rfl⟩, rfl⟩ := hQ
  have hP := vP_perm List.perm_append_comm hP
  have hD := vD_perm List.perm_append_comm hD
  refine lv_icmp_eq (tgt := 1224) hx hb dL_law_425 (by decide) (fun _ => ?_) (fun cc => absurd rfl cc)
  exact W.widen (k := cells + 100) (n := slots + 4400) (by omega) (by omega) (kk A' C' M' H locs hA' hok' hR' hP hD hS)
set_option maxRecDepth 20000 in
set_option maxHeartbeats 4000000 in
theorem lc_cornerOf {p : Program} {e : Env} {s : State} {m : MethodId} {below : List Frame} {meth : Method} {c : Code} (l : Launch) {b L : Nat} {xs : Nat → Int32} {G : GT} {Rl : XCt → MCt → Prop} (C0 : lw_At p s m meth c b L xs) (hK : va_K (gD G) vwCl (gT G) s) (hN : gN s) {Q : State → Prop} {A : XAd} {C : XCt} {D : MAd} {M : MCt} {H : Heap} {locs : List Loc} {i : Int32} {cells slots : Nat} {ls : Array Slot} (hi : 0 ≤ i.toInt ∧ i.toInt + 6 ≤ L ∧ L ≤ 3072) (hP : va_P (gD G) vwCl (xW G A C ++ mW G D M) H) (hD : va_D (nwA s) (xW G A C ++ mW G D M)) (hS : va_S (nwA s) s.heap H locs) (hl : lv_has ls 4 [(3, .int i), (2, .ref D.h), (1, .ref A.h), (0, .ref b)]) (hce : cells + 100 ≤ 600000) (hsl : slots + 4400 ≤ room_1.slots) (hsim : SimI l G Rl A C D M yX8_cornerOf wsX8_cornerOf yX9_cornerOf wsX9_cornerOf [.int (xs (i + 1).toNatClampNeg), .int (xs (i + 2).toNatClampNeg), .int (xs (i + 3).toNatClampNeg)])
    (kk : ∀ (A' : XAd) (C' : XCt) (M' : MCt) (H1 : Heap) (locs1 : List Loc), A'.h = A.h → xok A' C' → Rl C' M' → va_P (gD G) vwCl (xW G A' C' ++ mW G D M') H1 → va_D (nwA s) (xW G A' C' ++ mW G D M') → va_S (nwA s) s.heap H1 locs1 → W p l e room_1 s m #[Value.ref b] below meth c H1 locs1 (cells + 100) (slots + 4400) Q (F0 m 1224 ls [])) : W p l e room_1 s m #[Value.ref b] below meth c H locs cells slots Q (F0 m 430 ls []) := by
  obtain ⟨hx, hb, hr, hml, hown, hts, hX, hbl, hlocks, -⟩ := C0
  obtain ⟨r, M', hXK, hMK⟩ := hsim
  have hown : s.vm.findClass RL = some m.cls := hown
  have hA : ∀ q : Nat, s.heap.size ≤ q → nwA s q := fun _ h => h
  have hbA : ¬ nwA s b := Nat.not_le.mpr hbl
  refine lv_aload_n hx hb dL_law_430 rfl (lv_at hl 2 rfl) ?_
  refine lv_aload_n hx hb dL_law_431 rfl (lv_at hl 3 rfl) ?_
  refine lv_iload_n hx hb dL_law_432 rfl (lv_at hl 0 rfl) ?_
  refine lv_iconst (v := 1) hx hb dL_law_433 (by decide) ?_
  refine lv_iadd hx hb dL_law_434 ?_
  refine va_sld hx hb hX hbl hbA hS (lw_in hi.1 hi.2.1 hi.2.2 1 (by decide)) dL_law_435 ?_
  refine lv_aload_n hx hb dL_law_436 rfl (lv_at hl 3 rfl) ?_
  refine lv_iload_n hx hb dL_law_437 rfl (lv_at hl 0 rfl) ?_
  refine lv_iconst (v := 2) hx hb dL_law_438 (by decide) ?_
  refine lv_iadd hx hb dL_law_439 ?_
  refine va_sld hx hb hX hbl hbA hS (lw_in hi.1 hi.2.1 hi.2.2 2 (by decide)) dL_law_440 ?_
  refine lv_aload_n hx hb dL_law_441 rfl (lv_at hl 3 rfl) ?_
  refine lv_iload_n hx hb dL_law_442 rfl (lv_at hl 0 rfl) ?_
  refine lv_iconst (v := 3) hx hb dL_law_443 (by decide) ?_
  refine lv_iadd hx hb dL_law_444 ?_
  refine va_sld hx hb hX hbl hbA hS (lw_in hi.1 hi.2.1 hi.2.2 3 (by decide)) dL_law_445 ?_
  refine ke_V (q := (RX8, TX8, 5)) (q0 := 0) (As := [.int (xs (i + 1).toNatClampNeg), .int (xs (i + 2).toNatClampNeg), .int (xs (i + 3).toNatClampNeg)]) (rest := []) 8 (hXK.frame (mW G D M)) ⟨hx, hb, hml, hown, hts⟩ (fun rm mc ms h1 h2 h3 h4 => cwV 3 hts gT_X8_cornerOf rfl h1 h2 (by decide +kernel) ⟨Nat.le_trans (Nat.add_le_add_right h3 1) (Nat.le_of_ble_eq_true rfl), Nat.le_trans (Nat.add_le_add_left h4 _) (Nat.le_of_ble_eq_true rfl)⟩) hK hN hP hD hS hA rfl rfl rfl hl.1 rfl (lv_room (Nat.le_of_ble_eq_true rfl)) dL_law_446 ⟨by show cells + 50 ≤ 600000; omega, by show slots + 2200 ≤ room_1.slots; omega⟩ (fun v w H locs hQ hP hD hS => ?_)
  obtain ⟨w', ⟨rfl, A', C', hA', hR', hok', rfl⟩, rfl⟩ := hQ
  have hP := vP_perm List.perm_append_comm hP
  have hD := vD_perm List.perm_append_comm hD
  refine lv_aload_n hx hb dL_law_449 rfl (lv_at hl 1 rfl) ?_
  refine lv_aload_n hx hb dL_law_450 rfl (lv_at hl 3 rfl) ?_
  refine lv_iload_n hx hb dL_law_451 rfl (lv_at hl 0 rfl) ?_
  refine lv_iconst (v := 1) hx hb dL_law_452 (by decide) ?_
  refine lv_iadd hx hb dL_law_453 ?_
  refine va_sld hx hb hX hbl hbA hS (lw_in hi.1 hi.2.1 hi.2.2 1 (by decide)) dL_law_454 ?_
  refine lv_aload_n hx hb dL_law_455 rfl (lv_at hl 3 rfl) ?_
  refine lv_iload_n hx hb dL_law_456 rfl (lv_at hl 0 rfl) ?_
  refine lv_iconst (v := 2) hx hb dL_law_457 (by decide) ?_
  refine lv_iadd hx hb dL_law_458 ?_
  refine va_sld hx hb hX hbl hbA hS (lw_in hi.1 hi.2.1 hi.2.2 2 (by decide)) dL_law_459 ?_
  refine lv_aload_n hx hb dL_law_460 rfl (lv_at hl 3 rfl) ?_
  refine lv_iload_n hx hb dL_law_461 rfl (lv_at hl 0 rfl) ?_
  refine lv_iconst (v := 3) hx hb dL_law_462 (by decide) ?_
  refine lv_iadd hx hb dL_law_463 ?_
  refine va_sld hx hb hX hbl hbA hS (lw_in hi.1 hi.2.1 hi.2.2 3 (by decide)) dL_law_464 ?_
  refine ke_V (q := (RX9, TX9, 24)) (q0 := 0) (As := [.int (xs (i + 1).toNatClampNeg), .int (xs (i + 2).toNatClampNeg), .int (xs (i + 3).toNatClampNeg)]) (rest := [.int r]) 9 (hMK.frame (xW G A' C')) ⟨hx, hb, hml, hown, hts⟩ (fun rm mc ms h1 h2 h3 h4 => cwV 3 hts gT_X9_cornerOf rfl h1 h2 (by decide +kernel) ⟨Nat.le_trans (Nat.add_le_add_right h3 1) (Nat.le_of_ble_eq_true rfl), Nat.le_trans (Nat.add_le_add_left h4 _) (Nat.le_of_ble_eq_true rfl)⟩) hK hN hP hD hS hA rfl rfl rfl hl.1 rfl (lv_room (Nat.le_of_ble_eq_true rfl)) dL_law_465 ⟨by show cells + 50 + 50 ≤ 600000; omega, by show slots + 2200 + 2200 ≤ room_1.slots; omega⟩ (fun v w H locs hQ hP hD hS => ?_)
  obtain ⟨w', ⟨rfl, rfl⟩, rfl⟩ := hQ
  have hP := vP_perm List.perm_append_comm hP
  have hD := vD_perm List.perm_append_comm hD
  refine lv_icmp_eq (tgt := 1224) hx hb dL_law_468 (by decide) (fun _ => ?_) (fun cc => absurd rfl cc)
  exact W.widen (k := cells + 100) (n := slots + 4400) (by omega) (by omega) (kk A' C' M' H locs hA' hok' hR' hP hD hS)
set_option maxRecDepth 20000 in
set_option maxHeartbeats 4000000 in
theorem lc_side {p : Program} {e : Env} {s : State} {m : MethodId} {below : List Frame} {meth : Method} {c : Code} (l : Launch) {b L : Nat} {xs : Nat → Int32} {G : GT} {Rl : XCt → MCt → Prop} (C0 : lw_At p s m meth c b L xs) (hK : va_K (gD G) vwCl (gT G) s) (hN : gN s) {Q : State → Prop} {A : XAd} {C : XCt} {D : MAd} {M : MCt} {H : Heap} {locs : List Loc} {i : Int32} {cells slots : Nat} {ls : Array Slot} (hi : 0 ≤ i.toInt ∧ i.toInt + 6 ≤ L ∧ L ≤ 3072) (hP : va_P (gD G) vwCl (xW G A C ++ mW G D M) H) (hD : va_D (nwA s) (xW G A C ++ mW G D M)) (hS : va_S (nwA s) s.heap H locs) (hl : lv_has ls 4 [(3, .int i), (2, .ref D.h), (1, .ref A.h), (0, .ref b)]) (hce : cells + 100 ≤ 600000) (hsl : slots + 4400 ≤ room_1.slots) (hsim : SimI l G Rl A C D M yX8_side wsX8_side yX9_side_ wsX9_side_ [.int (xs (i + 1).toNatClampNeg), .int (xs (i + 2).toNatClampNeg), .int (xs (i + 3).toNatClampNeg)])
    (kk : ∀ (A' : XAd) (C' : XCt) (M' : MCt) (H1 : Heap) (locs1 : List Loc), A'.h = A.h → xok A' C' → Rl C' M' → va_P (gD G) vwCl (xW G A' C' ++ mW G D M') H1 → va_D (nwA s) (xW G A' C' ++ mW G D M') → va_S (nwA s) s.heap H1 locs1 → W p l e room_1 s m #[Value.ref b] below meth c H1 locs1 (cells + 100) (slots + 4400) Q (F0 m 1224 ls [])) : W p l e room_1 s m #[Value.ref b] below meth c H locs cells slots Q (F0 m 473 ls []) := by
  obtain ⟨hx, hb, hr, hml, hown, hts, hX, hbl, hlocks, -⟩ := C0
  obtain ⟨r, M', hXK, hMK⟩ := hsim
  have hown : s.vm.findClass RL = some m.cls := hown
  have hA : ∀ q : Nat, s.heap.size ≤ q → nwA s q := fun _ h => h
  have hbA : ¬ nwA s b := Nat.not_le.mpr hbl
  refine lv_aload_n hx hb dL_law_473 rfl (lv_at hl 2 rfl) ?_
  refine lv_aload_n hx hb dL_law_474 rfl (lv_at hl 3 rfl) ?_
  refine lv_iload_n hx hb dL_law_475 rfl (lv_at hl 0 rfl) ?_
  refine lv_iconst (v := 1) hx hb dL_law_476 (by decide) ?_
  refine lv_iadd hx hb dL_law_477 ?_
  refine va_sld hx hb hX hbl hbA hS (lw_in hi.1 hi.2.1 hi.2.2 1 (by decide)) dL_law_478 ?_
  refine lv_aload_n hx hb dL_law_479 rfl (lv_at hl 3 rfl) ?_
  refine lv_iload_n hx hb dL_law_480 rfl (lv_at hl 0 rfl) ?_
  refine lv_iconst (v := 2) hx hb dL_law_481 (by decide) ?_
  refine lv_iadd hx hb dL_law_482 ?_
  refine va_sld hx hb hX hbl hbA hS (lw_in hi.1 hi.2.1 hi.2.2 2 (by decide)) dL_law_483 ?_
  refine lv_aload_n hx hb dL_law_484 rfl (lv_at hl 3 rfl) ?_
  refine lv_iload_n hx hb dL_law_485 rfl (lv_at hl 0 rfl) ?_
  refine lv_iconst (v := 3) hx hb dL_law_486 (by decide) ?_
  refine lv_iadd hx hb dL_law_487 ?_
  refine va_sld hx hb hX hbl hbA hS (lw_in hi.1 hi.2.1 hi.2.2 3 (by decide)) dL_law_488 ?_
  refine ke_V (q := (RX8, TX8, 5)) (q0 := 0) (As := [.int (xs (i + 1).toNatClampNeg), .int (xs (i + 2).toNatClampNeg), .int (xs (i + 3).toNatClampNeg)]) (rest := []) 8 (hXK.frame (mW G D M)) ⟨hx, hb, hml, hown, hts⟩ (fun rm mc ms h1 h2 h3 h4 => cwV 3 hts gT_X8_side rfl h1 h2 (by decide +kernel) ⟨Nat.le_trans (Nat.add_le_add_right h3 1) (Nat.le_of_ble_eq_true rfl), Nat.le_trans (Nat.add_le_add_left h4 _) (Nat.le_of_ble_eq_true rfl)⟩) hK hN hP hD hS hA rfl rfl rfl hl.1 rfl (lv_room (Nat.le_of_ble_eq_true rfl)) dL_law_489 ⟨by show cells + 50 ≤ 600000; omega, by show slots + 2200 ≤ room_1.slots; omega⟩ (fun v w H locs hQ hP hD hS => ?_)
  obtain ⟨w', ⟨rfl, A', C', hA', hR', hok', rfl⟩, rfl⟩ := hQ
  have hP := vP_perm List.perm_append_comm hP
  have hD := vD_perm List.perm_append_comm hD
  refine lv_aload_n hx hb dL_law_492 rfl (lv_at hl 1 rfl) ?_
  refine lv_aload_n hx hb dL_law_493 rfl (lv_at hl 3 rfl) ?_
  refine lv_iload_n hx hb dL_law_494 rfl (lv_at hl 0 rfl) ?_
  refine lv_iconst (v := 1) hx hb dL_law_495 (by decide) ?_
  refine lv_iadd hx hb dL_law_496 ?_
  refine va_sld hx hb hX hbl hbA hS (lw_in hi.1 hi.2.1 hi.2.2 1 (by decide)) dL_law_497 ?_
  refine lv_aload_n hx hb dL_law_498 rfl (lv_at hl 3 rfl) ?_
  refine lv_iload_n hx hb dL_law_499 rfl (lv_at hl 0 rfl) ?_
  refine lv_iconst (v := 2) hx hb dL_law_500 (by decide) ?_
  refine lv_iadd hx hb dL_law_501 ?_
  refine va_sld hx hb hX hbl hbA hS (lw_in hi.1 hi.2.1 hi.2.2 2 (by decide)) dL_law_502 ?_
  refine lv_aload_n hx hb dL_law_503 rfl (lv_at hl 3 rfl) ?_
  refine lv_iload_n hx hb dL_law_504 rfl (lv_at hl 0 rfl) ?_
  refine lv_iconst (v := 3) hx hb dL_law_505 (by decide) ?_
  refine lv_iadd hx hb dL_law_506 ?_
  refine va_sld hx hb hX hbl hbA hS (lw_in hi.1 hi.2.1 hi.2.2 3 (by decide)) dL_law_507 ?_
  refine ke_V (q := (RX9, TX9, 24)) (q0 := 0) (As := [.int (xs (i + 1).toNatClampNeg), .int (xs (i + 2).toNatClampNeg), .int (xs (i + 3).toNatClampNeg)]) (rest := [.int r]) 9 (hMK.frame (xW G A' C')) ⟨hx, hb, hml, hown, hts⟩ (fun rm mc ms h1 h2 h3 h4 => cwV 3 hts gT_X9_side_ rfl h1 h2 (by decide +kernel) ⟨Nat.le_trans (Nat.add_le_add_right h3 1) (Nat.le_of_ble_eq_true rfl), Nat.le_trans (Nat.add_le_add_left h4 _) (Nat.le_of_ble_eq_true rfl)⟩) hK hN hP hD hS hA rfl rfl rfl hl.1 rfl (lv_room (Nat.le_of_ble_eq_true rfl)) dL_law_508 ⟨by show cells + 50 + 50 ≤ 600000; omega, by show slots + 2200 + 2200 ≤ room_1.slots; omega⟩ (fun v w H locs hQ hP hD hS => ?_)
  obtain ⟨w', ⟨rfl, rfl⟩, rfl⟩ := hQ
  have hP := vP_perm List.perm_append_comm hP
  have hD := vD_perm List.perm_append_comm hD
  refine lv_icmp_eq (tgt := 1224) hx hb dL_law_511 (by decide) (fun _ => ?_) (fun cc => absurd rfl cc)
  exact W.widen (k := cells + 100) (n := slots + 4400) (by omega) (by omega) (kk A' C' M' H locs hA' hok' hR' hP hD hS)
set_option maxRecDepth 20000 in
set_option maxHeartbeats 4000000 in
theorem lc_on {p : Program} {e : Env} {s : State} {m : MethodId} {below : List Frame} {meth : Method} {c : Code} (l : Launch) {b L : Nat} {xs : Nat → Int32} {G : GT} {Rl : XCt → MCt → Prop} (C0 : lw_At p s m meth c b L xs) (hK : va_K (gD G) vwCl (gT G) s) (hN : gN s) {Q : State → Prop} {A : XAd} {C : XCt} {D : MAd} {M : MCt} {H : Heap} {locs : List Loc} {i : Int32} {cells slots : Nat} {ls : Array Slot} (hi : 0 ≤ i.toInt ∧ i.toInt + 6 ≤ L ∧ L ≤ 3072) (hP : va_P (gD G) vwCl (xW G A C ++ mW G D M) H) (hD : va_D (nwA s) (xW G A C ++ mW G D M)) (hS : va_S (nwA s) s.heap H locs) (hl : lv_has ls 4 [(3, .int i), (2, .ref D.h), (1, .ref A.h), (0, .ref b)]) (hce : cells + 100 ≤ 600000) (hsl : slots + 4400 ≤ room_1.slots) (hsim : SimI l G Rl A C D M yX8_on wsX8_on yX9_on wsX9_on [.int (xs (i + 1).toNatClampNeg), .int (xs (i + 2).toNatClampNeg)])
    (kk : ∀ (A' : XAd) (C' : XCt) (M' : MCt) (H1 : Heap) (locs1 : List Loc), A'.h = A.h → xok A' C' → Rl C' M' → va_P (gD G) vwCl (xW G A' C' ++ mW G D M') H1 → va_D (nwA s) (xW G A' C' ++ mW G D M') → va_S (nwA s) s.heap H1 locs1 → W p l e room_1 s m #[Value.ref b] below meth c H1 locs1 (cells + 100) (slots + 4400) Q (F0 m 1224 ls [])) : W p l e room_1 s m #[Value.ref b] below meth c H locs cells slots Q (F0 m 516 ls []) := by
  obtain ⟨hx, hb, hr, hml, hown, hts, hX, hbl, hlocks, -⟩ := C0
  obtain ⟨r, M', hXK, hMK⟩ := hsim
  have hown : s.vm.findClass RL = some m.cls := hown
  have hA : ∀ q : Nat, s.heap.size ≤ q → nwA s q := fun _ h => h
  have hbA : ¬ nwA s b := Nat.not_le.mpr hbl
  refine lv_aload_n hx hb dL_law_516 rfl (lv_at hl 2 rfl) ?_
  refine lv_aload_n hx hb dL_law_517 rfl (lv_at hl 3 rfl) ?_
  refine lv_iload_n hx hb dL_law_518 rfl (lv_at hl 0 rfl) ?_
  refine lv_iconst (v := 1) hx hb dL_law_519 (by decide) ?_
  refine lv_iadd hx hb dL_law_520 ?_
  refine va_sld hx hb hX hbl hbA hS (lw_in hi.1 hi.2.1 hi.2.2 1 (by decide)) dL_law_521 ?_
  refine lv_aload_n hx hb dL_law_522 rfl (lv_at hl 3 rfl) ?_
  refine lv_iload_n hx hb dL_law_523 rfl (lv_at hl 0 rfl) ?_
  refine lv_iconst (v := 2) hx hb dL_law_524 (by decide) ?_
  refine lv_iadd hx hb dL_law_525 ?_
  refine va_sld hx hb hX hbl hbA hS (lw_in hi.1 hi.2.1 hi.2.2 2 (by decide)) dL_law_526 ?_
  refine ke_V (q := (RX8, TX8, 5)) (q0 := 0) (As := [.int (xs (i + 1).toNatClampNeg), .int (xs (i + 2).toNatClampNeg)]) (rest := []) 8 (hXK.frame (mW G D M)) ⟨hx, hb, hml, hown, hts⟩ (fun rm mc ms h1 h2 h3 h4 => cwV 2 hts gT_X8_on rfl h1 h2 (by decide +kernel) ⟨Nat.le_trans (Nat.add_le_add_right h3 1) (Nat.le_of_ble_eq_true rfl), Nat.le_trans (Nat.add_le_add_left h4 _) (Nat.le_of_ble_eq_true rfl)⟩) hK hN hP hD hS hA rfl rfl rfl hl.1 rfl (lv_room (Nat.le_of_ble_eq_true rfl)) dL_law_527 ⟨by show cells + 50 ≤ 600000; omega, by show slots + 2200 ≤ room_1.slots; omega⟩ (fun v w H locs hQ hP hD hS => ?_)
  obtain ⟨w', ⟨rfl, A', C', hA', hR', hok', rfl⟩, rfl⟩ := hQ
  have hP := vP_perm List.perm_append_comm hP
  have hD := vD_perm List.perm_append_comm hD
  refine lv_aload_n hx hb dL_law_530 rfl (lv_at hl 1 rfl) ?_
  refine lv_aload_n hx hb dL_law_531 rfl (lv_at hl 3 rfl) ?_
  refine lv_iload_n hx hb dL_law_532 rfl (lv_at hl 0 rfl) ?_
  refine lv_iconst (v := 1) hx hb dL_law_533 (by decide) ?_
  refine lv_iadd hx hb dL_law_534 ?_
  refine va_sld hx hb hX hbl hbA hS (lw_in hi.1 hi.2.1 hi.2.2 1 (by decide)) dL_law_535 ?_
  refine lv_aload_n hx hb dL_law_536 rfl (lv_at hl 3 rfl) ?_
  refine lv_iload_n hx hb dL_law_537 rfl (lv_at hl 0 rfl) ?_
  refine lv_iconst (v := 2) hx hb dL_law_538 (by decide) ?_
  refine lv_iadd hx hb dL_law_539 ?_
  refine va_sld hx hb hX hbl hbA hS (lw_in hi.1 hi.2.1 hi.2.2 2 (by decide)) dL_law_540 ?_
  refine ke_V (q := (RX9, TX9, 24)) (q0 := 0) (As := [.int (xs (i + 1).toNatClampNeg), .int (xs (i + 2).toNatClampNeg)]) (rest := [.int r]) 9 (hMK.frame (xW G A' C')) ⟨hx, hb, hml, hown, hts⟩ (fun rm mc ms h1 h2 h3 h4 => cwV 2 hts gT_X9_on rfl h1 h2 (by decide +kernel) ⟨Nat.le_trans (Nat.add_le_add_right h3 1) (Nat.le_of_ble_eq_true rfl), Nat.le_trans (Nat.add_le_add_left h4 _) (Nat.le_of_ble_eq_true rfl)⟩) hK hN hP hD hS hA rfl rfl rfl hl.1 rfl (lv_room (Nat.le_of_ble_eq_true rfl)) dL_law_541 ⟨by show cells + 50 + 50 ≤ 600000; omega, by show slots + 2200 + 2200 ≤ room_1.slots; omega⟩ (fun v w H locs hQ hP hD hS => ?_)
  obtain ⟨w', ⟨rfl, rfl⟩, rfl⟩ := hQ
  have hP := vP_perm List.perm_append_comm hP
  have hD := vD_perm List.perm_append_comm hD
  refine lv_icmp_eq (tgt := 1224) hx hb dL_law_544 (by decide) (fun _ => ?_) (fun cc => absurd rfl cc)
  exact W.widen (k := cells + 100) (n := slots + 4400) (by omega) (by omega) (kk A' C' M' H locs hA' hok' hR' hP hD hS)
set_option maxRecDepth 20000 in
set_option maxHeartbeats 4000000 in
theorem lc_has {p : Program} {e : Env} {s : State} {m : MethodId} {below : List Frame} {meth : Method} {c : Code} (l : Launch) {b L : Nat} {xs : Nat → Int32} {G : GT} {Rl : XCt → MCt → Prop} (C0 : lw_At p s m meth c b L xs) (hK : va_K (gD G) vwCl (gT G) s) (hN : gN s) {Q : State → Prop} {A : XAd} {C : XCt} {D : MAd} {M : MCt} {H : Heap} {locs : List Loc} {i : Int32} {cells slots : Nat} {ls : Array Slot} (hi : 0 ≤ i.toInt ∧ i.toInt + 6 ≤ L ∧ L ≤ 3072) (hP : va_P (gD G) vwCl (xW G A C ++ mW G D M) H) (hD : va_D (nwA s) (xW G A C ++ mW G D M)) (hS : va_S (nwA s) s.heap H locs) (hl : lv_has ls 4 [(3, .int i), (2, .ref D.h), (1, .ref A.h), (0, .ref b)]) (hce : cells + 100 ≤ 600000) (hsl : slots + 4400 ≤ room_1.slots) (hsim : SimI l G Rl A C D M yX8_has wsX8_has yX9_has wsX9_has [.int (xs (i + 1).toNatClampNeg), .int (xs (i + 2).toNatClampNeg), .int (xs (i + 3).toNatClampNeg), .int (xs (i + 4).toNatClampNeg), .int (xs (i + 5).toNatClampNeg)])
    (kk : ∀ (A' : XAd) (C' : XCt) (M' : MCt) (H1 : Heap) (locs1 : List Loc), A'.h = A.h → xok A' C' → Rl C' M' → va_P (gD G) vwCl (xW G A' C' ++ mW G D M') H1 → va_D (nwA s) (xW G A' C' ++ mW G D M') → va_S (nwA s) s.heap H1 locs1 → W p l e room_1 s m #[Value.ref b] below meth c H1 locs1 (cells + 100) (slots + 4400) Q (F0 m 1224 ls [])) : W p l e room_1 s m #[Value.ref b] below meth c H locs cells slots Q (F0 m 549 ls []) := by
  obtain ⟨hx, hb, hr, hml, hown, hts, hX, hbl, hlocks, -⟩ := C0
  obtain ⟨r, M', hXK, hMK⟩ := hsim
  have hown : s.vm.findClass RL = some m.cls := hown
  have hA : ∀ q : Nat, s.heap.size ≤ q → nwA s q := fun _ h => h
  have hbA : ¬ nwA s b := Nat.not_le.mpr hbl
  refine lv_aload_n hx hb dL_law_549 rfl (lv_at hl 2 rfl) ?_
  refine lv_aload_n hx hb dL_law_550 rfl (lv_at hl 3 rfl) ?_
  refine lv_iload_n hx hb dL_law_551 rfl (lv_at hl 0 rfl) ?_
  refine lv_iconst (v := 1) hx hb dL_law_552 (by decide) ?_
  refine lv_iadd hx hb dL_law_553 ?_
  refine va_sld hx hb hX hbl hbA hS (lw_in hi.1 hi.2.1 hi.2.2 1 (by decide)) dL_law_554 ?_
  refine lv_aload_n hx hb dL_law_555 rfl (lv_at hl 3 rfl) ?_
  refine lv_iload_n hx hb dL_law_556 rfl (lv_at hl 0 rfl) ?_
  refine lv_iconst (v := 2) hx hb dL_law_557 (by decide) ?_
  refine lv_iadd hx hb dL_law_558 ?_
  refine va_sld hx hb hX hbl hbA hS (lw_in hi.1 hi.2.1 hi.2.2 2 (by decide)) dL_law_559 ?_
  refine lv_aload_n hx hb dL_law_560 rfl (lv_at hl 3 rfl) ?_
  refine lv_iload_n hx hb dL_law_561 rfl (lv_at hl 0 rfl) ?_
  refine lv_iconst (v := 3) hx hb dL_law_562 (by decide) ?_
  refine lv_iadd hx hb dL_law_563 ?_
  refine va_sld hx hb hX hbl hbA hS (lw_in hi.1 hi.2.1 hi.2.2 3 (by decide)) dL_law_564 ?_
  refine lv_aload_n hx hb dL_law_565 rfl (lv_at hl 3 rfl) ?_
  refine lv_iload_n hx hb dL_law_566 rfl (lv_at hl 0 rfl) ?_
  refine lv_iconst (v := 4) hx hb dL_law_567 (by decide) ?_
  refine lv_iadd hx hb dL_law_568 ?_
  refine va_sld hx hb hX hbl hbA hS (lw_in hi.1 hi.2.1 hi.2.2 4 (by decide)) dL_law_569 ?_
  refine lv_aload_n hx hb dL_law_570 rfl (lv_at hl 3 rfl) ?_
  refine lv_iload_n hx hb dL_law_571 rfl (lv_at hl 0 rfl) ?_
  refine lv_iconst (v := 5) hx hb dL_law_572 (by decide) ?_
  refine lv_iadd hx hb dL_law_573 ?_
  refine va_sld hx hb hX hbl hbA hS (lw_in hi.1 hi.2.1 hi.2.2 5 (by decide)) dL_law_574 ?_
  refine ke_V (q := (RX8, TX8, 5)) (q0 := 0) (As := [.int (xs (i + 1).toNatClampNeg), .int (xs (i + 2).toNatClampNeg), .int (xs (i + 3).toNatClampNeg), .int (xs (i + 4).toNatClampNeg), .int (xs (i + 5).toNatClampNeg)]) (rest := []) 8 (hXK.frame (mW G D M)) ⟨hx, hb, hml, hown, hts⟩ (fun rm mc ms h1 h2 h3 h4 => cwV 5 hts gT_X8_has rfl h1 h2 (by decide +kernel) ⟨Nat.le_trans (Nat.add_le_add_right h3 1) (Nat.le_of_ble_eq_true rfl), Nat.le_trans (Nat.add_le_add_left h4 _) (Nat.le_of_ble_eq_true rfl)⟩) hK hN hP hD hS hA rfl rfl rfl hl.1 rfl (lv_room (Nat.le_of_ble_eq_true rfl)) dL_law_575 ⟨by show cells + 50 ≤ 600000; omega, by show slots + 2200 ≤ room_1.slots; omega⟩ (fun v w H locs hQ hP hD hS => ?_)
  obtain ⟨w', ⟨rfl, A', C', hA', hR', hok', rfl⟩, rfl⟩ := hQ
  have hP := vP_perm List.perm_append_comm hP
  have hD := vD_perm List.perm_append_comm hD
  refine lv_aload_n hx hb dL_law_578 rfl (lv_at hl 1 rfl) ?_
  refine lv_aload_n hx hb dL_law_579 rfl (lv_at hl 3 rfl) ?_
  refine lv_iload_n hx hb dL_law_580 rfl (lv_at hl 0 rfl) ?_
  refine lv_iconst (v := 1) hx hb dL_law_581 (by decide) ?_
  refine lv_iadd hx hb dL_law_582 ?_
  refine va_sld hx hb hX hbl hbA hS (lw_in hi.1 hi.2.1 hi.2.2 1 (by decide)) dL_law_583 ?_
  refine lv_aload_n hx hb dL_law_584 rfl (lv_at hl 3 rfl) ?_
  refine lv_iload_n hx hb dL_law_585 rfl (lv_at hl 0 rfl) ?_
  refine lv_iconst (v := 2) hx hb dL_law_586 (by decide) ?_
  refine lv_iadd hx hb dL_law_587 ?_
  refine va_sld hx hb hX hbl hbA hS (lw_in hi.1 hi.2.1 hi.2.2 2 (by decide)) dL_law_588 ?_
  refine lv_aload_n hx hb dL_law_589 rfl (lv_at hl 3 rfl) ?_
  refine lv_iload_n hx hb dL_law_590 rfl (lv_at hl 0 rfl) ?_
  refine lv_iconst (v := 3) hx hb dL_law_591 (by decide) ?_
  refine lv_iadd hx hb dL_law_592 ?_
  refine va_sld hx hb hX hbl hbA hS (lw_in hi.1 hi.2.1 hi.2.2 3 (by decide)) dL_law_593 ?_
  refine lv_aload_n hx hb dL_law_594 rfl (lv_at hl 3 rfl) ?_
  refine lv_iload_n hx hb dL_law_595 rfl (lv_at hl 0 rfl) ?_
  refine lv_iconst (v := 4) hx hb dL_law_596 (by decide) ?_
  refine lv_iadd hx hb dL_law_597 ?_
  refine va_sld hx hb hX hbl hbA hS (lw_in hi.1 hi.2.1 hi.2.2 4 (by decide)) dL_law_598 ?_
  refine lv_aload_n hx hb dL_law_599 rfl (lv_at hl 3 rfl) ?_
  refine lv_iload_n hx hb dL_law_600 rfl (lv_at hl 0 rfl) ?_
  refine lv_iconst (v := 5) hx hb dL_law_601 (by decide) ?_
  refine lv_iadd hx hb dL_law_602 ?_
  refine va_sld hx hb hX hbl hbA hS (lw_in hi.1 hi.2.1 hi.2.2 5 (by decide)) dL_law_603 ?_
  refine ke_V (q := (RX9, TX9, 24)) (q0 := 0) (As := [.int (xs (i + 1).toNatClampNeg), .int (xs (i + 2).toNatClampNeg), .int (xs (i + 3).toNatClampNeg), .int (xs (i + 4).toNatClampNeg), .int (xs (i + 5).toNatClampNeg)]) (rest := [.int r]) 9 (hMK.frame (xW G A' C')) ⟨hx, hb, hml, hown, hts⟩ (fun rm mc ms h1 h2 h3 h4 => cwV 5 hts gT_X9_has rfl h1 h2 (by decide +kernel) ⟨Nat.le_trans (Nat.add_le_add_right h3 1) (Nat.le_of_ble_eq_true rfl), Nat.le_trans (Nat.add_le_add_left h4 _) (Nat.le_of_ble_eq_true rfl)⟩) hK hN hP hD hS hA rfl rfl rfl hl.1 rfl (lv_room (Nat.le_of_ble_eq_true rfl)) dL_law_604 ⟨by show cells + 50 + 50 ≤ 600000; omega, by show slots + 2200 + 2200 ≤ room_1.slots; omega⟩ (fun v w H locs hQ hP hD hS => ?_)
  obtain ⟨w', ⟨rfl, rfl⟩, rfl⟩ := hQ
  have hP := vP_perm List.perm_append_comm hP
  have hD := vD_perm List.perm_append_comm hD
  refine lv_icmp_eq (tgt := 1224) hx hb dL_law_607 (by decide) (fun _ => ?_) (fun cc => absurd rfl cc)
  exact W.widen (k := cells + 100) (n := slots + 4400) (by omega) (by omega) (kk A' C' M' H locs hA' hok' hR' hP hD hS)
set_option maxRecDepth 20000 in
set_option maxHeartbeats 4000000 in
theorem lc_count {p : Program} {e : Env} {s : State} {m : MethodId} {below : List Frame} {meth : Method} {c : Code} (l : Launch) {b L : Nat} {xs : Nat → Int32} {G : GT} {Rl : XCt → MCt → Prop} (C0 : lw_At p s m meth c b L xs) (hK : va_K (gD G) vwCl (gT G) s) (hN : gN s) {Q : State → Prop} {A : XAd} {C : XCt} {D : MAd} {M : MCt} {H : Heap} {locs : List Loc} {i : Int32} {cells slots : Nat} {ls : Array Slot} (hi : 0 ≤ i.toInt ∧ i.toInt + 6 ≤ L ∧ L ≤ 3072) (hP : va_P (gD G) vwCl (xW G A C ++ mW G D M) H) (hD : va_D (nwA s) (xW G A C ++ mW G D M)) (hS : va_S (nwA s) s.heap H locs) (hl : lv_has ls 4 [(3, .int i), (2, .ref D.h), (1, .ref A.h), (0, .ref b)]) (hce : cells + 100 ≤ 600000) (hsl : slots + 4400 ≤ room_1.slots) (hsim : SimI l G Rl A C D M yX8_count wsX8_count yX9_count wsX9_count [.int (xs (i + 1).toNatClampNeg), .int (xs (i + 2).toNatClampNeg)])
    (kk : ∀ (A' : XAd) (C' : XCt) (M' : MCt) (H1 : Heap) (locs1 : List Loc), A'.h = A.h → xok A' C' → Rl C' M' → va_P (gD G) vwCl (xW G A' C' ++ mW G D M') H1 → va_D (nwA s) (xW G A' C' ++ mW G D M') → va_S (nwA s) s.heap H1 locs1 → W p l e room_1 s m #[Value.ref b] below meth c H1 locs1 (cells + 100) (slots + 4400) Q (F0 m 1224 ls [])) : W p l e room_1 s m #[Value.ref b] below meth c H locs cells slots Q (F0 m 612 ls []) := by
  obtain ⟨hx, hb, hr, hml, hown, hts, hX, hbl, hlocks, -⟩ := C0
  obtain ⟨r, M', hXK, hMK⟩ := hsim
  have hown : s.vm.findClass RL = some m.cls := hown
  have hA : ∀ q : Nat, s.heap.size ≤ q → nwA s q := fun _ h => h
  have hbA : ¬ nwA s b := Nat.not_le.mpr hbl
  refine lv_aload_n hx hb dL_law_612 rfl (lv_at hl 2 rfl) ?_
  refine lv_aload_n hx hb dL_law_613 rfl (lv_at hl 3 rfl) ?_
  refine lv_iload_n hx hb dL_law_614 rfl (lv_at hl 0 rfl) ?_
  refine lv_iconst (v := 1) hx hb dL_law_615 (by decide) ?_
  refine lv_iadd hx hb dL_law_616 ?_
  refine va_sld hx hb hX hbl hbA hS (lw_in hi.1 hi.2.1 hi.2.2 1 (by decide)) dL_law_617 ?_
  refine lv_aload_n hx hb dL_law_618 rfl (lv_at hl 3 rfl) ?_
  refine lv_iload_n hx hb dL_law_619 rfl (lv_at hl 0 rfl) ?_
  refine lv_iconst (v := 2) hx hb dL_law_620 (by decide) ?_
  refine lv_iadd hx hb dL_law_621 ?_
  refine va_sld hx hb hX hbl hbA hS (lw_in hi.1 hi.2.1 hi.2.2 2 (by decide)) dL_law_622 ?_
  refine ke_V (q := (RX8, TX8, 5)) (q0 := 0) (As := [.int (xs (i + 1).toNatClampNeg), .int (xs (i + 2).toNatClampNeg)]) (rest := []) 8 (hXK.frame (mW G D M)) ⟨hx, hb, hml, hown, hts⟩ (fun rm mc ms h1 h2 h3 h4 => cwV 2 hts gT_X8_count rfl h1 h2 (by decide +kernel) ⟨Nat.le_trans (Nat.add_le_add_right h3 1) (Nat.le_of_ble_eq_true rfl), Nat.le_trans (Nat.add_le_add_left h4 _) (Nat.le_of_ble_eq_true rfl)⟩) hK hN hP hD hS hA rfl rfl rfl hl.1 rfl (lv_room (Nat.le_of_ble_eq_true rfl)) dL_law_623 ⟨by show cells + 50 ≤ 600000; omega, by show slots + 2200 ≤ room_1.slots; omega⟩ (fun v w H locs hQ hP hD hS => ?_)
  obtain ⟨w', ⟨rfl, A', C', hA', hR', hok', rfl⟩, rfl⟩ := hQ
  have hP := vP_perm List.perm_append_comm hP
  have hD := vD_perm List.perm_append_comm hD
  refine lv_aload_n hx hb dL_law_626 rfl (lv_at hl 1 rfl) ?_
  refine lv_aload_n hx hb dL_law_627 rfl (lv_at hl 3 rfl) ?_
  refine lv_iload_n hx hb dL_law_628 rfl (lv_at hl 0 rfl) ?_
  refine lv_iconst (v := 1) hx hb dL_law_629 (by decide) ?_
  refine lv_iadd hx hb dL_law_630 ?_
  refine va_sld hx hb hX hbl hbA hS (lw_in hi.1 hi.2.1 hi.2.2 1 (by decide)) dL_law_631 ?_
  refine lv_aload_n hx hb dL_law_632 rfl (lv_at hl 3 rfl) ?_
  refine lv_iload_n hx hb dL_law_633 rfl (lv_at hl 0 rfl) ?_
  refine lv_iconst (v := 2) hx hb dL_law_634 (by decide) ?_
  refine lv_iadd hx hb dL_law_635 ?_
  refine va_sld hx hb hX hbl hbA hS (lw_in hi.1 hi.2.1 hi.2.2 2 (by decide)) dL_law_636 ?_
  refine ke_V (q := (RX9, TX9, 24)) (q0 := 0) (As := [.int (xs (i + 1).toNatClampNeg), .int (xs (i + 2).toNatClampNeg)]) (rest := [.int r]) 9 (hMK.frame (xW G A' C')) ⟨hx, hb, hml, hown, hts⟩ (fun rm mc ms h1 h2 h3 h4 => cwV 2 hts gT_X9_count rfl h1 h2 (by decide +kernel) ⟨Nat.le_trans (Nat.add_le_add_right h3 1) (Nat.le_of_ble_eq_true rfl), Nat.le_trans (Nat.add_le_add_left h4 _) (Nat.le_of_ble_eq_true rfl)⟩) hK hN hP hD hS hA rfl rfl rfl hl.1 rfl (lv_room (Nat.le_of_ble_eq_true rfl)) dL_law_637 ⟨by show cells + 50 + 50 ≤ 600000; omega, by show slots + 2200 + 2200 ≤ room_1.slots; omega⟩ (fun v w H locs hQ hP hD hS => ?_)
  obtain ⟨w', ⟨rfl, rfl⟩, rfl⟩ := hQ
  have hP := vP_perm List.perm_append_comm hP
  have hD := vD_perm List.perm_append_comm hD
  refine lv_icmp_eq (tgt := 1224) hx hb dL_law_640 (by decide) (fun _ => ?_) (fun cc => absurd rfl cc)
  exact W.widen (k := cells + 100) (n := slots + 4400) (by omega) (by omega) (kk A' C' M' H locs hA' hok' hR' hP hD hS)
set_option maxRecDepth 20000 in
set_option maxHeartbeats 4000000 in
theorem lc_inner {p : Program} {e : Env} {s : State} {m : MethodId} {below : List Frame} {meth : Method} {c : Code} (l : Launch) {b L : Nat} {xs : Nat → Int32} {G : GT} {Rl : XCt → MCt → Prop} (C0 : lw_At p s m meth c b L xs) (hK : va_K (gD G) vwCl (gT G) s) (hN : gN s) {Q : State → Prop} {A : XAd} {C : XCt} {D : MAd} {M : MCt} {H : Heap} {locs : List Loc} {i : Int32} {cells slots : Nat} {ls : Array Slot} (hi : 0 ≤ i.toInt ∧ i.toInt + 6 ≤ L ∧ L ≤ 3072) (hP : va_P (gD G) vwCl (xW G A C ++ mW G D M) H) (hD : va_D (nwA s) (xW G A C ++ mW G D M)) (hS : va_S (nwA s) s.heap H locs) (hl : lv_has ls 4 [(3, .int i), (2, .ref D.h), (1, .ref A.h), (0, .ref b)]) (hce : cells + 100 ≤ 600000) (hsl : slots + 4400 ≤ room_1.slots) (hsim : SimI l G Rl A C D M yX8_inner wsX8_inner yX9_inner wsX9_inner [.int (xs (i + 1).toNatClampNeg), .int (xs (i + 2).toNatClampNeg)])
    (kk : ∀ (A' : XAd) (C' : XCt) (M' : MCt) (H1 : Heap) (locs1 : List Loc), A'.h = A.h → xok A' C' → Rl C' M' → va_P (gD G) vwCl (xW G A' C' ++ mW G D M') H1 → va_D (nwA s) (xW G A' C' ++ mW G D M') → va_S (nwA s) s.heap H1 locs1 → W p l e room_1 s m #[Value.ref b] below meth c H1 locs1 (cells + 100) (slots + 4400) Q (F0 m 1224 ls [])) : W p l e room_1 s m #[Value.ref b] below meth c H locs cells slots Q (F0 m 645 ls []) := by
  obtain ⟨hx, hb, hr, hml, hown, hts, hX, hbl, hlocks, -⟩ := C0
  obtain ⟨r, M', hXK, hMK⟩ := hsim
  have hown : s.vm.findClass RL = some m.cls := hown
  have hA : ∀ q : Nat, s.heap.size ≤ q → nwA s q := fun _ h => h
  have hbA : ¬ nwA s b := Nat.not_le.mpr hbl
  refine lv_aload_n hx hb dL_law_645 rfl (lv_at hl 2 rfl) ?_
  refine lv_aload_n hx hb dL_law_646 rfl (lv_at hl 3 rfl) ?_
  refine lv_iload_n hx hb dL_law_647 rfl (lv_at hl 0 rfl) ?_
  refine lv_iconst (v := 1) hx hb dL_law_648 (by decide) ?_
  refine lv_iadd hx hb dL_law_649 ?_
  refine va_sld hx hb hX hbl hbA hS (lw_in hi.1 hi.2.1 hi.2.2 1 (by decide)) dL_law_650 ?_
  refine lv_aload_n hx hb dL_law_651 rfl (lv_at hl 3 rfl) ?_
  refine lv_iload_n hx hb dL_law_652 rfl (lv_at hl 0 rfl) ?_
  refine lv_iconst (v := 2) hx hb dL_law_653 (by decide) ?_
  refine lv_iadd hx hb dL_law_654 ?_
  refine va_sld hx hb hX hbl hbA hS (lw_in hi.1 hi.2.1 hi.2.2 2 (by decide)) dL_law_655 ?_
  refine ke_V (q := (RX8, TX8, 5)) (q0 := 0) (As := [.int (xs (i + 1).toNatClampNeg), .int (xs (i + 2).toNatClampNeg)]) (rest := []) 8 (hXK.frame (mW G D M)) ⟨hx, hb, hml, hown, hts⟩ (fun rm mc ms h1 h2 h3 h4 => cwV 2 hts gT_X8_inner rfl h1 h2 (by decide +kernel) ⟨Nat.le_trans (Nat.add_le_add_right h3 1) (Nat.le_of_ble_eq_true rfl), Nat.le_trans (Nat.add_le_add_left h4 _) (Nat.le_of_ble_eq_true rfl)⟩) hK hN hP hD hS hA rfl rfl rfl hl.1 rfl (lv_room (Nat.le_of_ble_eq_true rfl)) dL_law_656 ⟨by show cells + 50 ≤ 600000; omega, by show slots + 2200 ≤ room_1.slots; omega⟩ (fun v w H locs hQ hP hD hS => ?_)
  obtain ⟨w', ⟨rfl, A', C', hA', hR', hok', rfl⟩, rfl⟩ := hQ
  have hP := vP_perm List.perm_append_comm hP
  have hD := vD_perm List.perm_append_comm hD
  refine lv_aload_n hx hb dL_law_659 rfl (lv_at hl 1 rfl) ?_
  refine lv_aload_n hx hb dL_law_660 rfl (lv_at hl 3 rfl) ?_
  refine lv_iload_n hx hb dL_law_661 rfl (lv_at hl 0 rfl) ?_
  refine lv_iconst (v := 1) hx hb dL_law_662 (by decide) ?_
  refine lv_iadd hx hb dL_law_663 ?_
  refine va_sld hx hb hX hbl hbA hS (lw_in hi.1 hi.2.1 hi.2.2 1 (by decide)) dL_law_664 ?_
  refine lv_aload_n hx hb dL_law_665 rfl (lv_at hl 3 rfl) ?_
  refine lv_iload_n hx hb dL_law_666 rfl (lv_at hl 0 rfl) ?_
  refine lv_iconst (v := 2) hx hb dL_law_667 (by decide) ?_
  refine lv_iadd hx hb dL_law_668 ?_
  refine va_sld hx hb hX hbl hbA hS (lw_in hi.1 hi.2.1 hi.2.2 2 (by decide)) dL_law_669 ?_
  refine ke_V (q := (RX9, TX9, 24)) (q0 := 0) (As := [.int (xs (i + 1).toNatClampNeg), .int (xs (i + 2).toNatClampNeg)]) (rest := [.int r]) 9 (hMK.frame (xW G A' C')) ⟨hx, hb, hml, hown, hts⟩ (fun rm mc ms h1 h2 h3 h4 => cwV 2 hts gT_X9_inner rfl h1 h2 (by decide +kernel) ⟨Nat.le_trans (Nat.add_le_add_right h3 1) (Nat.le_of_ble_eq_true rfl), Nat.le_trans (Nat.add_le_add_left h4 _) (Nat.le_of_ble_eq_true rfl)⟩) hK hN hP hD hS hA rfl rfl rfl hl.1 rfl (lv_room (Nat.le_of_ble_eq_true rfl)) dL_law_670 ⟨by show cells + 50 + 50 ≤ 600000; omega, by show slots + 2200 + 2200 ≤ room_1.slots; omega⟩ (fun v w H locs hQ hP hD hS => ?_)
  obtain ⟨w', ⟨rfl, rfl⟩, rfl⟩ := hQ
  have hP := vP_perm List.perm_append_comm hP
  have hD := vD_perm List.perm_append_comm hD
  refine lv_icmp_eq (tgt := 1224) hx hb dL_law_673 (by decide) (fun _ => ?_) (fun cc => absurd rfl cc)
  exact W.widen (k := cells + 100) (n := slots + 4400) (by omega) (by omega) (kk A' C' M' H locs hA' hok' hR' hP hD hS)
