/-- class and reference answer alike, call by call -/
def S_corner (l : Launch) (G : GT) (Rl : XCt → MCt → Prop) : Prop := ∀ (A : XAd) (C : XCt) (D : MAd) (M : MCt), xok A C → Rl C M → ∀ (x1 x2 x3 : Int32), SimI l G Rl A C D M yX8_corner wsX8_corner yX9_corner wsX9_corner [.int x1, .int x2, .int x3]
def S_sheaf (l : Launch) (G : GT) (Rl : XCt → MCt → Prop) : Prop := ∀ (A : XAd) (C : XCt) (D : MAd) (M : MCt), xok A C → Rl C M → ∀ (x1 x2 x3 : Int32), SimI l G Rl A C D M yX8_sheaf wsX8_sheaf yX9_sheaf wsX9_sheaf [.int x1, .int x2, .int x3]
def S_lay (l : Launch) (G : GT) (Rl : XCt → MCt → Prop) : Prop := ∀ (A : XAd) (C : XCt) (D : MAd) (M : MCt), xok A C → Rl C M → ∀ (x1 x2 x3 x4 : Int32), SimI l G Rl A C D M yX8_lay wsX8_lay yX9_lay wsX9_lay [.int x1, .int x2, .long (((x3).toInt64 <<< (((32 : Int32)).toInt64 &&& 63)) ||| ((x4).toInt64 &&& 4294967295))]
def S_draw (l : Launch) (G : GT) (Rl : XCt → MCt → Prop) : Prop := ∀ (A : XAd) (C : XCt) (D : MAd) (M : MCt), xok A C → Rl C M → ∀ (x1 x2 x3 : Int32), SimI l G Rl A C D M yX8_draw wsX8_draw yX9_draw wsX9_draw [.int x1, .int x2, .int x3]
def S_clear (l : Launch) (G : GT) (Rl : XCt → MCt → Prop) : Prop := ∀ (A : XAd) (C : XCt) (D : MAd) (M : MCt), xok A C → Rl C M → SimI l G Rl A C D M yX8_clear wsX8_clear yX9_clear wsX9_clear []
def S_body (l : Launch) (G : GT) (Rl : XCt → MCt → Prop) : Prop := ∀ (A : XAd) (C : XCt) (D : MAd) (M : MCt), xok A C → Rl C M → SimI l G Rl A C D M yX8_body wsX8_body yX9_body wsX9_body []
def S_drop (l : Launch) (G : GT) (Rl : XCt → MCt → Prop) : Prop := ∀ (A : XAd) (C : XCt) (D : MAd) (M : MCt), xok A C → Rl C M → SimI l G Rl A C D M yX8_drop wsX8_drop yX9_drop wsX9_drop []
def S_about (l : Launch) (G : GT) (Rl : XCt → MCt → Prop) : Prop := ∀ (A : XAd) (C : XCt) (D : MAd) (M : MCt), xok A C → Rl C M → ∀ (x1 x2 : Int32), SimI l G Rl A C D M yX8_about wsX8_about yX9_about wsX9_about [.int x1, .int x2]
def S_cornerOf (l : Launch) (G : GT) (Rl : XCt → MCt → Prop) : Prop := ∀ (A : XAd) (C : XCt) (D : MAd) (M : MCt), xok A C → Rl C M → ∀ (x1 x2 x3 : Int32), SimI l G Rl A C D M yX8_cornerOf wsX8_cornerOf yX9_cornerOf wsX9_cornerOf [.int x1, .int x2, .int x3]
def S_side (l : Launch) (G : GT) (Rl : XCt → MCt → Prop) : Prop := ∀ (A : XAd) (C : XCt) (D : MAd) (M : MCt), xok A C → Rl C M → ∀ (x1 x2 x3 : Int32), SimI l G Rl A C D M yX8_side wsX8_side yX9_side_ wsX9_side_ [.int x1, .int x2, .int x3]
def S_on (l : Launch) (G : GT) (Rl : XCt → MCt → Prop) : Prop := ∀ (A : XAd) (C : XCt) (D : MAd) (M : MCt), xok A C → Rl C M → ∀ (x1 x2 : Int32), SimI l G Rl A C D M yX8_on wsX8_on yX9_on wsX9_on [.int x1, .int x2]
def S_has (l : Launch) (G : GT) (Rl : XCt → MCt → Prop) : Prop := ∀ (A : XAd) (C : XCt) (D : MAd) (M : MCt), xok A C → Rl C M → ∀ (x1 x2 x3 x4 x5 : Int32), SimI l G Rl A C D M yX8_has wsX8_has yX9_has wsX9_has [.int x1, .int x2, .int x3, .int x4, .int x5]
def S_count (l : Launch) (G : GT) (Rl : XCt → MCt → Prop) : Prop := ∀ (A : XAd) (C : XCt) (D : MAd) (M : MCt), xok A C → Rl C M → ∀ (x1 x2 : Int32), SimI l G Rl A C D M yX8_count wsX8_count yX9_count wsX9_count [.int x1, .int x2]
def S_inner (l : Launch) (G : GT) (Rl : XCt → MCt → Prop) : Prop := ∀ (A : XAd) (C : XCt) (D : MAd) (M : MCt), xok A C → Rl C M → ∀ (x1 x2 : Int32), SimI l G Rl A C D M yX8_inner wsX8_inner yX9_inner wsX9_inner [.int x1, .int x2]
def S_number (l : Launch) (G : GT) (Rl : XCt → MCt → Prop) : Prop := ∀ (A : XAd) (C : XCt) (D : MAd) (M : MCt), xok A C → Rl C M → ∀ (x1 x2 : Int32), SimI l G Rl A C D M yX8_number wsX8_number yX9_number wsX9_number [.int x1, .int x2]
def S_rule (l : Launch) (G : GT) (Rl : XCt → MCt → Prop) : Prop := ∀ (A : XAd) (C : XCt) (D : MAd) (M : MCt), xok A C → Rl C M → ∀ (x1 x2 : Int32), SimL l G Rl A C D M yX8_rule wsX8_rule yX9_rule wsX9_rule [.int x1, .int x2]
def S_stairs (l : Launch) (G : GT) (Rl : XCt → MCt → Prop) : Prop := ∀ (A : XAd) (C : XCt) (D : MAd) (M : MCt), xok A C → Rl C M → ∀ (x1 x2 : Int32), SimI l G Rl A C D M yX8_stairs wsX8_stairs yX9_stairs wsX9_stairs [.int x1, .int x2]
def S_point (l : Launch) (G : GT) (Rl : XCt → MCt → Prop) : Prop := ∀ (A : XAd) (C : XCt) (D : MAd) (M : MCt), xok A C → Rl C M → ∀ (x1 x2 x3 x4 : Int32), SimI l G Rl A C D M yX8_point wsX8_point yX9_point_ wsX9_point_ [.int x1, .int x2, .int x3, .int x4]
def S_rank (l : Launch) (G : GT) (Rl : XCt → MCt → Prop) : Prop := ∀ (A : XAd) (C : XCt) (D : MAd) (M : MCt), xok A C → Rl C M → ∀ (x1 x2 x3 x4 x5 : Int32), SimI l G Rl A C D M yX8_rank wsX8_rank yX9_rank wsX9_rank [.int x1, .int x2, .int x3, .int x4, .int x5]
def S_move (l : Launch) (G : GT) (Rl : XCt → MCt → Prop) : Prop := ∀ (A : XAd) (C : XCt) (D : MAd) (M : MCt), xok A C → Rl C M → ∀ (x1 x2 x3 x4 : Int32), SimI l G Rl A C D M yX8_move wsX8_move yX9_move wsX9_move [.int x1, .int x2, .int x3, .int x4]
def S_turn (l : Launch) (G : GT) (Rl : XCt → MCt → Prop) : Prop := ∀ (A : XAd) (C : XCt) (D : MAd) (M : MCt), xok A C → Rl C M → ∀ (x1 x2 : Int32), SimI l G Rl A C D M yX8_turn wsX8_turn yX9_turn wsX9_turn [.int x1, .int x2]
def S_join (l : Launch) (G : GT) (Rl : XCt → MCt → Prop) : Prop := ∀ (A : XAd) (C : XCt) (D : MAd) (M : MCt), xok A C → Rl C M → ∀ (x1 x2 : Int32), SimI l G Rl A C D M yX8_join wsX8_join yX9_join wsX9_join [.int x1, .int x2]
def S_slice (l : Launch) (G : GT) (Rl : XCt → MCt → Prop) : Prop := ∀ (A : XAd) (C : XCt) (D : MAd) (M : MCt), xok A C → Rl C M → ∀ (x1 x2 x3 : Int32), SimI l G Rl A C D M yX8_slice wsX8_slice yX9_slice wsX9_slice [.int x1, .int x2, .int x3]
def S_within (l : Launch) (G : GT) (Rl : XCt → MCt → Prop) : Prop := ∀ (A : XAd) (C : XCt) (D : MAd) (M : MCt), xok A C → Rl C M → ∀ (x1 x2 : Int32), SimI l G Rl A C D M yX8_within wsX8_within yX9_within wsX9_within [.int x1, .int x2]
def S_same (l : Launch) (G : GT) (Rl : XCt → MCt → Prop) : Prop := ∀ (A : XAd) (C : XCt) (D : MAd) (M : MCt), xok A C → Rl C M → ∀ (x1 x2 : Int32), SimI l G Rl A C D M yX8_same wsX8_same yX9_same wsX9_same [.int x1, .int x2]
def S_most (l : Launch) (G : GT) (Rl : XCt → MCt → Prop) : Prop := ∀ (A : XAd) (C : XCt) (D : MAd) (M : MCt), xok A C → Rl C M → ∀ (x1 x2 x3 x4 x5 : Int32), SimI l G Rl A C D M yX8_most wsX8_most yX9_most wsX9_most [.int x1, .int x2, .int x3, .int x4, .int (if x5 = 0 then 0 else 1)]
def S_all (l : Launch) (G : GT) (Rl : XCt → MCt → Prop) : Prop := ∀ (A : XAd) (C : XCt) (D : MAd) (M : MCt), xok A C → Rl C M → ∀ (x1 : Int32), SimI l G Rl A C D M yX8_all wsX8_all yX9_all wsX9_all [.int x1]
def Sims (l : Launch) (G : GT) (Rl : XCt → MCt → Prop) : Prop := S_corner l G Rl ∧ S_sheaf l G Rl ∧ S_lay l G Rl ∧ S_draw l G Rl ∧ S_clear l G Rl ∧ S_body l G Rl ∧ S_drop l G Rl ∧ S_about l G Rl ∧ S_cornerOf l G Rl ∧ S_side l G Rl ∧ S_on l G Rl ∧ S_has l G Rl ∧ S_count l G Rl ∧ S_inner l G Rl ∧ S_number l G Rl ∧ S_rule l G Rl ∧ S_stairs l G Rl ∧ S_point l G Rl ∧ S_rank l G Rl ∧ S_move l G Rl ∧ S_turn l G Rl ∧ S_join l G Rl ∧ S_slice l G Rl ∧ S_within l G Rl ∧ S_same l G Rl ∧ S_most l G Rl ∧ S_all l G Rl
set_option maxRecDepth 20000 in
set_option maxHeartbeats 4000000 in
theorem law_loop {p : Program} {e : Env} {s : State} {m : MethodId} {below : List Frame} {meth : Method} {c : Code} (l : Launch) {b L : Nat} {xs : Nat → Int32} {G : GT} {Rl : XCt → MCt → Prop} (C0 : lw_At p s m meth c b L xs) (hK : va_K (gD G) vwCl (gT G) s) (hN : gN s) (hL : L ≤ 3072) (hs : Sims l G Rl) {D : MAd} :
    ∀ (n : Nat) (A : XAd) (C : XCt) (M : MCt) (H : Heap) (locs : List Loc) (i : Int32) (cells slots : Nat) (ls : Array Slot), 0 ≤ i.toInt → i.toInt ≤ L → (L : Int) < i.toInt + 6 * (n + 1) → cells + 100 * n ≤ 600000 → slots + 4400 * n ≤ room_1.slots → xok A C → Rl C M → va_P (gD G) vwCl (xW G A C ++ mW G D M) H → va_D (nwA s) (xW G A C ++ mW G D M) → va_S (nwA s) s.heap H locs → lv_has ls 4 [(3, .int i), (2, .ref D.h), (1, .ref A.h), (0, .ref b)] →
      W p l e room_1 s m #[Value.ref b] below meth c H locs cells slots (lw_Z below #[Value.ref b] s) (F0 m 18 ls []) := by
  intro n
  induction n with
  | zero =>
    intro A C M H locs i cells slots ls hi0 hiL hn hce hsl hok hR hP hD hS hl
    obtain ⟨hx, hb, hr, hml, hown, hts, hX, hbl, hlocks, -⟩ := C0
    have hbA : ¬ nwA s b := Nat.not_le.mpr hbl
    have hLt : (Int32.ofNat L).toInt = L := by rw [Int32.toInt_ofNat_of_lt (by omega)]
    have h6 : (Int32.ofNat L - 6).toInt = (L : Int) - 6 := by
      rw [Int32.toInt_sub, hLt, show (6 : Int32).toInt = 6 from rfl]
      simp only [Int.bmod]
      split <;> omega
    refine lv_iload_n hx hb dL_law_18 rfl (lv_at hl 0 rfl) ?_
    refine lv_aload_n hx hb dL_law_19 rfl (lv_at hl 3 rfl) ?_
    refine va_slen hx hb hX hbl hbA hS dL_law_20 ?_
    refine lv_bipush (v := 6) hx hb dL_law_21 rfl ?_
    refine lv_isub hx hb dL_law_23 ?_
    refine lv_icmp_gt (tgt := 1230) hx hb dL_law_24 (by decide) (fun _ => ?_) (fun c1 => ?_)
    · refine lv_iconst (v := 1) hx hb dL_law_1230 (by decide) ?_
      have h := W.forget (locs := []) (L := locs) (cells := cells) (slots := slots) (fun q hq => hS.2.2 q hq) (W.widen (k := 600000) (n := room_1.slots) (by omega) (by omega) (lw_ret (l := l) (e := e) (below := below) (m := m) (b := b) (s := s) (ls := ls) (H := H) hx hb hr hlocks dL_law_1231))
      exact h
    · exact absurd (Int32.lt_iff_toInt_lt.mpr (show (Int32.ofNat L - 6).toInt < i.toInt by omega)) c1
  | succ n ih =>
    intro A C M H locs i cells slots ls hi0 hiL hn hce hsl hok hR hP hD hS hl
    have C1 := C0
    obtain ⟨hx, hb, hr, hml, hown, hts, hX, hbl, hlocks, -⟩ := C0
    have hbA : ¬ nwA s b := Nat.not_le.mpr hbl
    have hLt : (Int32.ofNat L).toInt = L := by rw [Int32.toInt_ofNat_of_lt (by omega)]
    have h6 : (Int32.ofNat L - 6).toInt = (L : Int) - 6 := by
      rw [Int32.toInt_sub, hLt, show (6 : Int32).toInt = 6 from rfl]
      simp only [Int.bmod]
      split <;> omega
    refine lv_iload_n hx hb dL_law_18 rfl (lv_at hl 0 rfl) ?_
    refine lv_aload_n hx hb dL_law_19 rfl (lv_at hl 3 rfl) ?_
    refine va_slen hx hb hX hbl hbA hS dL_law_20 ?_
    refine lv_bipush (v := 6) hx hb dL_law_21 rfl ?_
    refine lv_isub hx hb dL_law_23 ?_
    refine lv_icmp_gt (tgt := 1230) hx hb dL_law_24 (by decide) (fun _ => ?_) (fun c1 => ?_)
    · refine lv_iconst (v := 1) hx hb dL_law_1230 (by decide) ?_
      have h := W.forget (locs := []) (L := locs) (cells := cells) (slots := slots) (fun q hq => hS.2.2 q hq) (W.widen (k := 600000) (n := room_1.slots) (by omega) (by omega) (lw_ret (l := l) (e := e) (below := below) (m := m) (b := b) (s := s) (ls := ls) (H := H) hx hb hr hlocks dL_law_1231))
      exact h
    · have c2 : ¬ (Int32.ofNat L - 6).toInt < i.toInt := fun h => c1 (Int32.lt_iff_toInt_lt.mpr h)
      have hi6 : i.toInt + 6 ≤ L := by omega
      have next : ∀ (A' : XAd) (C' : XCt) (M' : MCt) (H1 : Heap) (locs1 : List Loc), A'.h = A.h → xok A' C' → Rl C' M' → va_P (gD G) vwCl (xW G A' C' ++ mW G D M') H1 → va_D (nwA s) (xW G A' C' ++ mW G D M') → va_S (nwA s) s.heap H1 locs1 → W p l e room_1 s m #[Value.ref b] below meth c H1 locs1 (cells + 100) (slots + 4400) (lw_Z below #[Value.ref b] s) (F0 m 1224 ls []) := by
        intro A' C' M' H1 locs1 hh hok' hR' hP' hD' hS'
        have ei : (i + 6).toInt = i.toInt + 6 := by
          rw [Int32.toInt_add, show (6 : Int32).toInt = 6 from rfl]
          simp only [Int.bmod]
          split <;> omega
        refine lv_iinc (v := i + 6) (lv' := [(3, .int (i + 6)), (2, .ref D.h), (1, .ref A.h), (0, .ref b)]) hx hb dL_law_1224 hl (k := 0) rfl rfl (by decide) rfl (fun ls hl => ?_)
        refine lv_goto (tgt := 18) hx hb dL_law_1227 (by decide) ?_
        rw [← hh] at hl
        exact ih A' C' M' H1 locs1 (i + 6) (cells + 100) (slots + 4400) ls (by omega) (by omega) (by omega) (by omega) (by omega) hok' hR' hP' hD' hS' hl
      have ce : cells + 100 ≤ 600000 := by omega
      have se : slots + 4400 ≤ room_1.slots := by omega
      have hin0 : vp_in i L := by
        rintro (h | h)
        · have h : i.toInt < (0 : Int32).toInt := Int32.lt_iff_toInt_lt.mp h
          rw [show (0 : Int32).toInt = 0 from rfl] at h
          omega
        · rw [Int32.toNatClampNeg] at h
          omega
      refine lv_aload_n hx hb dL_law_27 rfl (lv_at hl 3 rfl) ?_
      refine lv_iload_n hx hb dL_law_28 rfl (lv_at hl 0 rfl) ?_
      refine va_sld hx hb hX hbl hbA hS hin0 dL_law_29 ?_
      refine lv_bipush (v := 31) hx hb dL_law_30 rfl ?_
      refine lv_iand hx hb dL_law_32 ?_
      generalize hv : (xs i.toNatClampNeg &&& 31) = v
      by_cases hout : v.toInt < 0 ∨ 26 < v.toInt
      · refine lv_tableOut (tgt := 1224) hx hb dL_law_33 hout (by decide) ?_
        exact W.widen (by omega) (by omega) (next A C M H locs rfl hok hR hP hD hS)
      · have hv0 : ¬ v.toInt < 0 := fun h => hout (Or.inl h)
        have hv1 : ¬ 26 < v.toInt := fun h => hout (Or.inr h)
        have hcs : v.toInt = 0 ∨ v.toInt = 1 ∨ v.toInt = 2 ∨ v.toInt = 3 ∨ v.toInt = 4 ∨ v.toInt = 5 ∨ v.toInt = 6 ∨ v.toInt = 7 ∨ v.toInt = 8 ∨ v.toInt = 9 ∨ v.toInt = 10 ∨ v.toInt = 11 ∨ v.toInt = 12 ∨ v.toInt = 13 ∨ v.toInt = 14 ∨ v.toInt = 15 ∨ v.toInt = 16 ∨ v.toInt = 17 ∨ v.toInt = 18 ∨ v.toInt = 19 ∨ v.toInt = 20 ∨ v.toInt = 21 ∨ v.toInt = 22 ∨ v.toInt = 23 ∨ v.toInt = 24 ∨ v.toInt = 25 ∨ v.toInt = 26 := by omega
        rcases hcs with hk | hk | hk | hk | hk | hk | hk | hk | hk | hk | hk | hk | hk | hk | hk | hk | hk | hk | hk | hk | hk | hk | hk | hk | hk | hk | hk
        · refine lv_tableIn (tgt := 156) (off := 123) hx hb dL_law_33 hv0 hv1 (by rw [hk]; rfl) (by decide) ?_
          exact lc_corner l C1 hK hN ⟨hi0, hi6, hL⟩ hP hD hS hl ce se (hs.1 A C D M hok hR _ _ _) next
        · refine lv_tableIn (tgt := 199) (off := 166) hx hb dL_law_33 hv0 hv1 (by rw [hk]; rfl) (by decide) ?_
          exact lc_sheaf l C1 hK hN ⟨hi0, hi6, hL⟩ hP hD hS hl ce se (hs.2.1 A C D M hok hR _ _ _) next
        · refine lv_tableIn (tgt := 242) (off := 209) hx hb dL_law_33 hv0 hv1 (by rw [hk]; rfl) (by decide) ?_
          exact lc_lay l C1 hK hN ⟨hi0, hi6, hL⟩ hP hD hS hl ce se (hs.2.2.1 A C D M hok hR _ _ _ _) next
        · refine lv_tableIn (tgt := 315) (off := 282) hx hb dL_law_33 hv0 hv1 (by rw [hk]; rfl) (by decide) ?_
          exact lc_draw l C1 hK hN ⟨hi0, hi6, hL⟩ hP hD hS hl ce se (hs.2.2.2.1 A C D M hok hR _ _ _) next
        · refine lv_tableIn (tgt := 358) (off := 325) hx hb dL_law_33 hv0 hv1 (by rw [hk]; rfl) (by decide) ?_
          exact lc_clear l C1 hK hN ⟨hi0, hi6, hL⟩ hP hD hS hl ce se (hs.2.2.2.2.1 A C D M hok hR) next
        · refine lv_tableIn (tgt := 371) (off := 338) hx hb dL_law_33 hv0 hv1 (by rw [hk]; rfl) (by decide) ?_
          exact lc_body l C1 hK hN ⟨hi0, hi6, hL⟩ hP hD hS hl ce se (hs.2.2.2.2.2.1 A C D M hok hR) next
        · refine lv_tableIn (tgt := 384) (off := 351) hx hb dL_law_33 hv0 hv1 (by rw [hk]; rfl) (by decide) ?_
          exact lc_drop l C1 hK hN ⟨hi0, hi6, hL⟩ hP hD hS hl ce se (hs.2.2.2.2.2.2.1 A C D M hok hR) next
        · refine lv_tableIn (tgt := 397) (off := 364) hx hb dL_law_33 hv0 hv1 (by rw [hk]; rfl) (by decide) ?_
          exact lc_about l C1 hK hN ⟨hi0, hi6, hL⟩ hP hD hS hl ce se (hs.2.2.2.2.2.2.2.1 A C D M hok hR _ _) next
        · refine lv_tableIn (tgt := 430) (off := 397) hx hb dL_law_33 hv0 hv1 (by rw [hk]; rfl) (by decide) ?_
          exact lc_cornerOf l C1 hK hN ⟨hi0, hi6, hL⟩ hP hD hS hl ce se (hs.2.2.2.2.2.2.2.2.1 A C D M hok hR _ _ _) next
        · refine lv_tableIn (tgt := 473) (off := 440) hx hb dL_law_33 hv0 hv1 (by rw [hk]; rfl) (by decide) ?_
          exact lc_side l C1 hK hN ⟨hi0, hi6, hL⟩ hP hD hS hl ce se (hs.2.2.2.2.2.2.2.2.2.1 A C D M hok hR _ _ _) next
        · refine lv_tableIn (tgt := 516) (off := 483) hx hb dL_law_33 hv0 hv1 (by rw [hk]; rfl) (by decide) ?_
          exact lc_on l C1 hK hN ⟨hi0, hi6, hL⟩ hP hD hS hl ce se (hs.2.2.2.2.2.2.2.2.2.2.1 A C D M hok hR _ _) next
        · refine lv_tableIn (tgt := 549) (off := 516) hx hb dL_law_33 hv0 hv1 (by rw [hk]; rfl) (by decide) ?_
          exact lc_has l C1 hK hN ⟨hi0, hi6, hL⟩ hP hD hS hl ce se (hs.2.2.2.2.2.2.2.2.2.2.2.1 A C D M hok hR _ _ _ _ _) next
        · refine lv_tableIn (tgt := 612) (off := 579) hx hb dL_law_33 hv0 hv1 (by rw [hk]; rfl) (by decide) ?_
          exact lc_count l C1 hK hN ⟨hi0, hi6, hL⟩ hP hD hS hl ce se (hs.2.2.2.2.2.2.2.2.2.2.2.2.1 A C D M hok hR _ _) next
        · refine lv_tableIn (tgt := 645) (off := 612) hx hb dL_law_33 hv0 hv1 (by rw [hk]; rfl) (by decide) ?_
          exact lc_inner l C1 hK hN ⟨hi0, hi6, hL⟩ hP hD hS hl ce se (hs.2.2.2.2.2.2.2.2.2.2.2.2.2.1 A C D M hok hR _ _) next
        · refine lv_tableIn (tgt := 678) (off := 645) hx hb dL_law_33 hv0 hv1 (by rw [hk]; rfl) (by decide) ?_
          exact lc_number l C1 hK hN ⟨hi0, hi6, hL⟩ hP hD hS hl ce se (hs.2.2.2.2.2.2.2.2.2.2.2.2.2.2.1 A C D M hok hR _ _) next
        · refine lv_tableIn (tgt := 711) (off := 678) hx hb dL_law_33 hv0 hv1 (by rw [hk]; rfl) (by decide) ?_
          exact lc_rule l C1 hK hN ⟨hi0, hi6, hL⟩ hP hD hS hl ce se (hs.2.2.2.2.2.2.2.2.2.2.2.2.2.2.2.1 A C D M hok hR _ _) next
        · refine lv_tableIn (tgt := 745) (off := 712) hx hb dL_law_33 hv0 hv1 (by rw [hk]; rfl) (by decide) ?_
          exact lc_stairs l C1 hK hN ⟨hi0, hi6, hL⟩ hP hD hS hl ce se (hs.2.2.2.2.2.2.2.2.2.2.2.2.2.2.2.2.1 A C D M hok hR _ _) next
        · refine lv_tableIn (tgt := 778) (off := 745) hx hb dL_law_33 hv0 hv1 (by rw [hk]; rfl) (by decide) ?_
          exact lc_point l C1 hK hN ⟨hi0, hi6, hL⟩ hP hD hS hl ce se (hs.2.2.2.2.2.2.2.2.2.2.2.2.2.2.2.2.2.1 A C D M hok hR _ _ _ _) next
        · refine lv_tableIn (tgt := 831) (off := 798) hx hb dL_law_33 hv0 hv1 (by rw [hk]; rfl) (by decide) ?_
          exact lc_rank l C1 hK hN ⟨hi0, hi6, hL⟩ hP hD hS hl ce se (hs.2.2.2.2.2.2.2.2.2.2.2.2.2.2.2.2.2.2.1 A C D M hok hR _ _ _ _ _) next
        · refine lv_tableIn (tgt := 894) (off := 861) hx hb dL_law_33 hv0 hv1 (by rw [hk]; rfl) (by decide) ?_
          exact lc_move l C1 hK hN ⟨hi0, hi6, hL⟩ hP hD hS hl ce se (hs.2.2.2.2.2.2.2.2.2.2.2.2.2.2.2.2.2.2.2.1 A C D M hok hR _ _ _ _) next
        · refine lv_tableIn (tgt := 947) (off := 914) hx hb dL_law_33 hv0 hv1 (by rw [hk]; rfl) (by decide) ?_
          exact lc_turn l C1 hK hN ⟨hi0, hi6, hL⟩ hP hD hS hl ce se (hs.2.2.2.2.2.2.2.2.2.2.2.2.2.2.2.2.2.2.2.2.1 A C D M hok hR _ _) next
        · refine lv_tableIn (tgt := 980) (off := 947) hx hb dL_law_33 hv0 hv1 (by rw [hk]; rfl) (by decide) ?_
          exact lc_join l C1 hK hN ⟨hi0, hi6, hL⟩ hP hD hS hl ce se (hs.2.2.2.2.2.2.2.2.2.2.2.2.2.2.2.2.2.2.2.2.2.1 A C D M hok hR _ _) next
        · refine lv_tableIn (tgt := 1013) (off := 980) hx hb dL_law_33 hv0 hv1 (by rw [hk]; rfl) (by decide) ?_
          exact lc_slice l C1 hK hN ⟨hi0, hi6, hL⟩ hP hD hS hl ce se (hs.2.2.2.2.2.2.2.2.2.2.2.2.2.2.2.2.2.2.2.2.2.2.1 A C D M hok hR _ _ _) next
        · refine lv_tableIn (tgt := 1056) (off := 1023) hx hb dL_law_33 hv0 hv1 (by rw [hk]; rfl) (by decide) ?_
          exact lc_within l C1 hK hN ⟨hi0, hi6, hL⟩ hP hD hS hl ce se (hs.2.2.2.2.2.2.2.2.2.2.2.2.2.2.2.2.2.2.2.2.2.2.2.1 A C D M hok hR _ _) next
        · refine lv_tableIn (tgt := 1089) (off := 1056) hx hb dL_law_33 hv0 hv1 (by rw [hk]; rfl) (by decide) ?_
          exact lc_same l C1 hK hN ⟨hi0, hi6, hL⟩ hP hD hS hl ce se (hs.2.2.2.2.2.2.2.2.2.2.2.2.2.2.2.2.2.2.2.2.2.2.2.2.1 A C D M hok hR _ _) next
        · refine lv_tableIn (tgt := 1122) (off := 1089) hx hb dL_law_33 hv0 hv1 (by rw [hk]; rfl) (by decide) ?_
          exact lc_most l C1 hK hN ⟨hi0, hi6, hL⟩ hP hD hS hl ce se (hs.2.2.2.2.2.2.2.2.2.2.2.2.2.2.2.2.2.2.2.2.2.2.2.2.2.1 A C D M hok hR _ _ _ _ _) next
        · refine lv_tableIn (tgt := 1201) (off := 1168) hx hb dL_law_33 hv0 hv1 (by rw [hk]; rfl) (by decide) ?_
          exact lc_all l C1 hK hN ⟨hi0, hi6, hL⟩ hP hD hS hl ce se (hs.2.2.2.2.2.2.2.2.2.2.2.2.2.2.2.2.2.2.2.2.2.2.2.2.2.2 A C D M hok hR _) next
