/-! class and reference step alike: the pure steps put over the machine -/
theorem sim1 {l : Launch} {G : GT} {R : XCt → MCt → Prop} {A : XAd} {C : XCt} {D : MAd} {M : MCt} {yx : MethodName} {wx : List Cond} {ym : MethodName} {wm : List Cond} {as : List Value} {r r2 : Int32} {C2 : XCt} {M2 : MCt} (h1 : XK l yx wx (.ref A.h :: as) G A C (.int r) (fun C3 => C3 = C2)) (h2 : MK l ym wm (.ref D.h :: as) G D M (.int r2) M2) (e : r = r2) (hR : R C2 M2) : SimI l G R A C D M yx wx ym wm as := by
  subst e
  exact ⟨r, M2, h1.mono (fun C3 q => by rw [q]; exact hR), h2⟩
theorem sim2 {l : Launch} {G : GT} {R : XCt → MCt → Prop} {A : XAd} {C : XCt} {D : MAd} {M : MCt} {yx : MethodName} {wx : List Cond} {ym : MethodName} {wm : List Cond} {as : List Value} {r r2 : Int32} {C1 C2 : XCt} {M2 : MCt} (h1 : XK l yx wx (.ref A.h :: as) G A C (.int r) (fun C3 => C3 = C1 ∨ C3 = C2)) (h2 : MK l ym wm (.ref D.h :: as) G D M (.int r2) M2) (e : r = r2) (hR1 : R C1 M2) (hR : R C2 M2) : SimI l G R A C D M yx wx ym wm as := by
  subst e
  exact ⟨r, M2, h1.mono (fun C3 q => q.elim (fun q => by rw [q]; exact hR1) (fun q => by rw [q]; exact hR)), h2⟩
theorem sml1 {l : Launch} {G : GT} {R : XCt → MCt → Prop} {A : XAd} {C : XCt} {D : MAd} {M : MCt} {yx : MethodName} {wx : List Cond} {ym : MethodName} {wm : List Cond} {as : List Value} {r r2 : Int64} {C2 : XCt} {M2 : MCt} (h1 : XK l yx wx (.ref A.h :: as) G A C (.long r) (fun C3 => C3 = C2)) (h2 : MK l ym wm (.ref D.h :: as) G D M (.long r2) M2) (e : r = r2) (hR : R C2 M2) : SimL l G R A C D M yx wx ym wm as := by
  subst e
  exact ⟨r, M2, h1.mono (fun C3 q => by rw [q]; exact hR), h2⟩
theorem sml2 {l : Launch} {G : GT} {R : XCt → MCt → Prop} {A : XAd} {C : XCt} {D : MAd} {M : MCt} {yx : MethodName} {wx : List Cond} {ym : MethodName} {wm : List Cond} {as : List Value} {r r2 : Int64} {C1 C2 : XCt} {M2 : MCt} (h1 : XK l yx wx (.ref A.h :: as) G A C (.long r) (fun C3 => C3 = C1 ∨ C3 = C2)) (h2 : MK l ym wm (.ref D.h :: as) G D M (.long r2) M2) (e : r = r2) (hR1 : R C1 M2) (hR : R C2 M2) : SimL l G R A C D M yx wx ym wm as := by
  subst e
  exact ⟨r, M2, h1.mono (fun C3 q => q.elim (fun q => by rw [q]; exact hR1) (fun q => by rw [q]; exact hR)), h2⟩
theorem x_rb {A : XAd} {C : XCt} (hx : xok A C) {k : Nat} {b : BCt} (hb : C.bo[k]? = some b) : ∃ f, A.RB k = some f := by
  obtain ⟨a, ha⟩ := x_ad hx hb
  exact ⟨a.f, hx.rb k a ha⟩
set_option maxRecDepth 20000 in
set_option maxHeartbeats 2000000 in
theorem s_corner (l : Launch) (G : GT) : S_corner l G Rl := by
  intro A C D M hx hR x1 x2 x3
  obtain ⟨res, resM, h1, h2, e, hR2⟩ := Rl_corner hR x1 x2 x3
  exact sim1 (XK_X8_corner l G hx x1 x2 x3 res h1) (MK_corner l G D M x1 x2 x3 resM h2) e hR2
set_option maxRecDepth 20000 in
set_option maxHeartbeats 2000000 in
theorem s_sheaf (l : Launch) (G : GT) : S_sheaf l G Rl := by
  intro A C D M hx hR x1 x2 x3
  obtain ⟨res, resM, h1, h2, e, hR2⟩ := Rl_sheaf hR x1 x2 x3
  exact sim1 (XK_X8_sheaf l G hx x1 x2 x3 res h1) (MK_sheaf l G D M x1 x2 x3 resM h2) e hR2
set_option maxRecDepth 20000 in
set_option maxHeartbeats 2000000 in
theorem s_draw (l : Launch) (G : GT) : S_draw l G Rl := by
  intro A C D M hx hR x1 x2 x3
  obtain ⟨res, resM, h1, h2, e, hR2⟩ := Rl_draw hR x1 x2 x3
  exact sim1 (XK_X8_draw l G hx x1 x2 x3 res h1) (MK_draw l G D M x1 x2 x3 resM h2) e hR2
set_option maxRecDepth 20000 in
set_option maxHeartbeats 2000000 in
theorem s_clear (l : Launch) (G : GT) : S_clear l G Rl := by
  intro A C D M hx hR
  obtain ⟨res, resM, h1, h2, e, hR2⟩ := Rl_clear hR 
  exact sim1 (XK_X8_clear l G hx  res h1) (MK_clear l G D M  resM h2) e hR2
set_option maxRecDepth 20000 in
set_option maxHeartbeats 2000000 in
theorem s_lay_y (l : Launch) (G : GT) (A : XAd) (C : XCt) (D : MAd) (M : MCt) (hx : xok A C) (hR : Rl C M) (x1 x2 : Int32) (y : Int64) : SimI l G Rl A C D M yX8_lay wsX8_lay yX9_lay wsX9_lay [.int x1, .int x2, .long y] := by
  obtain ⟨res, resM, h1, h2, e, hR2⟩ := Rl_lay hR x1 x2 y
  exact sim1 (XK_X8_lay l G hx x1 x2 y res h1) (MK_lay l G D M x1 x2 y resM h2) e hR2
theorem s_lay (l : Launch) (G : GT) : S_lay l G Rl := fun A C D M hx hR x1 x2 _ _ => s_lay_y l G A C D M hx hR x1 x2 _
set_option maxRecDepth 20000 in
set_option maxHeartbeats 2000000 in
theorem s_most_y (l : Launch) (G : GT) (A : XAd) (C : XCt) (D : MAd) (M : MCt) (hx : xok A C) (hR : Rl C M) (x1 x2 x3 x4 y : Int32) : SimI l G Rl A C D M yX8_most wsX8_most yX9_most wsX9_most [.int x1, .int x2, .int x3, .int x4, .int y] := by
  rcases Rl_most hR x1 x2 x3 x4 y with ⟨r, h1, h2⟩ | ⟨b, r, hb, h1, h2⟩
  · exact sim1 (XK_X8_most_N l G hx x1 x2 x3 x4 y r h1) (MK_most l G D M x1 x2 x3 x4 y r h2) rfl hR
  · exact sim1 (XK_X8_most_F l G hx x1 x2 x3 x4 y b hb r h1) (MK_most l G D M x1 x2 x3 x4 y r h2) rfl hR
theorem s_most (l : Launch) (G : GT) : S_most l G Rl := fun A C D M hx hR x1 x2 x3 x4 _ => s_most_y l G A C D M hx hR x1 x2 x3 x4 _
set_option maxRecDepth 20000 in
set_option maxHeartbeats 2000000 in
theorem s_all (l : Launch) (G : GT) : S_all l G Rl := by
  intro A C D M hx hR x1
  obtain ⟨r, h1, h2⟩ := Rl_all hR x1
  exact sim1 (XK_X8_all l G hx x1 r h1) (MK_all l G D M x1 r h2) rfl hR
set_option maxRecDepth 20000 in
set_option maxHeartbeats 2000000 in
theorem s_drop (l : Launch) (G : GT) : S_drop l G Rl := by
  intro A C D M hx hR
  rcases Rl_drop hR with ⟨res, resM, h0, h1, hbc, h2, e, hR2⟩ | ⟨res, resM, bs, b, h0, h1, hbc, hbc2, h2, e, hR2⟩
  · exact sim1 (XK_X8_drop_no l G hx res h1 hbc) (MK_drop l G D M resM h2) e hR2
  · exact sim1 (XK_X8_drop_dr l G hx res h1 bs b h0 hbc hbc2) (MK_drop l G D M resM h2) e hR2
set_option maxRecDepth 20000 in
set_option maxHeartbeats 2000000 in
theorem s_about (l : Launch) (G : GT) : S_about l G Rl := by
  intro A C D M hx hR x1 x2
  rcases Rl_about hR x1 x2 with ⟨r, h1, h2⟩ | ⟨b, r, hb, h1, h2⟩
  · exact sim1 (XK_X8_about_N l G hx x1 x2 r h1) (MK_about l G D M x1 x2 r h2) rfl hR
  · exact sim1 (XK_X8_about_F l G hx x1 x2 b hb r h1) (MK_about l G D M x1 x2 r h2) rfl hR
set_option maxRecDepth 20000 in
set_option maxHeartbeats 2000000 in
theorem s_cornerOf (l : Launch) (G : GT) : S_cornerOf l G Rl := by
  intro A C D M hx hR x1 x2 x3
  rcases Rl_cornerOf hR x1 x2 x3 with ⟨r, h1, h2⟩ | ⟨b, r, hb, h1, h2⟩
  · exact sim1 (XK_X8_cornerOf_N l G hx x1 x2 x3 r h1) (MK_cornerOf l G D M x1 x2 x3 r h2) rfl hR
  · exact sim1 (XK_X8_cornerOf_F l G hx x1 x2 x3 b hb r h1) (MK_cornerOf l G D M x1 x2 x3 r h2) rfl hR
set_option maxRecDepth 20000 in
set_option maxHeartbeats 2000000 in
theorem s_side (l : Launch) (G : GT) : S_side l G Rl := by
  intro A C D M hx hR x1 x2 x3
  rcases Rl_side hR x1 x2 x3 with ⟨r, h1, h2⟩ | ⟨b, r, hb, h1, h2⟩
  · exact sim1 (XK_X8_side_N l G hx x1 x2 x3 r h1) (MK_side_ l G D M x1 x2 x3 r h2) rfl hR
  · exact sim1 (XK_X8_side_F l G hx x1 x2 x3 b hb r h1) (MK_side_ l G D M x1 x2 x3 r h2) rfl hR
set_option maxRecDepth 20000 in
set_option maxHeartbeats 2000000 in
theorem s_on (l : Launch) (G : GT) : S_on l G Rl := by
  intro A C D M hx hR x1 x2
  rcases Rl_on hR x1 x2 with ⟨r, h1, h2⟩ | ⟨b, r, hb, h1, h2⟩
  · exact sim1 (XK_X8_on_N l G hx x1 x2 r h1) (MK_on l G D M x1 x2 r h2) rfl hR
  · exact sim1 (XK_X8_on_F l G hx x1 x2 b hb r h1) (MK_on l G D M x1 x2 r h2) rfl hR
set_option maxRecDepth 20000 in
set_option maxHeartbeats 2000000 in
theorem s_has (l : Launch) (G : GT) : S_has l G Rl := by
  intro A C D M hx hR x1 x2 x3 x4 x5
  rcases Rl_has hR x1 x2 x3 x4 x5 with ⟨r, h1, h2⟩ | ⟨b, r, hb, h1, h2⟩
  · exact sim1 (XK_X8_has_N l G hx x1 x2 x3 x4 x5 r h1) (MK_has l G D M x1 x2 x3 x4 x5 r h2) rfl hR
  · exact sim1 (XK_X8_has_F l G hx x1 x2 x3 x4 x5 b hb r h1) (MK_has l G D M x1 x2 x3 x4 x5 r h2) rfl hR
set_option maxRecDepth 20000 in
set_option maxHeartbeats 2000000 in
theorem s_within (l : Launch) (G : GT) : S_within l G Rl := by
  intro A C D M hx hR x1 x2
  rcases Rl_within hR x1 x2 with ⟨r, h1, h2⟩ | ⟨b1, r, hb1, h1, h2⟩ | ⟨b, r, hb, h1, h2⟩ | ⟨b, b1, r, hb, hb1, hne, h1, h2⟩ | ⟨b, r, hb, he, h1, h2⟩
  · exact sim1 (XK_X8_within_NN l G hx x1 x2 r h1) (MK_within l G D M x1 x2 r h2) rfl hR
  · obtain ⟨f, hf⟩ := x_rb hx hb1
    exact sim1 (XK_X8_within_NF l G hx x1 x2 0 f hf r h1) (MK_within l G D M x1 x2 r h2) rfl hR
  · obtain ⟨f, hf⟩ := x_rb hx hb
    exact sim1 (XK_X8_within_FN l G hx x1 x2 f 0 hf r h1) (MK_within l G D M x1 x2 r h2) rfl hR
  · exact sim1 (XK_X8_within_FF l G hx x1 x2 b hb b1 hb1 hne r h1) (MK_within l G D M x1 x2 r h2) rfl hR
  · exact sim1 (XK_X8_within_SS l G hx x1 x2 b hb he r h1) (MK_within l G D M x1 x2 r h2) rfl hR
set_option maxRecDepth 20000 in
set_option maxHeartbeats 2000000 in
theorem s_same (l : Launch) (G : GT) : S_same l G Rl := by
  intro A C D M hx hR x1 x2
  rcases Rl_same hR x1 x2 with ⟨r, h1, h2⟩ | ⟨b1, r, hb1, h1, h2⟩ | ⟨b, r, hb, h1, h2⟩ | ⟨b, b1, r, hb, hb1, hne, h1, h2⟩ | ⟨b, r, hb, he, h1, h2⟩
  · exact sim1 (XK_X8_same_NN l G hx x1 x2 r h1) (MK_same l G D M x1 x2 r h2) rfl hR
  · obtain ⟨f, hf⟩ := x_rb hx hb1
    exact sim1 (XK_X8_same_NF l G hx x1 x2 0 f hf r h1) (MK_same l G D M x1 x2 r h2) rfl hR
  · obtain ⟨f, hf⟩ := x_rb hx hb
    exact sim1 (XK_X8_same_FN l G hx x1 x2 f 0 hf r h1) (MK_same l G D M x1 x2 r h2) rfl hR
  · exact sim1 (XK_X8_same_FF l G hx x1 x2 b hb b1 hb1 hne r h1) (MK_same l G D M x1 x2 r h2) rfl hR
  · exact sim1 (XK_X8_same_SS l G hx x1 x2 b hb he r h1) (MK_same l G D M x1 x2 r h2) rfl hR
set_option maxRecDepth 20000 in
set_option maxHeartbeats 2000000 in
theorem s_count (l : Launch) (G : GT) : S_count l G Rl := by
  intro A C D M hx hR x1 x2
  rcases Rl_count hR x1 x2 with ⟨r, h1, h2⟩ | ⟨b, dg, NU, r, hb, hg, h1, h2⟩ | ⟨b, gres, r, hb, hg, hG, h1, h2, hR2⟩
  · exact sim1 (XK_X8_count_N l G hx x1 x2 r h1) (MK_count l G D M x1 x2 r h2) rfl hR
  · exact sim1 (XK_X8_count_c l G hx x1 x2 b hb dg NU hg r h1) (MK_count l G D M x1 x2 r h2) rfl hR
  · exact sim2 (XK_X8_count_g l G hx x1 x2 b hb hg gres hG r h1) (MK_count l G D M x1 x2 r h2) rfl hR hR2
set_option maxRecDepth 20000 in
set_option maxHeartbeats 2000000 in
theorem s_inner (l : Launch) (G : GT) : S_inner l G Rl := by
  intro A C D M hx hR x1 x2
  rcases Rl_inner hR x1 x2 with ⟨r, h1, h2⟩ | ⟨b, dg, NU, r, hb, hg, h1, h2⟩ | ⟨b, gres, r, hb, hg, hG, h1, h2, hR2⟩
  · exact sim1 (XK_X8_inner_N l G hx x1 x2 r h1) (MK_inner l G D M x1 x2 r h2) rfl hR
  · exact sim1 (XK_X8_inner_c l G hx x1 x2 b hb dg NU hg r h1) (MK_inner l G D M x1 x2 r h2) rfl hR
  · exact sim2 (XK_X8_inner_g l G hx x1 x2 b hb hg gres hG r h1) (MK_inner l G D M x1 x2 r h2) rfl hR hR2
set_option maxRecDepth 20000 in
set_option maxHeartbeats 2000000 in
theorem s_stairs (l : Launch) (G : GT) : S_stairs l G Rl := by
  intro A C D M hx hR x1 x2
  rcases Rl_stairs hR x1 x2 with ⟨r, h1, h2⟩ | ⟨b, dg, NU, r, hb, hg, h1, h2⟩ | ⟨b, gres, r, hb, hg, hG, h1, h2, hR2⟩
  · exact sim1 (XK_X8_stairs_N l G hx x1 x2 r h1) (MK_stairs l G D M x1 x2 r h2) rfl hR
  · exact sim1 (XK_X8_stairs_c l G hx x1 x2 b hb dg NU hg r h1) (MK_stairs l G D M x1 x2 r h2) rfl hR
  · exact sim2 (XK_X8_stairs_g l G hx x1 x2 b hb hg gres hG r h1) (MK_stairs l G D M x1 x2 r h2) rfl hR hR2
set_option maxRecDepth 20000 in
set_option maxHeartbeats 2000000 in
theorem s_number (l : Launch) (G : GT) : S_number l G Rl := by
  intro A C D M hx hR x1 x2
  rcases Rl_number hR x1 x2 with ⟨r, SX, h1, h2⟩ | ⟨b, dg, NU, r, SX, hb, hg, h1, h2⟩ | ⟨b, gres, r, SX, hb, hg, hG, h1, h2, hR2⟩
  · exact sim1 (XK_X8_number_N l G hx x1 x2 r h1) (MK_number l G D M x1 x2 (r, SX) h2) rfl (Rl_SX hR SX)
  · exact sim1 (XK_X8_number_c l G hx x1 x2 b hb dg NU hg r h1) (MK_number l G D M x1 x2 (r, SX) h2) rfl (Rl_SX hR SX)
  · exact sim2 (XK_X8_number_g l G hx x1 x2 b hb hg gres hG r h1) (MK_number l G D M x1 x2 (r, SX) h2) rfl (Rl_SX hR SX) (Rl_SX hR2 SX)
set_option maxRecDepth 20000 in
set_option maxHeartbeats 2000000 in
theorem s_rule (l : Launch) (G : GT) : S_rule l G Rl := by
  intro A C D M hx hR x1 x2
  rcases Rl_rule hR x1 x2 with ⟨r, SX, h1, h2⟩ | ⟨b, dg, NU, r, SX, hb, hg, h1, h2⟩ | ⟨b, gres, r, SX, hb, hg, hG, h1, h2, hR2⟩
  · exact sml1 (XK_X8_rule_N l G hx x1 x2 r h1) (MK_rule l G D M x1 x2 (r, SX) h2) rfl (Rl_SX hR SX)
  · exact sml1 (XK_X8_rule_c l G hx x1 x2 b hb dg NU hg r h1) (MK_rule l G D M x1 x2 (r, SX) h2) rfl (Rl_SX hR SX)
  · exact sml2 (XK_X8_rule_g l G hx x1 x2 b hb hg gres hG r h1) (MK_rule l G D M x1 x2 (r, SX) h2) rfl (Rl_SX hR SX) (Rl_SX hR2 SX)
set_option maxRecDepth 20000 in
set_option maxHeartbeats 2000000 in
theorem s_point (l : Launch) (G : GT) : S_point l G Rl := by
  intro A C D M hx hR x1 x2 x3 x4
  rcases Rl_point hR x1 x2 x3 x4 with ⟨res, resM, h1, h2, e⟩ | ⟨b, res, resM, hb, h1, h2, e⟩ | ⟨b, r, res, resM, hb, hr, h1, h2, e, hR2⟩ | ⟨b, res, resM, hb, hr, h1, h2, e, hR2⟩
  · exact sim1 (XK_X8_point_N l G hx x1 x2 x3 x4 res h1) (MK_point_ l G D M x1 x2 x3 x4 resM h2) e (Rl_tx hR _ _ _)
  · exact sim1 (XK_X8_point_B l G hx x1 x2 x3 x4 b hb res h1) (MK_point_ l G D M x1 x2 x3 x4 resM h2) e (Rl_tx hR _ _ _)
  · exact sim1 (XK_X8_point_C l G hx x1 x2 x3 x4 b hb r hr res h1) (MK_point_ l G D M x1 x2 x3 x4 resM h2) e (Rl_tx hR2 _ _ _)
  · exact sim1 (XK_X8_point_W l G hx x1 x2 x3 x4 b hb hr res h1) (MK_point_ l G D M x1 x2 x3 x4 resM h2) e (Rl_tx hR2 _ _ _)
set_option maxRecDepth 20000 in
set_option maxHeartbeats 2000000 in
theorem s_rank (l : Launch) (G : GT) : S_rank l G Rl := by
  intro A C D M hx hR x1 x2 x3 x4 x5
  rcases Rl_rank hR x1 x2 x3 x4 x5 with ⟨res, resM, h1, h2, e⟩ | ⟨b, res, resM, hb, h1, h2, e⟩ | ⟨b, r, res, resM, hb, hr, h1, h2, e, hR2⟩ | ⟨b, res, resM, hb, hr, h1, h2, e, hR2⟩
  · exact sim1 (XK_X8_rank_N l G hx x1 x2 x3 x4 x5 res h1) (MK_rank l G D M x1 x2 x3 x4 x5 resM h2) e (Rl_tx hR _ _ _)
  · exact sim1 (XK_X8_rank_B l G hx x1 x2 x3 x4 x5 b hb res h1) (MK_rank l G D M x1 x2 x3 x4 x5 resM h2) e (Rl_tx hR _ _ _)
  · exact sim1 (XK_X8_rank_C l G hx x1 x2 x3 x4 x5 b hb r hr res h1) (MK_rank l G D M x1 x2 x3 x4 x5 resM h2) e (Rl_tx hR2 _ _ _)
  · exact sim1 (XK_X8_rank_W l G hx x1 x2 x3 x4 x5 b hb hr res h1) (MK_rank l G D M x1 x2 x3 x4 x5 resM h2) e (Rl_tx hR2 _ _ _)
set_option maxRecDepth 20000 in
set_option maxHeartbeats 2000000 in
theorem s_body (l : Launch) (G : GT) : S_body l G Rl := by
  intro A C D M hx hR
  rcases Rl_body hR with ⟨res, resM, h1, h2, e, hR2⟩ | ⟨res, resM, h1, hlt, hbc, h2, e, hR2⟩
  · exact sim1 (XK_X8_body_no l G hx res h1) (MK_body l G D M resM h2) e hR2
  · exact sim1 (XK_X8_body_mk l G hx res h1 hlt hbc) (MK_body l G D M resM h2) e hR2
set_option maxRecDepth 20000 in
set_option maxHeartbeats 2000000 in
theorem s_move (l : Launch) (G : GT) : S_move l G Rl := by
  intro A C D M hx hR x1 x2 x3 x4
  rcases Rl_move hR x1 x2 x3 x4 with ⟨res, resM, h1, h2, e, hR2⟩ | ⟨b, res, resM, hb, h1, h2, e, hR2⟩ | ⟨b, res, resM, hb, h1, hlt, hbc, h2, e, hR2⟩
  · exact sim1 (XK_X8_move_N l G hx x1 x2 x3 x4 res h1) (MK_move l G D M x1 x2 x3 x4 resM h2) e hR2
  · exact sim1 (XK_X8_move_no l G hx x1 x2 x3 x4 b hb res h1) (MK_move l G D M x1 x2 x3 x4 resM h2) e hR2
  · exact sim1 (XK_X8_move_mk l G hx x1 x2 x3 x4 b hb res h1 hlt hbc) (MK_move l G D M x1 x2 x3 x4 resM h2) e hR2
set_option maxRecDepth 20000 in
set_option maxHeartbeats 2000000 in
theorem s_turn (l : Launch) (G : GT) : S_turn l G Rl := by
  intro A C D M hx hR x1 x2
  rcases Rl_turn hR x1 x2 with ⟨res, resM, h1, h2, e, hR2⟩ | ⟨b, res, resM, hb, h1, h2, e, hR2⟩ | ⟨b, res, resM, hb, h1, hlt, hbc, h2, e, hR2⟩
  · exact sim1 (XK_X8_turn_N l G hx x1 x2 res h1) (MK_turn l G D M x1 x2 resM h2) e hR2
  · exact sim1 (XK_X8_turn_no l G hx x1 x2 b hb res h1) (MK_turn l G D M x1 x2 resM h2) e hR2
  · exact sim1 (XK_X8_turn_mk l G hx x1 x2 b hb res h1 hlt hbc) (MK_turn l G D M x1 x2 resM h2) e hR2
set_option maxRecDepth 20000 in
set_option maxHeartbeats 2000000 in
theorem s_join (l : Launch) (G : GT) : S_join l G Rl := by
  intro A C D M hx hR x1 x2
  rcases Rl_join hR x1 x2 with ⟨res, resM, h1, h2, e, hR2⟩ | ⟨b1, res, resM, hb1, h1, h2, e, hR2⟩ | ⟨b, res, resM, hb, h1, h2, e, hR2⟩ | ⟨b, b1, res, resM, hb, hb1, hne, h1, h2, e, hR2⟩ | ⟨b, b1, res, resM, hb, hb1, hne, h1, hlt, hbc, h2, e, hR2⟩ | ⟨b, res, resM, hb, he, h1, h2, e, hR2⟩ | ⟨b, res, resM, hb, he, h1, hlt, hbc, h2, e, hR2⟩
  · exact sim1 (XK_X8_join_NN l G hx x1 x2 res h1) (MK_join l G D M x1 x2 resM h2) e hR2
  · obtain ⟨f, hf⟩ := x_rb hx hb1
    exact sim1 (XK_X8_join_NF l G hx x1 x2 0 f hf res h1) (MK_join l G D M x1 x2 resM h2) e hR2
  · obtain ⟨f, hf⟩ := x_rb hx hb
    exact sim1 (XK_X8_join_FN l G hx x1 x2 f 0 hf res h1) (MK_join l G D M x1 x2 resM h2) e hR2
  · exact sim1 (XK_X8_join_dno l G hx x1 x2 b hb b1 hb1 hne res h1) (MK_join l G D M x1 x2 resM h2) e hR2
  · exact sim1 (XK_X8_join_dmk l G hx x1 x2 b hb b1 hb1 hne res h1 hlt hbc) (MK_join l G D M x1 x2 resM h2) e hR2
  · exact sim1 (XK_X8_join_sno l G hx x1 x2 b hb he res h1) (MK_join l G D M x1 x2 resM h2) e hR2
  · exact sim1 (XK_X8_join_smk l G hx x1 x2 b hb he res h1 hlt hbc) (MK_join l G D M x1 x2 resM h2) e hR2
set_option maxRecDepth 20000 in
set_option maxHeartbeats 2000000 in
theorem s_slice (l : Launch) (G : GT) : S_slice l G Rl := by
  intro A C D M hx hR x1 x2 x3
  rcases Rl_slice hR x1 x2 x3 with ⟨res, resM, h1, h2, e, hR2⟩ | ⟨b, res, resM, hb, h1, h2, e, hR2⟩ | ⟨b, r, res, resM, hb, hr, h1, h2, e, hR2⟩ | ⟨b, r, res, resM, hb, hr, h1, hlt, hbc, h2, e, hR2⟩ | ⟨b, res, resM, hb, hr, h1, h2, e, hR2⟩ | ⟨b, res, resM, hb, hr, h1, hlt, hbc, h2, e, hR2⟩
  · exact sim1 (XK_X8_slice_N l G hx x1 x2 x3 res h1) (MK_slice l G D M x1 x2 x3 resM h2) e hR2
  · exact sim1 (XK_X8_slice_B l G hx x1 x2 x3 b hb res h1) (MK_slice l G D M x1 x2 x3 resM h2) e hR2
  · exact sim1 (XK_X8_slice_Cno l G hx x1 x2 x3 b hb r hr res h1) (MK_slice l G D M x1 x2 x3 resM h2) e hR2
  · exact sim1 (XK_X8_slice_Cmk l G hx x1 x2 x3 b hb r hr res h1 hlt hbc) (MK_slice l G D M x1 x2 x3 resM h2) e hR2
  · exact sim1 (XK_X8_slice_Wno l G hx x1 x2 x3 b hb hr res h1) (MK_slice l G D M x1 x2 x3 resM h2) e hR2
  · exact sim1 (XK_X8_slice_Wmk l G hx x1 x2 x3 b hb hr res h1 hlt hbc) (MK_slice l G D M x1 x2 x3 resM h2) e hR2
theorem sims_all (l : Launch) (G : GT) : Sims l G Rl := ⟨s_corner l G, s_sheaf l G, s_lay l G, s_draw l G, s_clear l G, s_body l G, s_drop l G, s_about l G, s_cornerOf l G, s_side l G, s_on l G, s_has l G, s_count l G, s_inner l G, s_number l G, s_rule l G, s_stairs l G, s_point l G, s_rank l G, s_move l G, s_turn l G, s_join l G, s_slice l G, s_within l G, s_same l G, s_most l G, s_all l G⟩
