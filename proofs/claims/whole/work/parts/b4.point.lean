/-! point and rank alike, over contents -/
section
variable {f : Nat} {N : V3} {cs : Nat} {c : Nat → V3} {ss : Nat} {s : Nat → V3} {e : Nat → Int} {bd' : Nat → V3} {be L G : Nat → Int} {b bc : Nat} {FI CO CR SI' SR BO : Nat → Int32}
theorem sw_i {Q : Int} (h : -2147483648 ≤ Q) (h2 : Q < 2147483648) : fX8_isSwelling (iz Q) = some (if 1 ≤ Q ∧ Q ≤ 5 then 1 else 0) := by
  unfold fX8_isSwelling
  by_cases c1 : Q < 1
  · rw [if_pos (show iz Q < 1 by rw [z1, iz_lt (by omega) (by omega) (by omega) (by omega)]; exact c1), if_neg (by omega)]
  · rw [if_neg (show ¬ iz Q < 1 by rw [z1, iz_lt (by omega) (by omega) (by omega) (by omega)]; exact c1)]
    by_cases c2 : 5 < Q
    · rw [if_pos (show 5 < iz Q by rw [z5, iz_lt (by omega) (by omega) (by omega) (by omega)]; exact c2), if_neg (by omega)]
    · rw [if_neg (show ¬ 5 < iz Q by rw [z5, iz_lt (by omega) (by omega) (by omega) (by omega)]; exact c2), if_pos (by omega)]
theorem swC_i {Q : Int} (hQ : 1 ≤ Q ∧ Q ≤ 5) : fX0_swelling_C (iz Q) = some () := by
  unfold fX0_swelling_C
  have hk : (if (5 : Int32) < (if iz Q < 1 then 1 else iz Q) then 5 else (if iz Q < 1 then 1 else iz Q)) = iz Q := kept_i hQ
  rw [hk, gd_iz (by omega) (by omega) (by omega)]
theorem rank_both (h : GF f N cs c ss s e bd' be L G) (hR : RefB b f N cs c ss s e be FI CO CR SI' SR BO) (hb : b < bc) (hbc : bc ≤ 8) {Q : Int} (hQ : 1 ≤ Q ∧ Q ≤ 5) {r : SCt} (hr : SwP f N ss s e be L G Q r) (p3 p4 p5 : Int32) (m1 m2 m3 : Int32) : ∃ (v lo hi n1 n2 n3 : Int32), fX7_rankOf r.n ss (nbd f) r.fac r.lx r.gx r.ly r.gy r.lz r.gz r.lo r.hi r.BE (iz (ss : Int)) (px s) (py s) (pz s) (pe e) (iz ((nbd f : Nat) : Int)) (px bd') (py bd') (pz bd') (pe be) p3 p4 p5 = some (v, lo, hi) ∧ fX9_rank (iz (bc : Int)) m1 m2 m3 FI CO CR SI' SR BO (iz (b : Int)) (iz Q) p3 p4 p5 = some (v, n1, n2, n3) := by
  obtain ⟨x, rfl, x1, x2⟩ := some_iz p3
  obtain ⟨y, rfl, y1', y2'⟩ := some_iz p4
  obtain ⟨z, rfl, z1', z2'⟩ := some_iz p5
  obtain ⟨v, lo, hi, n1, n2, n3, e1, e2⟩ := rank_e h hR (show b < 8 by omega) hQ hr ⟨x1, x2⟩ ⟨y1', y2'⟩ ⟨z1', z2'⟩ m1 m2 m3
  refine ⟨v, lo, hi, n1, n2, n3, e1, ?_⟩
  have e2' : fX9_gone m1 m2 m3 FI CO CR SI' SR BO (iz (b : Int)) (iz Q) 0 1 (iz x) (iz y) (iz z) = some (v, n1, n2, n3) := e2
  unfold fX9_rank
  rw [is_i hb hbc, bd_some, if_neg n10, iz_lz (by omega) (by omega), show (1 : Int64) = lz 1 from rfl, show (5 : Int64) = lz 5 from rfl, in_z (by omega) (by omega) (by omega) (by omega) (by omega) (by omega), bd_some, if_pos hQ, if_neg n10, e2', bd_some]
theorem point_both (h : GF f N cs c ss s e bd' be L G) (hR : RefB b f N cs c ss s e be FI CO CR SI' SR BO) (hb : b < bc) (hbc : bc ≤ 8) {Q : Int} (hQ : 1 ≤ Q ∧ Q ≤ 5) {r : SCt} (hr : SwP f N ss s e be L G Q r) (p3 : Int32) {w : Nat} (hw : w < 3) (m1 m2 m3 : Int32) : ∃ (v lo hi n1 n2 n3 : Int32), fX7_pointPart r.n ss (nbd f) r.fac r.lx r.ly r.gy r.lz r.gz r.lo r.hi r.BE (iz (ss : Int)) (px s) (py s) (pz s) (pe e) (iz ((nbd f : Nat) : Int)) (px bd') (py bd') (pz bd') (pe be) p3 (iz (w : Int)) = some (v, lo, hi) ∧ fX9_point_ (iz (bc : Int)) m1 m2 m3 FI CO CR SI' SR BO (iz (b : Int)) (iz Q) p3 (iz (w : Int)) = some (v, n1, n2, n3) := by
  obtain ⟨x, rfl, x1, x2⟩ := some_iz p3
  unfold fX9_point_
  rw [is_i hb hbc, bd_some, if_neg n10, iz_lz (a := Q) (by omega) (by omega), show (1 : Int64) = lz 1 from rfl, show (5 : Int64) = lz 5 from rfl, in_z (by omega) (by omega) (by omega) (by omega) (by omega) (by omega), bd_some, if_pos hQ, if_neg n10]
  by_cases c0 : x < 0
  · rw [if_pos ((lt0 x1 x2).mpr c0)]
    unfold fX7_pointPart
    rw [if_pos ((lt0 x1 x2).mpr c0)]
    exact ⟨_, _, _, _, _, _, rfl, rfl⟩
  · rw [if_neg (fun q => c0 ((lt0 x1 x2).mp q)), iz_lz (by omega) (by omega), show (0 : Int64) = lz 0 from rfl, show (2 : Int64) = lz 2 from rfl, in_z (by omega) (by omega) (by omega) (by omega) (by omega) (by omega), bd_some, if_pos (show 0 ≤ (w : Int) ∧ (w : Int) ≤ 2 by omega), if_neg n10]
    obtain ⟨v, lo, hi, e1, e2⟩ := point_e h hR (show b < 8 by omega) hQ hr (show 0 ≤ x by omega) x2 hw m1 m2 m3
    rw [e1]
    rcases e2 with ⟨e2, e3⟩ | ⟨n, a1, a2, a3, e3, hn, ev⟩
    · have e3' : fX9_gone m1 m2 m3 FI CO CR SI' SR BO (iz (b : Int)) (iz Q) (iz x) 0 0 0 0 = some (-4, m1, m2, m3) := e3
      rw [e3', bd_some, if_pos rfl, e2]
      exact ⟨_, _, _, _, _, _, rfl, rfl⟩
    · have e3' : fX9_gone m1 m2 m3 FI CO CR SI' SR BO (iz (b : Int)) (iz Q) (iz x) 0 0 0 0 = some (iz (n : Int), a1, a2, a3) := e3
      rw [e3', bd_some, if_neg (show ¬ iz (n : Int) = -4 by rw [eqm4 (by omega) (by omega)]; omega)]
      refine ⟨v, lo, hi, a1, a2, a3, rfl, ?_⟩
      rw [ev]
      rcases (show w = 0 ∨ w = 1 ∨ w = 2 by omega) with rfl | rfl | rfl
      · rw [if_pos (by decide), if_pos rfl]
      · rw [if_neg (by decide), if_pos (by decide), if_neg (by decide), if_pos rfl]
      · rw [if_neg (by decide), if_neg (by decide), if_neg (by decide), if_neg (by decide)]
end
