/-! class and reference alike as a whole -/
theorem RefB_fr {i k f : Nat} {N : V3} {cs : Nat} {c : Nat → V3} {ss : Nat} {s : Nat → V3} {e be : Nat → Int} {FI CO CR SI SR MO BO FI' CO' CR' SI' SR' MO' BO' : Nat → Int32} (hR : RefB i f N cs c ss s e be FI CO CR SI SR BO) (hf : RFr k FI CO CR SI SR MO BO FI' CO' CR' SI' SR' MO' BO') (hik : i ≠ k) (hcs : cs ≤ 40) (hss : ss ≤ 80) : RefB i f N cs c ss s e be FI' CO' CR' SI' SR' BO' ∧ MO' i = MO i := by
  obtain ⟨r1, r2, r3, r4, r5, r6, r7⟩ := hR
  obtain ⟨k1, k2, k3, k4⟩ := hf
  obtain ⟨f1, f2, f3, f4⟩ := k1 i hik
  refine ⟨⟨f1.trans r1, f2.trans r2, fun j hj => ?_, f3.trans r4, fun j hj => ?_, fun hq => ?_, fun hq => ?_⟩, f4⟩
  · obtain ⟨a1, a2, a3⟩ := r3 j hj
    exact ⟨(k2 _ (by omega)).trans a1, (k2 _ (by omega)).trans a2, (k2 _ (by omega)).trans a3⟩
  · obtain ⟨a1, a2, a3, a4⟩ := r5 j hj
    exact ⟨(k3 _ (by omega)).trans a1, (k3 _ (by omega)).trans a2, (k3 _ (by omega)).trans a3, (k3 _ (by omega)).trans a4⟩
  · obtain ⟨a1, a2, a3⟩ := r6 hq
    exact ⟨(k4 _ (by omega)).trans a1, (k4 _ (by omega)).trans a2, (k4 _ (by omega)).trans a3⟩
  · exact (k4 _ (by omega)).trans (r7 hq)
/-- a body of the class and of the reference -/
def BRl (i : Nat) (b : BCt) (FI CO CR SI SR MO BO : Nat → Int32) : Prop := ∃ (n f : Nat) (N : V3) (cs : Nat) (c : Nat → V3) (ss : Nat) (s : Nat → V3) (e : Nat → Int) (bd' : Nat → V3) (be L G : Nat → Int), GB f N cs c ss s e bd' be L G ∧ b.kk = kkOf f (iz (n : Int)) cs c ss s e bd' be L G ∧ RefB i f N cs c ss s e be FI CO CR SI SR BO ∧ MO i = iz (n : Int) ∧ (∀ dg NU, b.gr = some (dg, NU) → dg = iz (f : Int) ∧ NUok f (Kc f N ss s e be L G) NU) ∧ SwK f N ss s e be L G b.sw
theorem BRl_fr {i k : Nat} {b : BCt} {FI CO CR SI SR MO BO FI' CO' CR' SI' SR' MO' BO' : Nat → Int32} (h : BRl i b FI CO CR SI SR MO BO) (hf : RFr k FI CO CR SI SR MO BO FI' CO' CR' SI' SR' MO' BO') (hik : i ≠ k) : BRl i b FI' CO' CR' SI' SR' MO' BO' := by
  obtain ⟨n, f, N, cs, c, ss, s, e, bd', be, L, G, h1, h2, h3, h4, h5, h6⟩ := h
  have hF := GB_facts h1
  obtain ⟨q1, q2⟩ := RefB_fr h3 hf hik hF.2.2.1 hF.2.2.2.1
  exact ⟨n, f, N, cs, c, ss, s, e, bd', be, L, G, h1, h2, q1, q2.trans h4, h5, h6⟩
/-- the bodies alike -/
def BsR (bo : List BCt) (FI CO CR SI SR MO BO : Nat → Int32) : Prop := bo.length ≤ 8 ∧ ∀ i b, bo[i]? = some b → BRl i b FI CO CR SI SR MO BO
theorem BsR_new {bo : List BCt} {FI CO CR SI SR MO BO FI' CO' CR' SI' SR' MO' BO' : Nat → Int32} (h : BsR bo FI CO CR SI SR MO BO) (hlt : bo.length < 8) (hf : RFr bo.length FI CO CR SI SR MO BO FI' CO' CR' SI' SR' MO' BO') {b : BCt} (hb : BRl bo.length b FI' CO' CR' SI' SR' MO' BO') : BsR (bo ++ [b]) FI' CO' CR' SI' SR' MO' BO' := by
  refine ⟨by rw [List.length_append]; simp; omega, fun i b' hi => ?_⟩
  by_cases c : i < bo.length
  · rw [List.getElem?_append_left c] at hi
    exact BRl_fr (h.2 i b' hi) hf (by omega)
  · rw [List.getElem?_append_right (by omega)] at hi
    by_cases e : i = bo.length
    · rw [e, Nat.sub_self] at hi
      have : b = b' := Option.some.inj hi
      rw [e, ← this]
      exact hb
    · obtain ⟨q, hq⟩ : ∃ q, i - bo.length = q + 1 := ⟨i - bo.length - 1, by omega⟩
      rw [hq] at hi
      exact absurd hi (by simp)
theorem BsR_set {bo : List BCt} {FI CO CR SI SR MO BO : Nat → Int32} (h : BsR bo FI CO CR SI SR MO BO) {k : Nat} {b : BCt} (hb : BRl k b FI CO CR SI SR MO BO) : BsR (bo.set k b) FI CO CR SI SR MO BO := by
  refine ⟨by rw [List.length_set]; exact h.1, fun i b' hi => ?_⟩
  by_cases c : k = i
  · subst c
    rw [List.getElem?_set] at hi
    split at hi
    · split at hi
      · have : b = b' := Option.some.inj hi
        rw [← this]
        exact hb
      · exact absurd hi (by simp)
    · rename_i q; exact (q rfl).elim
  · rw [List.getElem?_set_ne c] at hi
    exact h.2 i b' hi
theorem BsR_drop {bo : List BCt} {FI CO CR SI SR MO BO : Nat → Int32} (h : BsR bo FI CO CR SI SR MO BO) : BsR bo.dropLast FI CO CR SI SR MO BO := by
  refine ⟨by rw [List.length_dropLast]; have := h.1; omega, fun i b' hi => ?_⟩
  rw [List.getElem?_dropLast] at hi
  split at hi
  · exact h.2 i b' hi
  · exact absurd hi (by simp)
def Rl (C : XCt) (M : MCt) : Prop := DRel C.ds C.DX C.DY C.DZ M.DR ∧ M.dr = C.ds ∧ SRel C.la C.si C.CE M.LA M.LE M.CE ∧ C.bc = iz ((C.bo.length : Nat) : Int) ∧ M.bo = iz ((C.bo.length : Nat) : Int) ∧ BsR C.bo M.FI M.CO M.CR M.SI M.SR M.MO M.BO
theorem Rl_0 : Rl xC0 mC0 := by
  refine ⟨DRel_0 _ _ _ _, rfl, SRel_0, rfl, rfl, ?_, fun i b hi => ?_⟩
  · exact Nat.zero_le _
  · exact absurd hi (by show ¬ (([] : List BCt)[i]? = some b); simp)
