/-! the whole world of the class: fixed cells, sheaves, bodies -/
def grO (G : GT) (o an : Nat) : Option (Int32 × (Nat → Int32)) → va_W
  | none => []
  | some g => grW G o an g.1 g.2
def bW (G : GT) (a : BAd) (b : BCt) : va_W := bcW G a b (b.gr.map (fun _ => a.o)) ++ (grO G a.o a.an b.gr ++ swsW G a b.sw)
def bsW (G : GT) : List BAd → List BCt → va_W
  | a :: as, b :: bs => bW G a b ++ bsW G as bs
  | _, _ => []
def shsW (G : GT) (A : XAd) (C : XCt) : va_W := shW G (A.sf 0) (A.sl 0) (C.la 0) (C.si 0) (C.CE 0) ++ (shW G (A.sf 1) (A.sl 1) (C.la 1) (C.si 1) (C.CE 1) ++ (shW G (A.sf 2) (A.sl 2) (C.la 2) (C.si 2) (C.CE 2) ++ shW G (A.sf 3) (A.sl 3) (C.la 3) (C.si 3) (C.CE 3)))
def xW (G : GT) (A : XAd) (C : XCt) : va_W := f1W G A C ++ (shsW G A C ++ bsW G A.bo C.bo)
def shI (k : Nat) : Nat := if k < 4 then k else 0
abbrev xok (A : XAd) (C : XCt) : Prop := A.bo.length = C.bo.length ∧ C.bo.length ≤ 8 ∧ C.bc.toInt = C.bo.length ∧ (∀ k, A.RS k = some (A.sf (shI k))) ∧ (∀ (k : Nat) (a : BAd), A.bo[k]? = some a → A.RB k = some a.f) ∧ (∀ (k : Nat) (a : BAd) (b : BCt), A.bo[k]? = some a → C.bo[k]? = some b → bok a b)
theorem xok.len {A : XAd} {C : XCt} (h : xok A C) : A.bo.length = C.bo.length := h.1
theorem xok.le8 {A : XAd} {C : XCt} (h : xok A C) : C.bo.length ≤ 8 := h.2.1
theorem xok.cnt {A : XAd} {C : XCt} (h : xok A C) : C.bc.toInt = C.bo.length := h.2.2.1
theorem xok.rs {A : XAd} {C : XCt} (h : xok A C) : ∀ k, A.RS k = some (A.sf (shI k)) := h.2.2.2.1
theorem xok.rb {A : XAd} {C : XCt} (h : xok A C) : ∀ (k : Nat) (a : BAd), A.bo[k]? = some a → A.RB k = some a.f := h.2.2.2.2.1
theorem xok.bk {A : XAd} {C : XCt} (h : xok A C) : ∀ (k : Nat) (a : BAd) (b : BCt), A.bo[k]? = some a → C.bo[k]? = some b → bok a b := h.2.2.2.2.2
theorem bs_focus (G : GT) : ∀ (as : List BAd) (bs : List BCt) (k : Nat) (a : BAd) (b : BCt), as[k]? = some a → bs[k]? = some b → (bsW G as bs).Perm (bW G a b ++ bsW G (as.eraseIdx k) (bs.eraseIdx k)) := by
  intro as
  induction as with
  | nil => intro bs k a b h; simp at h
  | cons x as ih =>
    intro bs k a b h1 h2
    cases bs with
    | nil => simp at h2
    | cons y bs =>
      cases k with
      | zero =>
        simp only [List.getElem?_cons_zero, Option.some.injEq] at h1 h2
        subst h1; subst h2
        exact .refl _
      | succ k =>
        simp only [List.getElem?_cons_succ] at h1 h2
        have := ih bs k a b h1 h2
        show (bW G x y ++ bsW G as bs).Perm (bW G a b ++ (bW G x y ++ bsW G (as.eraseIdx k) (bs.eraseIdx k)))
        refine (List.Perm.append_left _ this).trans ?_
        rw [← List.append_assoc, ← List.append_assoc]
        exact List.Perm.append_right _ List.perm_append_comm
theorem bs_set (G : GT) (as : List BAd) (bs : List BCt) (k : Nat) (a' : BAd) (b' : BCt) (h1 : k < as.length) (h2 : k < bs.length) : (bsW G (as.set k a') (bs.set k b')).Perm (bW G a' b' ++ bsW G (as.eraseIdx k) (bs.eraseIdx k)) := by
  have := bs_focus G (as.set k a') (bs.set k b') k a' b' (by simp [h1]) (by simp [h2])
  rwa [List.eraseIdx_set_eq, List.eraseIdx_set_eq] at this
theorem bs_app (G : GT) : ∀ (as : List BAd) (bs : List BCt) (a : BAd) (b : BCt), as.length = bs.length → (bsW G (as ++ [a]) (bs ++ [b])).Perm (bW G a b ++ bsW G as bs) := by
  intro as
  induction as with
  | nil =>
    intro bs a b h
    cases bs with
    | nil => exact .refl _
    | cons y bs => simp at h
  | cons x as ih =>
    intro bs a b h
    cases bs with
    | nil => simp at h
    | cons y bs =>
      show (bW G x y ++ bsW G (as ++ [a]) (bs ++ [b])).Perm (bW G a b ++ (bW G x y ++ bsW G as bs))
      refine (List.Perm.append_left _ (ih bs a b (by simpa using h))).trans ?_
      rw [← List.append_assoc, ← List.append_assoc]
      exact List.Perm.append_right _ List.perm_append_comm
theorem bs_pop (G : GT) (as : List BAd) (bs : List BCt) (a : BAd) (b : BCt) (h : as.length = bs.length) : ∃ x, (bsW G (as ++ [a]) (bs ++ [b])).Perm (bsW G as bs ++ x) :=
  ⟨bW G a b, (bs_app G as bs a b h).trans List.perm_append_comm⟩
theorem bs_focus2 (G : GT) (as : List BAd) (bs : List BCt) (k j : Nat) (a : BAd) (b : BCt) (a1 : BAd) (b1 : BCt) (hkj : k ≠ j) (h1 : as[k]? = some a) (h2 : bs[k]? = some b) (h3 : as[j]? = some a1) (h4 : bs[j]? = some b1) : ∃ Wr, (bsW G as bs).Perm (bW G a b ++ (bW G a1 b1 ++ Wr)) := by
  have p1 := bs_focus G as bs k a b h1 h2
  by_cases hlt : j < k
  · have p2 := bs_focus G (as.eraseIdx k) (bs.eraseIdx k) j a1 b1 (by rw [List.getElem?_eraseIdx, if_pos hlt]; exact h3) (by rw [List.getElem?_eraseIdx, if_pos hlt]; exact h4)
    exact ⟨_, p1.trans (List.Perm.append_left _ p2)⟩
  · have e : j - 1 + 1 = j := by omega
    have p2 := bs_focus G (as.eraseIdx k) (bs.eraseIdx k) (j - 1) a1 b1 (by rw [List.getElem?_eraseIdx, if_neg (by omega), e]; exact h3) (by rw [List.getElem?_eraseIdx, if_neg (by omega), e]; exact h4)
    exact ⟨_, p1.trans (List.Perm.append_left _ p2)⟩
/-- a body in focus -/
theorem x_focus (G : GT) (A : XAd) (C : XCt) (k : Nat) (a : BAd) (b : BCt) (h1 : A.bo[k]? = some a) (h2 : C.bo[k]? = some b) : (xW G A C).Perm (f1W G A C ++ (bW G a b ++ (shsW G A C ++ bsW G (A.bo.eraseIdx k) (C.bo.eraseIdx k)))) := by
  refine List.Perm.append_left _ ?_
  refine (List.Perm.append_left _ (bs_focus G A.bo C.bo k a b h1 h2)).trans ?_
  rw [← List.append_assoc, ← List.append_assoc]
  exact List.Perm.append_right _ List.perm_append_comm
theorem x_focus2 (G : GT) (A : XAd) (C : XCt) (k j : Nat) (a : BAd) (b : BCt) (a1 : BAd) (b1 : BCt) (hkj : k ≠ j) (h1 : A.bo[k]? = some a) (h2 : C.bo[k]? = some b) (h3 : A.bo[j]? = some a1) (h4 : C.bo[j]? = some b1) : ∃ Wr, (xW G A C).Perm (f1W G A C ++ (bW G a b ++ (bW G a1 b1 ++ (shsW G A C ++ Wr)))) ∧ (bsW G A.bo C.bo).Perm (bW G a b ++ (bW G a1 b1 ++ Wr)) := by
  obtain ⟨Wr, p⟩ := bs_focus2 G A.bo C.bo k j a b a1 b1 hkj h1 h2 h3 h4
  refine ⟨Wr, List.Perm.append_left _ ?_, p⟩
  refine (List.Perm.append_left _ p).trans ?_
  exact fl_perm [shsW G A C, bW G a b, bW G a1 b1] (is := [0, 1, 2]) (js := [1, 2, 0]) Wr (by decide)
/-- the sheaf in focus -/
theorem sh_focus (G : GT) (A : XAd) (C : XCt) (k : Nat) (hk : k < 4) : ∃ Wr, ∀ (C' : XCt), (∀ j, j ≠ k → C'.la j = C.la j ∧ C'.si j = C.si j ∧ C'.CE j = C.CE j) → (shsW G A C').Perm (shW G (A.sf k) (A.sl k) (C'.la k) (C'.si k) (C'.CE k) ++ Wr) := by
  have hk4 : k = 0 ∨ k = 1 ∨ k = 2 ∨ k = 3 := by omega
  rcases hk4 with rfl | rfl | rfl | rfl
  · refine ⟨shW G (A.sf 1) (A.sl 1) (C.la 1) (C.si 1) (C.CE 1) ++ (shW G (A.sf 2) (A.sl 2) (C.la 2) (C.si 2) (C.CE 2) ++ shW G (A.sf 3) (A.sl 3) (C.la 3) (C.si 3) (C.CE 3)), fun C' h => ?_⟩
    obtain ⟨a1, a2, a3⟩ := h 1 (by decide)
    obtain ⟨b1, b2, b3⟩ := h 2 (by decide)
    obtain ⟨c1, c2, c3⟩ := h 3 (by decide)
    rw [← a1, ← a2, ← a3, ← b1, ← b2, ← b3, ← c1, ← c2, ← c3]
    exact .refl _
  · refine ⟨shW G (A.sf 0) (A.sl 0) (C.la 0) (C.si 0) (C.CE 0) ++ (shW G (A.sf 2) (A.sl 2) (C.la 2) (C.si 2) (C.CE 2) ++ shW G (A.sf 3) (A.sl 3) (C.la 3) (C.si 3) (C.CE 3)), fun C' h => ?_⟩
    obtain ⟨a1, a2, a3⟩ := h 0 (by decide)
    obtain ⟨b1, b2, b3⟩ := h 2 (by decide)
    obtain ⟨c1, c2, c3⟩ := h 3 (by decide)
    rw [← a1, ← a2, ← a3, ← b1, ← b2, ← b3, ← c1, ← c2, ← c3]
    exact fl_perm [shW G (A.sf 0) (A.sl 0) (C'.la 0) (C'.si 0) (C'.CE 0), shW G (A.sf 1) (A.sl 1) (C'.la 1) (C'.si 1) (C'.CE 1), shW G (A.sf 2) (A.sl 2) (C'.la 2) (C'.si 2) (C'.CE 2)] (is := [0, 1, 2]) (js := [1, 0, 2]) (shW G (A.sf 3) (A.sl 3) (C'.la 3) (C'.si 3) (C'.CE 3)) (by decide)
  · refine ⟨shW G (A.sf 0) (A.sl 0) (C.la 0) (C.si 0) (C.CE 0) ++ (shW G (A.sf 1) (A.sl 1) (C.la 1) (C.si 1) (C.CE 1) ++ shW G (A.sf 3) (A.sl 3) (C.la 3) (C.si 3) (C.CE 3)), fun C' h => ?_⟩
    obtain ⟨a1, a2, a3⟩ := h 0 (by decide)
    obtain ⟨b1, b2, b3⟩ := h 1 (by decide)
    obtain ⟨c1, c2, c3⟩ := h 3 (by decide)
    rw [← a1, ← a2, ← a3, ← b1, ← b2, ← b3, ← c1, ← c2, ← c3]
    exact fl_perm [shW G (A.sf 0) (A.sl 0) (C'.la 0) (C'.si 0) (C'.CE 0), shW G (A.sf 1) (A.sl 1) (C'.la 1) (C'.si 1) (C'.CE 1), shW G (A.sf 2) (A.sl 2) (C'.la 2) (C'.si 2) (C'.CE 2)] (is := [0, 1, 2]) (js := [2, 0, 1]) (shW G (A.sf 3) (A.sl 3) (C'.la 3) (C'.si 3) (C'.CE 3)) (by decide)
  · refine ⟨shW G (A.sf 0) (A.sl 0) (C.la 0) (C.si 0) (C.CE 0) ++ (shW G (A.sf 1) (A.sl 1) (C.la 1) (C.si 1) (C.CE 1) ++ shW G (A.sf 2) (A.sl 2) (C.la 2) (C.si 2) (C.CE 2)), fun C' h => ?_⟩
    obtain ⟨a1, a2, a3⟩ := h 0 (by decide)
    obtain ⟨b1, b2, b3⟩ := h 1 (by decide)
    obtain ⟨c1, c2, c3⟩ := h 2 (by decide)
    rw [← a1, ← a2, ← a3, ← b1, ← b2, ← b3, ← c1, ← c2, ← c3]
    have p := fl_perm [shW G (A.sf 0) (A.sl 0) (C'.la 0) (C'.si 0) (C'.CE 0), shW G (A.sf 1) (A.sl 1) (C'.la 1) (C'.si 1) (C'.CE 1), shW G (A.sf 2) (A.sl 2) (C'.la 2) (C'.si 2) (C'.CE 2), shW G (A.sf 3) (A.sl 3) (C'.la 3) (C'.si 3) (C'.CE 3)] (is := [0, 1, 2, 3]) (js := [3, 0, 1, 2]) [] (by decide)
    exact p
theorem shI_lt (k : Nat) : shI k < 4 := by unfold shI; split <;> omega
