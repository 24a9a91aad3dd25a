/-! contracts over the whole world of the class -/
theorem KE.post2 {l : Launch} {y : MethodName} {ws : List Cond} {av : List Value} {G : GT} {wc : va_W} {Q Q' : Option Value → va_W → Prop} {fr lo ce sl : Nat} (h : KE l y ws av G wc Q fr lo ce sl) (hQ : ∀ v w, Q v w → ∃ w' x, w.Perm (w' ++ x) ∧ Q' v w') : KE l y ws av G wc Q' fr lo ce sl := by
  obtain ⟨rm, mc, ms, h1, h2, h3, h4, h5, h6, h7⟩ := h
  refine ⟨rm, mc, ms, h1, h2, h3, h4, h5, h6, fun sz => metMono (h7 sz) (fun _ _ h => h) (fun a s o t _ _ q => ?_) (fun _ h => h)⟩
  obtain ⟨⟨v, w, e1, e2, hP, hK, hD⟩, h4⟩ := q
  obtain ⟨w', x, p, h5⟩ := hQ v w e2
  exact ⟨⟨v, w', e1, h5, vP_pre (vP_perm p hP), hK, vD_pre (vD_perm p hD)⟩, h4⟩
def XQ (G : GT) (A : XAd) (r : Value) (P : XCt → Prop) : Option Value → va_W → Prop := fun v w => v = some r ∧ ∃ (A' : XAd) (C' : XCt), A'.h = A.h ∧ P C' ∧ xok A' C' ∧ w = xW G A' C'
abbrev XK (l : Launch) (y : MethodName) (ws : List Cond) (av : List Value) (G : GT) (A : XAd) (C : XCt) (r : Value) (P : XCt → Prop) : Prop := KE l y ws av G (xW G A C) (XQ G A r P) 8 200 50 2200
theorem XK.mono {l : Launch} {y : MethodName} {ws : List Cond} {av : List Value} {G : GT} {A : XAd} {C : XCt} {r : Value} {P P' : XCt → Prop} (h : XK l y ws av G A C r P) (hP : ∀ C', P C' → P' C') : XK l y ws av G A C r P' :=
  KE.post h (fun v w q => by
    obtain ⟨h1, A', C', h2, h3, h4, h5⟩ := q
    exact ⟨w, .refl _, h1, A', C', h2, hP C' h3, h4, h5⟩)
theorem set_same {α : Type} (l : List α) (k : Nat) (a : α) (h : l[k]? = some a) : l.set k a = l := by
  apply List.ext_getElem?
  intro j
  rw [List.getElem?_set]
  by_cases e : k = j
  · subst e
    have := (List.getElem?_eq_some_iff.mp h).1
    rw [if_pos rfl, if_pos this, h]
  · simp [e]
/-- what a body that was in focus leaves -/
theorem xfin (G : GT) (A A2 : XAd) (C C2 : XCt) (k : Nat) (a' : BAd) (b' : BCt) (h1 : k < A.bo.length) (h2 : k < C.bo.length) (hs : shsW G A2 C2 = shsW G A C) : (f1W G A2 C2 ++ (bW G a' b' ++ (shsW G A C ++ bsW G (A.bo.eraseIdx k) (C.bo.eraseIdx k)))).Perm (xW G (XAd.mc' A2.kk A2.RB A2.RS A2.sf A2.sl (A.bo.set k a')) (XCt.mc' C2.kk C2.la C2.si C2.CE (C.bo.set k b'))) := by
  refine List.Perm.append_left _ ?_
  refine List.Perm.symm ?_
  show (shsW G A2 C2 ++ bsW G (A.bo.set k a') (C.bo.set k b')).Perm _
  rw [hs]
  refine (List.Perm.append_left _ (bs_set G A.bo C.bo k a' b' h1 h2)).trans ?_
  rw [← List.append_assoc, ← List.append_assoc]
  exact List.Perm.append_right _ List.perm_append_comm
theorem xnew (G : GT) (A2 : XAd) (C2 : XCt) (as : List BAd) (bs : List BCt) (aN : BAd) (bN : BCt) (hl : as.length = bs.length) (hg : bN.gr = none) (hw : bN.sw = fun _ => none) {Wr : va_W} (h : (f1W G A2 C2 ++ Wr).Perm (xW G (XAd.mc' A2.kk A2.RB A2.RS A2.sf A2.sl as) (XCt.mc' C2.kk C2.la C2.si C2.CE bs))) : (f1W G A2 C2 ++ (bcW G aN bN none ++ Wr)).Perm (xW G (XAd.mc' A2.kk A2.RB A2.RS A2.sf A2.sl (as ++ [aN])) (XCt.mc' C2.kk C2.la C2.si C2.CE (bs ++ [bN]))) := by
  have e : bW G aN bN = bcW G aN bN none := by
    unfold bW
    rw [hg, hw]
    rfl
  have h' : Wr.Perm (shsW G A2 C2 ++ bsW G as bs) := (List.perm_append_left_iff _).mp h
  refine List.Perm.append_left _ ?_
  refine (List.Perm.append_left _ h').trans ?_
  show _root_.List.Perm _ (shsW G A2 C2 ++ bsW G (as ++ [aN]) (bs ++ [bN]))
  refine List.Perm.symm ((List.Perm.append_left _ (bs_app G as bs aN bN hl)).trans ?_)
  rw [e, ← List.append_assoc, ← List.append_assoc]
  exact List.Perm.append_right _ List.perm_append_comm
theorem xok_set {A : XAd} {C : XCt} (hx : xok A C) {A2 : XAd} {C2 : XCt} {k : Nat} {a a' : BAd} {b' : BCt} (ha : A.bo[k]? = some a) (hf : a'.f = a.f) (hb : bok a' b') (e1 : A2.RB = A.RB) (e2 : A2.RS = A.RS) (e3 : A2.sf = A.sf) (e4 : C2.bc = C.bc) : xok (XAd.mc' A2.kk A2.RB A2.RS A2.sf A2.sl (A.bo.set k a')) (XCt.mc' C2.kk C2.la C2.si C2.CE (C.bo.set k b')) := by
  refine ⟨?_, ?_, ?_, ?_, ?_, ?_⟩
  · show (A.bo.set k a').length = (C.bo.set k b').length
    rw [List.length_set, List.length_set]; exact hx.len
  · show (C.bo.set k b').length ≤ 8
    rw [List.length_set]; exact hx.le8
  · show C2.bc.toInt = ((C.bo.set k b').length : Int)
    rw [List.length_set, e4]; exact hx.cnt
  · intro j
    show A2.RS j = some (A2.sf (shI j))
    rw [e2, e3]; exact hx.rs j
  · intro j x hj
    have hj : (A.bo.set k a')[j]? = some x := hj
    show A2.RB j = some x.f
    rw [e1]
    rw [List.getElem?_set] at hj
    by_cases e : k = j
    · subst e
      have hlt := (List.getElem?_eq_some_iff.mp ha).1
      simp [hlt] at hj
      subst hj
      rw [hf]
      exact hx.rb k a ha
    · simp [e] at hj
      exact hx.rb j x hj
  · intro j x z hj hz
    have hj : (A.bo.set k a')[j]? = some x := hj
    have hz : (C.bo.set k b')[j]? = some z := hz
    rw [List.getElem?_set] at hj hz
    by_cases e : k = j
    · subst e
      have hlt := (List.getElem?_eq_some_iff.mp ha).1
      have hlt2 : k < C.bo.length := by rw [← hx.len]; exact hlt
      simp [hlt] at hj
      simp [hlt2] at hz
      subst hj; subst hz
      exact hb
    · simp [e] at hj hz
      exact hx.bk j x z hj hz
theorem xok_new {A : XAd} {C : XCt} (hx : xok A C) {aN : BAd} {bN : BCt} {A2 : XAd} {C2 : XCt} (hlt : C.bo.length < 8) (hbc : C2.bc.toInt = C.bc.toInt + 1) (hrb : A2.RB = va_up A.RB C.bc.toNatClampNeg (some aN.f)) (e2 : A2.RS = A.RS) (e3 : A2.sf = A.sf) (hr : aN.RW = fun _ => none) (hw : bN.sw = fun _ => none) : xok (XAd.mc' A2.kk A2.RB A2.RS A2.sf A2.sl (A.bo ++ [aN])) (XCt.mc' C2.kk C2.la C2.si C2.CE (C.bo ++ [bN])) := by
  refine ⟨?_, ?_, ?_, ?_, ?_, ?_⟩
  · show (A.bo ++ [aN]).length = (C.bo ++ [bN]).length
    rw [List.length_append, List.length_append, hx.len]; rfl
  · show (C.bo ++ [bN]).length ≤ 8
    rw [List.length_append]
    show C.bo.length + 1 ≤ 8
    omega
  · show C2.bc.toInt = ((C.bo ++ [bN]).length : Int)
    rw [hbc, hx.cnt, List.length_append]; rfl
  · intro j
    show A2.RS j = some (A2.sf (shI j))
    rw [e2, e3]; exact hx.rs j
  · intro j x hj
    have hj : (A.bo ++ [aN])[j]? = some x := hj
    show A2.RB j = some x.f
    have hn : C.bc.toNatClampNeg = C.bo.length := by
      rw [Int32.toNatClampNeg, hx.cnt]; simp
    rw [hrb, hn, ← hx.len]
    by_cases e : j < A.bo.length
    · rw [List.getElem?_append_left e] at hj
      have h := hx.rb j x hj
      unfold va_up
      rw [if_neg (by omega)]
      exact h
    · rw [List.getElem?_append_right (by omega)] at hj
      have : j - A.bo.length = 0 := by
        rcases Nat.eq_zero_or_pos (j - A.bo.length) with h | h
        · exact h
        · rw [List.getElem?_eq_none (by simp; omega)] at hj
          cases hj
      have ej : j = A.bo.length := by omega
      subst ej
      simp at hj
      subst hj
      rw [va_up_s]
  · intro j x z hj hz
    have hj : (A.bo ++ [aN])[j]? = some x := hj
    have hz : (C.bo ++ [bN])[j]? = some z := hz
    by_cases e : j < A.bo.length
    · rw [List.getElem?_append_left e] at hj
      rw [List.getElem?_append_left (by rw [← hx.len]; exact e)] at hz
      exact hx.bk j x z hj hz
    · rw [List.getElem?_append_right (by omega)] at hj
      rw [List.getElem?_append_right (by rw [← hx.len]; omega)] at hz
      have h0 : j - A.bo.length = 0 := by
        rcases Nat.eq_zero_or_pos (j - A.bo.length) with h | h
        · exact h
        · rw [List.getElem?_eq_none (by simp; omega)] at hj
          cases hj
      rw [h0] at hj
      rw [← hx.len, h0] at hz
      simp at hj hz
      subst hj; subst hz
      intro i hi
      rw [hr, hw]
      rfl
