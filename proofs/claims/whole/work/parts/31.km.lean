theorem metMono {l : Launch} {y : MethodName} {ws : List Cond} {rm : Room} {Pc Pc' : Array Value → State → Prop} {Qc Qc' : Array Value → State → Outcome → State → Prop} {mc ms : Nat} {free free' : Addr → Prop} (h : Met l y ws rm Pc Qc mc ms free) (hP : ∀ a s, Pc' a s → Pc a s)
    (hQ : ∀ a s o t, Pc' a s → s.WarmedH t.vm → Qc a s o t → Qc' a s o t) (hf : ∀ q, free q → free' q) : Met l y ws rm Pc' Qc' mc ms free' :=
  MetFree.mono h hP (fun _ _ _ _ _ h => h) (fun a s o t hp h => by
    obtain ⟨h1, L, h2, h3⟩ := h
    exact ⟨hQ a s o t hp h2.2.1 h1, L, h2, fun q hq => hf _ (h3 q hq)⟩)
/-- the contract of a method over the cells wc: it returns v, the cells are w then, and Q v w -/
def KM (l : Launch) (y : MethodName) (ws : List Cond) (rm : Room) (av : List Value) (G : GT) (wc : va_W) (Q : Option Value → va_W → Prop) (mc ms : Nat) : Prop :=
  ∀ sz : Nat, Met l y ws rm (va_Pc av (fun U => pW G sz wc U ∧ gN U)) (fun _ st oc t => (∃ (v : Option Value) (w : va_W), oc = .returned v ∧ Q v w ∧ qW G (va_A wc sz) w t) ∧ va_F (va_A wc sz) st t) mc ms (va_A wc sz)
theorem KM.mono {l : Launch} {y : MethodName} {ws : List Cond} {rm : Room} {av : List Value} {G : GT} {wc : va_W} {Q Q' : Option Value → va_W → Prop} {mc ms : Nat} (h : KM l y ws rm av G wc Q mc ms) (hQ : ∀ v w, Q v w → Q' v w) : KM l y ws rm av G wc Q' mc ms := fun sz =>
  metMono (h sz) (fun _ _ h => h) (fun a s o t _ _ q => by
    obtain ⟨⟨v, w, h1, h2, h3⟩, h4⟩ := q
    exact ⟨⟨v, w, h1, hQ v w h2, h3⟩, h4⟩) (fun _ h => h)
theorem KM.perm {l : Launch} {y : MethodName} {ws : List Cond} {rm : Room} {av : List Value} {G : GT} {wc wc' : va_W} {Q : Option Value → va_W → Prop} {mc ms : Nat} (h : KM l y ws rm av G wc Q mc ms) (p : wc'.Perm wc) : KM l y ws rm av G wc' Q mc ms := fun sz => by
  have hA : va_A wc sz = va_A wc' sz := by
    funext q
    refine propext (vA_iff.trans (Iff.trans ?_ vA_iff.symm))
    constructor
    · rintro (⟨e, h⟩ | h)
      · exact Or.inl ⟨e, p.mem_iff.mpr h⟩
      · exact Or.inr h
    · rintro (⟨e, h⟩ | h)
      · exact Or.inl ⟨e, p.mem_iff.mp h⟩
      · exact Or.inr h
  have h0 := h sz
  rw [hA] at h0
  exact metMono h0 (fun a s q => by
    obtain ⟨q0, ⟨q1, qP, qK, qD⟩, q2⟩ := q
    exact ⟨q0, ⟨q1, vP_perm p qP, qK, vD_perm p qD⟩, q2⟩) (fun _ _ _ _ _ _ q => q) (fun _ h => h)
theorem KM.frame {l : Launch} {y : MethodName} {ws : List Cond} {rm : Room} {av : List Value} {G : GT} {wc : va_W} {Q : Option Value → va_W → Prop} {mc ms : Nat} (h : KM l y ws rm av G wc Q mc ms) (wr : va_W) : KM l y ws rm av G (wc ++ wr) (fun v w => ∃ w', Q v w' ∧ w = w' ++ wr) mc ms := fun sz => by
  have hsub : ∀ q, va_A wc sz q → va_A (wc ++ wr) sz q := fun q h => by
    rcases vA_iff.mp h with ⟨e, h⟩ | h
    · exact vA_iff.mpr (Or.inl ⟨e, List.mem_append_left _ h⟩)
    · exact vA_iff.mpr (Or.inr h)
  refine metMono (h sz) (fun a s q => ?_) (fun a s o t q0 _ q => ?_) hsub
  · obtain ⟨q0, ⟨q1, qP, qK, qD⟩, q2⟩ := q
    refine ⟨q0, ⟨q1, vP_iff.mpr fun x hx => vP_iff.mp qP x (List.mem_append_left _ hx), qK, ?_⟩, q2⟩
    refine ⟨fun i j x z hi hj e => ?_, fun _ _ _ => trivial⟩
    exact qD.1 i j x z (by rw [List.getElem?_append_left (List.getElem?_eq_some_iff.mp hi).1]; exact hi) (by rw [List.getElem?_append_left (List.getElem?_eq_some_iff.mp hj).1]; exact hj) e
  · obtain ⟨-, ⟨q1, qP, qK, qD⟩, -⟩ := q0
    obtain ⟨⟨v, w, e, hQ, hP1, hK1, hD1⟩, hF⟩ := q
    have hr : ∀ (k : Nat) (x : Nat × va_E), wr[k]? = some x → x.1 < s.heap.size ∧ ¬ va_A wc sz x.1 := by
      intro k x hk
      have hm : (wc ++ wr)[wc.length + k]? = some x := by
        rw [List.getElem?_append_right (Nat.le_add_right _ _)]
        simpa using hk
      have hlt := (qP _ x hm).lt
      refine ⟨hlt, fun hA => ?_⟩
      rcases vA_iff.mp hA with ⟨e', h'⟩ | h'
      · obtain ⟨i, hi⟩ := List.getElem?_of_mem h'
        have hil := (List.getElem?_eq_some_iff.mp hi).1
        have := qD.1 i (wc.length + k) (x.1, e') x (by rw [List.getElem?_append_left hil]; exact hi) hm rfl
        omega
      · omega
    refine ⟨⟨v, w ++ wr, e, ⟨w, hQ, rfl⟩, va_P.app hP1 (fun k x hk => ?_), hK1, va_D.app (hD1.weaken fun _ _ _ h => hsub _ h) ⟨fun i j x z hi hj ee => ?_, fun k x hk => ?_⟩ (fun i j x z hx hz ee => ?_)⟩, ⟨hF.1, fun q h1 h2 => hF.2 q h1 (fun h => h2 (hsub q h))⟩⟩
    · have hm : (wc ++ wr)[wc.length + k]? = some x := by
        rw [List.getElem?_append_right (Nat.le_add_right _ _)]
        simpa using hk
      exact (qP _ x hm).kept (hF.2 x.1 (hr k x hk).1 (hr k x hk).2)
    · have := qD.1 (wc.length + i) (wc.length + j) x z (by rw [List.getElem?_append_right (Nat.le_add_right _ _)]; simpa using hi) (by rw [List.getElem?_append_right (Nat.le_add_right _ _)]; simpa using hj) ee
      omega
    · exact vA_iff.mpr (Or.inl ⟨x.2, List.mem_append_right _ (List.mem_of_getElem? hk)⟩)
    · exact (hr j z hz).2 (by rw [← ee]; exact hD1.2 i x hx)
