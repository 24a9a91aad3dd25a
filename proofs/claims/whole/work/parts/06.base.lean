abbrev vwCl : List vw_C := [(RX0, TX0, 9), (RX1, TX1, 5), (RX2, TX2, 2), (RX3, TX3, 8), (RX4, TX4, 4), (RX5, TX5, 3), (RX6, TX6, 3), (RX7, TX7, 12), (RX8, TX8, 5), (RX9, TX9, 24)]
/-! the numbers of the classes and of the array classes, in one tuple; worlds and contracts in short words -/
abbrev GT : Type := (Nat → ClassId) × (Nat → Nat → Nat) × ClassId × ClassId × ClassId × ClassId × ClassId
abbrev gD (G : GT) : va_G := (G.1, G.2.1)
abbrev gI (G : GT) : ClassId := G.2.2.1
abbrev gJ (G : GT) : ClassId := G.2.2.2.1
abbrev gB (G : GT) : ClassId := G.2.2.2.2.1
abbrev gS (G : GT) : ClassId := G.2.2.2.2.2.1
abbrev gW (G : GT) : ClassId := G.2.2.2.2.2.2
abbrev gT (G : GT) : List (ClassId × FieldType) := [(gI G, .int), (gJ G, .long), (gB G, .object "SwellBodies$Body"), (gS G, .object "SwellBodies$Sheaf"), (gW G, .object "SwellBodies$Swelling")]
/-- what a reading method asks of the state -/
def pR (G : GT) (ws : va_W) (U : State) : Prop := va_P (gD G) vwCl ws U.heap ∧ va_K (gD G) vwCl (gT G) U
/-- what a writing method asks of the state -/
def pW (G : GT) (sz : Nat) (ws : va_W) (U : State) : Prop := U.heap.size = sz ∧ va_P (gD G) vwCl ws U.heap ∧ va_K (gD G) vwCl (gT G) U ∧ va_D (fun _ => True) ws
/-- what a writing method leaves -/
def qW (G : GT) (A : Nat → Prop) (ws : va_W) (t : State) : Prop := va_P (gD G) vwCl ws t.heap ∧ va_K (gD G) vwCl (gT G) t ∧ va_D A ws
theorem pR_blind (av : List Value) (G : GT) (ws : va_W) : FrameBlind (va_Pc av (pR G ws)) := fun a U g mk q => by
  obtain ⟨q0, qP, qK⟩ := q
  exact ⟨q0, qP, va_K.moved (u := U) (U := U.calling g mk a) (Vm.Alike.refl U.vm) qK⟩
theorem pW_blind (av : List Value) (G : GT) (sz : Nat) (ws : va_W) : FrameBlind (va_Pc av (pW G sz ws)) := fun a U g mk q => by
  obtain ⟨q0, q1, qP, qK, qD⟩ := q
  exact ⟨q0, q1, qP, va_K.moved (u := U) (U := U.calling g mk a) (Vm.Alike.refl U.vm) qK, qD⟩
theorem pvR {G : GT} {s : State} {H : Heap} {wc : va_W} {b q0 : Nat} {As : List Value} {q : vw_C} {fs : List Value} (ci : Nat) (hK : va_K (gD G) vwCl (gT G) s) (hP : va_P (gD G) vwCl wc H) (hc : vwCl[ci]? = some q) (he : wc[q0]? = some (b, .inr (ci, fs))) : PreV s H q.1 b (va_Pc (Value.ref b :: As) (pR G wc)) As :=
  ⟨pR_blind _ _ _, va_recv hK hP hc he, fun U hU hW => ⟨rfl, by rw [hU]; exact hP, va_K.moved hW.alike hK⟩⟩
theorem psR {G : GT} {s : State} {H : Heap} {wc : va_W} {As : List Value} (hK : va_K (gD G) vwCl (gT G) s) (hP : va_P (gD G) vwCl wc H) : PreS s H (va_Pc As (pR G wc)) As :=
  ⟨pR_blind _ _ _, fun U hU hW => ⟨rfl, by rw [hU]; exact hP, va_K.moved hW.alike hK⟩⟩
theorem pvW {G : GT} {s : State} {H : Heap} {wc : va_W} {A : Nat → Prop} {b q0 : Nat} {As : List Value} {q : vw_C} {fs : List Value} (ci : Nat) (hK : va_K (gD G) vwCl (gT G) s) (hP : va_P (gD G) vwCl wc H) (hD : va_D A wc) (hc : vwCl[ci]? = some q) (he : wc[q0]? = some (b, .inr (ci, fs))) : PreV s H q.1 b (va_Pc (Value.ref b :: As) (pW G H.size wc)) As :=
  ⟨pW_blind _ _ _ _, va_recv hK hP hc he, fun U hU hW => ⟨rfl, by rw [hU], by rw [hU]; exact hP, va_K.moved hW.alike hK, hD.weaken (fun _ _ _ _ => trivial)⟩⟩
theorem psW {G : GT} {s : State} {H : Heap} {wc : va_W} {A : Nat → Prop} {As : List Value} (hK : va_K (gD G) vwCl (gT G) s) (hP : va_P (gD G) vwCl wc H) (hD : va_D A wc) : PreS s H (va_Pc As (pW G H.size wc)) As :=
  ⟨pW_blind _ _ _ _, fun U hU hW => ⟨rfl, by rw [hU], by rw [hU]; exact hP, va_K.moved hW.alike hK, hD.weaken (fun _ _ _ _ => trivial)⟩⟩
section RO
variable {p : Program} {l : Launch} {e : Env} {R : Room} {s : State} {m : MethodId} {args : Array Value} {below : List Frame} {meth : Method} {c : Code} {H : Heap} {locs : List Loc} {cells slots : Nat} {Q : State → Prop} {pc : Nat} {ls : Array Slot} {rest st0 : List Value} {a : Array Value}
/-- behind a call that only reads: an int -/
theorem ro_i {post : Int32 → Prop} (hr : va_Run p l e R s m args below meth c H locs cells slots 0 0 (F0 m pc ls st0) rest (vp_Si post a) (fun _ => False))
    (kk : ∀ r : Int32, post r → W p l e R s m args below meth c H locs cells slots Q (F0 m (pc + 3) ls (.int r :: rest))) : W p l e R s m args below meth c H locs cells slots Q (F0 m pc ls st0) := by
  intro T hT X
  obtain ⟨v, st₀, t, T', L, h0, X', hL, e1, e2, ⟨r, hv, hp, hh⟩, st⟩ := hr T hT X
  cases hv
  obtain ⟨t2, a1, b1⟩ := kk r hp T' (by rw [e1, hh, h0]) (Stand.forget X' (fun q h => (hL q h).elim))
  exact ⟨t2, st t2 a1, b1⟩
/-- behind a call that only reads: a long -/
theorem ro_l {post : Int64 → Prop} (hr : va_Run p l e R s m args below meth c H locs cells slots 0 0 (F0 m pc ls st0) rest (vp_Sl post a) (fun _ => False))
    (kk : ∀ r : Int64, post r → W p l e R s m args below meth c H locs cells slots Q (F0 m (pc + 3) ls (.long r :: rest))) : W p l e R s m args below meth c H locs cells slots Q (F0 m pc ls st0) := by
  intro T hT X
  obtain ⟨v, st₀, t, T', L, h0, X', hL, e1, e2, ⟨r, hv, hp, hh⟩, st⟩ := hr T hT X
  cases hv
  obtain ⟨t2, a1, b1⟩ := kk r hp T' (by rw [e1, hh, h0]) (Stand.forget X' (fun q h => (hL q h).elim))
  exact ⟨t2, st t2 a1, b1⟩
end RO
/-! programs as partial functions: none where the machine would throw, or the fuel ends -/
def FU : Nat := 5000
def gd_in {α : Type} (i : Int32) (n : Nat) (a : Option α) : Option α := if i < 0 ∨ n ≤ i.toNatClampNeg then none else a
def gd_nz {α : Type} (y : Int32) (a : Option α) : Option α := if y = 0 then none else a
def gd_nzL {α : Type} (y : Int64) (a : Option α) : Option α := if y = 0 then none else a
def gd_cp {α : Type} (sp dp n : Int32) (n0 n1 : Nat) (a : Option α) : Option α := if sp < 0 ∨ dp < 0 ∨ n < 0 ∨ n0 < sp.toNatClampNeg + n.toNatClampNeg ∨ n1 < dp.toNatClampNeg + n.toNatClampNeg then none else a
def bd {α β : Type} (o : Option α) (f : α → Option β) : Option β := o.bind f
def cut {α β : Type} (a : α) (f : α → Option β) : Option β := f a
theorem gd_in_s {α : Type} {i : Int32} {n : Nat} {a : Option α} {r : α} (h : gd_in i n a = some r) : vp_in i n ∧ a = some r := by
  unfold gd_in at h
  by_cases hc : i < 0 ∨ n ≤ i.toNatClampNeg
  · rw [if_pos hc] at h; cases h
  · rw [if_neg hc] at h; exact ⟨hc, h⟩
theorem gd_nz_s {α : Type} {y : Int32} {a : Option α} {r : α} (h : gd_nz y a = some r) : ¬ y = 0 ∧ a = some r := by
  unfold gd_nz at h
  by_cases hc : y = 0
  · rw [if_pos hc] at h; cases h
  · rw [if_neg hc] at h; exact ⟨hc, h⟩
theorem gd_nzL_s {α : Type} {y : Int64} {a : Option α} {r : α} (h : gd_nzL y a = some r) : ¬ y = 0 ∧ a = some r := by
  unfold gd_nzL at h
  by_cases hc : y = 0
  · rw [if_pos hc] at h; cases h
  · rw [if_neg hc] at h; exact ⟨hc, h⟩
theorem gd_cp_s {α : Type} {sp dp n : Int32} {n0 n1 : Nat} {a : Option α} {r : α} (h : gd_cp sp dp n n0 n1 a = some r) : (¬ sp < 0 ∧ ¬ dp < 0 ∧ ¬ n < 0 ∧ sp.toNatClampNeg + n.toNatClampNeg ≤ n0 ∧ dp.toNatClampNeg + n.toNatClampNeg ≤ n1) ∧ a = some r := by
  unfold gd_cp at h
  by_cases hc : sp < 0 ∨ dp < 0 ∨ n < 0 ∨ n0 < sp.toNatClampNeg + n.toNatClampNeg ∨ n1 < dp.toNatClampNeg + n.toNatClampNeg
  · rw [if_pos hc] at h; cases h
  · rw [if_neg hc] at h
    refine ⟨⟨fun q => hc (Or.inl q), fun q => hc (Or.inr (Or.inl q)), fun q => hc (Or.inr (Or.inr (Or.inl q))), Nat.not_lt.mp fun q => hc (Or.inr (Or.inr (Or.inr (Or.inl q)))), Nat.not_lt.mp fun q => hc (Or.inr (Or.inr (Or.inr (Or.inr q))))⟩, h⟩
theorem bd_s {α β : Type} {o : Option α} {f : α → Option β} {r : β} (h : bd o f = some r) : ∃ v, o = some v ∧ f v = some r := by
  cases o with
  | none => cases h
  | some v => exact ⟨v, rfl, h⟩
theorem cut_s {α β : Type} {a : α} {f : α → Option β} {r : Option β} (h : cut a f = r) : f a = r := h
theorem it_p {c : Prop} {α : Type} [h : Decidable c] {a b r : α} (hc : c) (e : (if c then a else b) = r) : a = r := (if_pos hc).symm.trans e
theorem it_n {c : Prop} {α : Type} [h : Decidable c] {a b r : α} (hc : ¬ c) (e : (if c then a else b) = r) : b = r := (if_neg hc).symm.trans e
theorem so_e {α : Type} {a b : α} (h : some a = some b) : a = b := Option.some.inj h
theorem qW_mk {G : GT} {A : Nat → Prop} {ws : va_W} {s t : State} {H : Heap} (ht : t.heap = H) (hP : va_P (gD G) vwCl ws H) (hK : va_K (gD G) vwCl (gT G) s) (hW : s.WarmedH t.vm) (hD : va_D A ws) : qW G A ws t := ⟨by rw [ht]; exact hP, va_K.moved hW.alike hK, hD⟩
theorem ne_t {x k : Int32} (h : ¬ x = k) : x.toInt ≠ k.toInt := fun e => h (Int32.toInt_inj.mp e)
section CALLS
variable {p : Program} {l : Launch} {e : Env} {R : Room} {s : State} {m : MethodId} {args : Array Value} {below : List Frame} {meth : Method} {c : Code} {H H0 : Heap} {locs : List Loc} {cells slots : Nat} {Q : State → Prop} {pc : Nat} {ls : Array Slot} {rest st0 : List Value} {a : Array Value} {G : GT} {A0 : Nat → Prop} {ws wc wr : va_W}
theorem ro_ie {v0 : Int32} (hr : va_Run p l e R s m args below meth c H locs cells slots 0 0 (F0 m pc ls st0) rest (vp_Si (fun r => r = v0) a) (fun _ => False))
    (kk : W p l e R s m args below meth c H locs cells slots Q (F0 m (pc + 3) ls (.int v0 :: rest))) : W p l e R s m args below meth c H locs cells slots Q (F0 m pc ls st0) := ro_i hr (fun r h => by rw [h]; exact kk)
theorem ro_le {v0 : Int64} (hr : va_Run p l e R s m args below meth c H locs cells slots 0 0 (F0 m pc ls st0) rest (vp_Sl (fun r => r = v0) a) (fun _ => False))
    (kk : W p l e R s m args below meth c H locs cells slots Q (F0 m (pc + 3) ls (.long v0 :: rest))) : W p l e R s m args below meth c H locs cells slots Q (F0 m pc ls st0) := ro_l hr (fun r h => by rw [h]; exact kk)
theorem ro_ze {v0 : Int32} (hr : va_Run p l e R s m args below meth c H locs cells slots 0 0 (F0 m pc ls st0) rest (vp_Si (fun r => r = v0 ∧ (r = 0 ∨ r = 1)) a) (fun _ => False))
    (kk : (v0 = 0 ∨ v0 = 1) → W p l e R s m args below meth c H locs cells slots Q (F0 m (pc + 3) ls (.int v0 :: rest))) : W p l e R s m args below meth c H locs cells slots Q (F0 m pc ls st0) := ro_i hr (fun r h => by obtain ⟨h1, h2⟩ := h; subst h1; exact kk h2)
theorem rw_ie {S : Type} {res : Int32 × S} {wf : S → va_W} (hr : va_Run p l e R s m args below meth c H locs cells slots 0 0 (F0 m pc ls st0) rest (va_Qi (fun r u => r = res.1 ∧ u = res.2) (fun u t => qW G (va_A wc H.size) (wf u) t) (va_A wc H.size) a) (va_A wc H.size))
    (hP : va_P (gD G) vwCl ws H) (hD : va_D A0 ws) (hS : va_S A0 H0 H locs) (hA : ∀ q, H0.size ≤ q → A0 q) (isC isR : List Nat) (hC : isC.map (fun i => ws[i]?) = wc.map some) (hR : isR.map (fun i => ws[i]?) = wr.map some) (hn : va_nd isR = true) (hdis : ∀ i ∈ isR, i ∉ isC)
    (kk : ∀ (H1 : Heap) (locs1 : List Loc), va_P (gD G) vwCl (wr ++ wf res.2) H1 → va_D A0 (wr ++ wf res.2) → va_S A0 H0 H1 locs1 → W p l e R s m args below meth c H1 locs1 cells slots Q (F0 m (pc + 3) ls (.int res.1 :: rest))) : W p l e R s m args below meth c H locs cells slots Q (F0 m pc ls st0) := by
  have hFc := va_free (wc := wc) hD hS hA isC hC
  refine va_calli hr hS (fun q _ h => hFc q h) hFc (fun r u t H1 locs1 ht hvm hw hB hz1 hk1 hS1 => ?_)
  obtain ⟨h1, h2⟩ := hw
  subst h1; subst h2
  obtain ⟨hP1, hK1, hD1⟩ := hB
  rw [ht] at hP1
  obtain ⟨hP2, hD2⟩ := va_join (wr := wr) (w1 := wf res.2) hP hD isC isR hC hR hn hdis hk1 hFc hP1 hD1
  exact kk H1 locs1 hP2 hD2 hS1
theorem rw_ze {S : Type} {res : Int32 × S} {wf : S → va_W} (hr : va_Run p l e R s m args below meth c H locs cells slots 0 0 (F0 m pc ls st0) rest (va_Qi (fun r u => r = res.1 ∧ u = res.2 ∧ (r = 0 ∨ r = 1)) (fun u t => qW G (va_A wc H.size) (wf u) t) (va_A wc H.size) a) (va_A wc H.size))
    (hP : va_P (gD G) vwCl ws H) (hD : va_D A0 ws) (hS : va_S A0 H0 H locs) (hA : ∀ q, H0.size ≤ q → A0 q) (isC isR : List Nat) (hC : isC.map (fun i => ws[i]?) = wc.map some) (hR : isR.map (fun i => ws[i]?) = wr.map some) (hn : va_nd isR = true) (hdis : ∀ i ∈ isR, i ∉ isC)
    (kk : ∀ (H1 : Heap) (locs1 : List Loc), (res.1 = 0 ∨ res.1 = 1) → va_P (gD G) vwCl (wr ++ wf res.2) H1 → va_D A0 (wr ++ wf res.2) → va_S A0 H0 H1 locs1 → W p l e R s m args below meth c H1 locs1 cells slots Q (F0 m (pc + 3) ls (.int res.1 :: rest))) : W p l e R s m args below meth c H locs cells slots Q (F0 m pc ls st0) := by
  have hFc := va_free (wc := wc) hD hS hA isC hC
  refine va_calli hr hS (fun q _ h => hFc q h) hFc (fun r u t H1 locs1 ht hvm hw hB hz1 hk1 hS1 => ?_)
  obtain ⟨h1, h2, h3⟩ := hw
  subst h1; subst h2
  obtain ⟨hP1, hK1, hD1⟩ := hB
  rw [ht] at hP1
  obtain ⟨hP2, hD2⟩ := va_join (wr := wr) (w1 := wf res.2) hP hD isC isR hC hR hn hdis hk1 hFc hP1 hD1
  exact kk H1 locs1 h3 hP2 hD2 hS1
theorem rw_le {S : Type} {res : Int64 × S} {wf : S → va_W} (hr : va_Run p l e R s m args below meth c H locs cells slots 0 0 (F0 m pc ls st0) rest (va_Ql (fun r u => r = res.1 ∧ u = res.2) (fun u t => qW G (va_A wc H.size) (wf u) t) (va_A wc H.size) a) (va_A wc H.size))
    (hP : va_P (gD G) vwCl ws H) (hD : va_D A0 ws) (hS : va_S A0 H0 H locs) (hA : ∀ q, H0.size ≤ q → A0 q) (isC isR : List Nat) (hC : isC.map (fun i => ws[i]?) = wc.map some) (hR : isR.map (fun i => ws[i]?) = wr.map some) (hn : va_nd isR = true) (hdis : ∀ i ∈ isR, i ∉ isC)
    (kk : ∀ (H1 : Heap) (locs1 : List Loc), va_P (gD G) vwCl (wr ++ wf res.2) H1 → va_D A0 (wr ++ wf res.2) → va_S A0 H0 H1 locs1 → W p l e R s m args below meth c H1 locs1 cells slots Q (F0 m (pc + 3) ls (.long res.1 :: rest))) : W p l e R s m args below meth c H locs cells slots Q (F0 m pc ls st0) := by
  have hFc := va_free (wc := wc) hD hS hA isC hC
  refine va_calll hr hS (fun q _ h => hFc q h) hFc (fun r u t H1 locs1 ht hvm hw hB hz1 hk1 hS1 => ?_)
  obtain ⟨h1, h2⟩ := hw
  subst h1; subst h2
  obtain ⟨hP1, hK1, hD1⟩ := hB
  rw [ht] at hP1
  obtain ⟨hP2, hD2⟩ := va_join (wr := wr) (w1 := wf res.2) hP hD isC isR hC hR hn hdis hk1 hFc hP1 hD1
  exact kk H1 locs1 hP2 hD2 hS1
theorem rw_ve {S : Type} {res : S} {wf : S → va_W} (hr : va_Run p l e R s m args below meth c H locs cells slots 0 0 (F0 m pc ls st0) rest (va_Qv (fun u => u = res) (fun u t => qW G (va_A wc H.size) (wf u) t) (va_A wc H.size) a) (va_A wc H.size))
    (hP : va_P (gD G) vwCl ws H) (hD : va_D A0 ws) (hS : va_S A0 H0 H locs) (hA : ∀ q, H0.size ≤ q → A0 q) (isC isR : List Nat) (hC : isC.map (fun i => ws[i]?) = wc.map some) (hR : isR.map (fun i => ws[i]?) = wr.map some) (hn : va_nd isR = true) (hdis : ∀ i ∈ isR, i ∉ isC)
    (kk : ∀ (H1 : Heap) (locs1 : List Loc), va_P (gD G) vwCl (wr ++ wf res) H1 → va_D A0 (wr ++ wf res) → va_S A0 H0 H1 locs1 → W p l e R s m args below meth c H1 locs1 cells slots Q (F0 m (pc + 3) ls rest)) : W p l e R s m args below meth c H locs cells slots Q (F0 m pc ls st0) := by
  have hFc := va_free (wc := wc) hD hS hA isC hC
  refine va_callv hr hS (fun q _ h => hFc q h) hFc (fun u t H1 locs1 ht hvm hw hB hz1 hk1 hS1 => ?_)
  subst hw
  obtain ⟨hP1, hK1, hD1⟩ := hB
  rw [ht] at hP1
  obtain ⟨hP2, hD2⟩ := va_join (wr := wr) (w1 := wf u) hP hD isC isR hC hR hn hdis hk1 hFc hP1 hD1
  exact kk H1 locs1 hP2 hD2 hS1
end CALLS
theorem cut_at {α β : Type} {a v : α} {f : α → Option β} {r : Option β} (e : v = a) (h : cut a f = r) : f v = r := by subst e; exact h
section ROQ
variable {p : Program} {l : Launch} {e : Env} {R : Room} {s : State} {m : MethodId} {args : Array Value} {below : List Frame} {meth : Method} {c : Code} {H : Heap} {locs : List Loc} {cells slots : Nat} {Q : State → Prop} {pc : Nat} {ls : Array Slot} {rest st0 : List Value} {a : Array Value}
theorem ro_qe {v0 : Option Nat} (hr : va_Run p l e R s m args below meth c H locs cells slots 0 0 (F0 m pc ls st0) rest (va_Sq (fun r => r = v0) a) (fun _ => False))
    (kk : W p l e R s m args below meth c H locs cells slots Q (F0 m (pc + 3) ls (va_rf v0 :: rest))) : W p l e R s m args below meth c H locs cells slots Q (F0 m pc ls st0) := by
  intro T hT X
  obtain ⟨v, st₀, t, T', L, h0, X', hL, e1, e2, ⟨r, hv, hp, hh⟩, st⟩ := hr T hT X
  cases hv
  subst hp
  obtain ⟨t2, a1, b1⟩ := kk T' (by rw [e1, hh, h0]) (Stand.forget X' (fun q h => (hL q h).elim))
  exact ⟨t2, st t2 a1, b1⟩
end ROQ
