section OF
variable {l : Launch} {y : MethodName} {ws : List Cond} {rm : Room} {av : List Value} {G : GT} {wc : va_W} {mc ms : Nat}
theorem KM.of_i {S : Type} {res : Int32 × S} {wf : S → va_W} (h : ∀ sz, Met l y ws rm (va_Pc av (pW G sz wc)) (va_Qi (fun r u => r = res.1 ∧ u = res.2) (fun u t => qW G (va_A wc sz) (wf u) t) (va_A wc sz)) mc ms (va_A wc sz)) : KM l y ws rm av G wc (fun v w => v = some (.int res.1) ∧ w = wf res.2) mc ms := fun sz =>
  metMono (h sz) (fun _ _ q => ⟨q.1, q.2.1⟩) (fun a s o t _ _ q => by
    obtain ⟨⟨r, u, e, ⟨h1, h2⟩, h3⟩, hF⟩ := q
    subst h1; subst h2
    exact ⟨⟨_, _, e, ⟨rfl, rfl⟩, h3⟩, hF⟩) (fun _ h => h)
theorem KM.of_l {S : Type} {res : Int64 × S} {wf : S → va_W} (h : ∀ sz, Met l y ws rm (va_Pc av (pW G sz wc)) (va_Ql (fun r u => r = res.1 ∧ u = res.2) (fun u t => qW G (va_A wc sz) (wf u) t) (va_A wc sz)) mc ms (va_A wc sz)) : KM l y ws rm av G wc (fun v w => v = some (.long res.1) ∧ w = wf res.2) mc ms := fun sz =>
  metMono (h sz) (fun _ _ q => ⟨q.1, q.2.1⟩) (fun a s o t _ _ q => by
    obtain ⟨⟨r, u, e, ⟨h1, h2⟩, h3⟩, hF⟩ := q
    subst h1; subst h2
    exact ⟨⟨_, _, e, ⟨rfl, rfl⟩, h3⟩, hF⟩) (fun _ h => h)
theorem KM.of_ni {S : Type} {res : Int32 × S} {wf : S → (Nat → Nat) → va_W} (h : ∀ sz, Met l y ws rm (va_Pc av (pW G sz wc)) (va_Qi (fun r u => r = res.1 ∧ u = res.2) (fun u t => ∃ nu : Nat → Nat, qW G (va_A wc sz) (wf u nu) t) (va_A wc sz)) mc ms (va_A wc sz)) : KM l y ws rm av G wc (fun v w => v = some (.int res.1) ∧ ∃ nu, w = wf res.2 nu) mc ms := fun sz =>
  metMono (h sz) (fun _ _ q => ⟨q.1, q.2.1⟩) (fun a s o t _ _ q => by
    obtain ⟨⟨r, u, e, ⟨h1, h2⟩, nu, h3⟩, hF⟩ := q
    subst h1; subst h2
    exact ⟨⟨_, _, e, ⟨rfl, nu, rfl⟩, h3⟩, hF⟩) (fun _ h => h)
theorem KM.of_xi {S : Type} {res : Int32 × S} {wf : S → (Nat → Nat) → va_W} (h : ∀ sz, Met l y ws rm (va_Pc av (fun U => pW G sz wc U ∧ gN U)) (va_Qi (fun r u => r = res.1 ∧ u = res.2) (fun u t => ∃ nu : Nat → Nat, qW G (va_A wc sz) (wf u nu) t) (va_A wc sz)) mc ms (va_A wc sz)) : KM l y ws rm av G wc (fun v w => v = some (.int res.1) ∧ ∃ nu, w = wf res.2 nu) mc ms := fun sz =>
  metMono (h sz) (fun _ _ q => q) (fun a s o t _ _ q => by
    obtain ⟨⟨r, u, e, ⟨h1, h2⟩, nu, h3⟩, hF⟩ := q
    subst h1; subst h2
    exact ⟨⟨_, _, e, ⟨rfl, nu, rfl⟩, h3⟩, hF⟩) (fun _ h => h)
theorem KM.of_xv {S : Type} {res : S} {wf : S → (Nat → Nat) → va_W} (h : ∀ sz, Met l y ws rm (va_Pc av (fun U => pW G sz wc U ∧ gN U)) (va_Qv (fun u => u = res) (fun u t => ∃ nu : Nat → Nat, qW G (va_A wc sz) (wf u nu) t) (va_A wc sz)) mc ms (va_A wc sz)) : KM l y ws rm av G wc (fun v w => v = none ∧ ∃ nu, w = wf res nu) mc ms := fun sz =>
  metMono (h sz) (fun _ _ q => q) (fun a s o t _ _ q => by
    obtain ⟨⟨u, e, h1, nu, h3⟩, hF⟩ := q
    subst h1
    exact ⟨⟨_, _, e, ⟨rfl, nu, rfl⟩, h3⟩, hF⟩) (fun _ h => h)
theorem KM.of_nr {S : Type} {res : S} {wf : S → (Nat → Nat) → va_W} {ra : (Nat → Nat) → Nat} (h : ∀ sz, Met l y ws rm (va_Pc av (pW G sz wc)) (va_Qr (fun u => u = res) (fun u ad t => ∃ nu : Nat → Nat, ad = ra nu ∧ qW G (va_A wc sz) (wf u nu) t) (va_A wc sz)) mc ms (va_A wc sz)) : KM l y ws rm av G wc (fun v w => ∃ nu, v = some (.ref (ra nu)) ∧ w = wf res nu) mc ms := fun sz =>
  metMono (h sz) (fun _ _ q => ⟨q.1, q.2.1⟩) (fun a s o t _ _ q => by
    obtain ⟨⟨u, ad, e, h1, nu, h2, h3⟩, hF⟩ := q
    subst h1; subst h2
    exact ⟨⟨_, _, e, ⟨nu, rfl, rfl⟩, h3⟩, hF⟩) (fun _ h => h)
theorem KM.of_ri {res : Int32} (h : Met l y ws rm (va_Pc av (pR G wc)) (vp_Si (fun r => r = res)) 0 0 (fun _ => False)) : KM l y ws rm av G wc (fun v w => v = some (.int res) ∧ w = wc) 0 0 := fun sz =>
  metMono h (fun _ _ q => ⟨q.1, q.2.1.2.1, q.2.1.2.2.1⟩) (fun a s o t q0 hW q => by
    obtain ⟨r, e, h1, hh⟩ := q
    subst h1
    obtain ⟨-, ⟨q1, qP, qK, qD⟩, -⟩ := q0
    exact ⟨⟨_, _, e, ⟨rfl, rfl⟩, by rw [hh]; exact qP, va_K.moved hW.alike qK, qD.self⟩, by rw [hh]; exact Nat.le_refl _, fun q _ _ => by rw [hh]⟩) (fun _ h => h.elim)
theorem KM.of_rl {res : Int64} (h : Met l y ws rm (va_Pc av (pR G wc)) (vp_Sl (fun r => r = res)) 0 0 (fun _ => False)) : KM l y ws rm av G wc (fun v w => v = some (.long res) ∧ w = wc) 0 0 := fun sz =>
  metMono h (fun _ _ q => ⟨q.1, q.2.1.2.1, q.2.1.2.2.1⟩) (fun a s o t q0 hW q => by
    obtain ⟨r, e, h1, hh⟩ := q
    subst h1
    obtain ⟨-, ⟨q1, qP, qK, qD⟩, -⟩ := q0
    exact ⟨⟨_, _, e, ⟨rfl, rfl⟩, by rw [hh]; exact qP, va_K.moved hW.alike qK, qD.self⟩, by rw [hh]; exact Nat.le_refl _, fun q _ _ => by rw [hh]⟩) (fun _ h => h.elim)
end OF
