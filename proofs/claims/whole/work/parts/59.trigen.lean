theorem gf_scale {b f f' : Nat → V4} {d d' : Int} (h : Fr b f d) (h' : Fr b f' d') (w : Nat → Int) (ix jx : Nat → Nat) (e : ∀ j, j < 4 → ix j = jx j) (y : V4) : d * dt (gf f' w jx) y = d' * dt (gf f w ix) y := by
  have s0 := Fr_same h h' 0 (by omega) y
  have s1 := Fr_same h h' 1 (by omega) y
  have s2 := Fr_same h h' 2 (by omega) y
  have s3 := Fr_same h h' 3 (by omega) y
  rw [gf, gf, t4_dt, t4_dt, s4_eq, s4_eq]
  simp only [e 0 (by omega), e 1 (by omega), e 2 (by omega), e 3 (by omega)]
  clear h h' e
  generalize dt (f 0) y = a0 at *
  generalize dt (f 1) y = a1 at *
  generalize dt (f 2) y = a2 at *
  generalize dt (f 3) y = a3 at *
  generalize dt (f' 0) y = c0 at *
  generalize dt (f' 1) y = c1 at *
  generalize dt (f' 2) y = c2 at *
  generalize dt (f' 3) y = c3 at *
  grind
theorem tri_gen {v : Nat → V4} {m : Nat} {B : Nat → Nat} {f0 : Nat → V4} {d0 : Int} (h0 : Fr (fun i => v (B i)) f0 d0) (hB : ∀ i, i < 4 → B i < m) : ∃ w : Nat → Int, DF v m w B f0 d0 ∧ ∀ (ix : Nat → Nat) (f : Nat → V4) (d : Int), Fr (fun i => v (ix i)) f d → (∀ i, i < 4 → ix i < m) → ∀ k, k < m → (∀ i, i < 4 → ix i ≠ k) → dt (gf f w ix) (v k) ≠ d * w k := by
  have hch : ∀ c : Cd, ∃ p : (Nat → V4) × Int, (∃ f d, Fr (fun i => v (ixc c i)) f d) → Fr (fun i => v (ixc c i)) p.1 p.2 := by
    intro c
    by_cases h : ∃ f d, Fr (fun i => v (ixc c i)) f d
    · obtain ⟨f, d, h⟩ := h
      exact ⟨(f, d), fun _ => h⟩
    · exact ⟨(fun _ => (0, 0, 0, 0), 0), fun h' => absurd h' h⟩
  obtain ⟨F, hF⟩ := Classical.axiomOfChoice hch
  obtain ⟨T, hT, hb⟩ := fin_bd (fun q : Cd × Nat × Nat => rowF B (ixc q.1) (F q.1).1 (F q.1).2 q.2.1 (v q.2.1) q.2.2) ((cds m).flatMap fun c => (List.range m).flatMap fun k => (List.range m).map fun j => (c, k, j))
  have hw0 : ∀ j, 0 ≤ wts T B j := by
    intro j
    unfold wts
    split
    · exact Int.le_refl _
    · exact Int.pow_nonneg (by omega)
  refine ⟨wts T B, ⟨h0, hB, fun k hk => ?_⟩, fun ix f d h hm k hk hne => ?_⟩
  · have z : ∀ i, i < 4 → wts T B (B i) = 0 := by
      intro i hi
      unfold wts
      rw [if_pos (by rcases four hi with rfl | rfl | rfl | rfl <;> simp)]
    rw [gf, t4_dt, s4_eq]
    simp only [z 0 (by omega), z 1 (by omega), z 2 (by omega), z 3 (by omega)]
    have := Int.mul_nonneg (Int.le_of_lt h0.1) (hw0 k)
    omega
  · intro heq
    have hec := ixc_eq ix 0
    have hfc : Fr (fun i => v (ixc (ix 0, ix 1, ix 2, ix 3, 0) i)) f d := Fr_congr (fun j hj => by rw [← hec j hj]) h
    have hFc := hF (ix 0, ix 1, ix 2, ix 3, 0) ⟨f, d, hfc⟩
    have hcm : (ix 0, ix 1, ix 2, ix 3, 0) ∈ cds m := cds_mem (hm 0 (by omega)) (hm 1 (by omega)) (hm 2 (by omega)) (hm 3 (by omega)) (by omega)
    have hbd : ∀ j, j < m → - (T - 1) ≤ rowF B (ixc (ix 0, ix 1, ix 2, ix 3, 0)) (F (ix 0, ix 1, ix 2, ix 3, 0)).1 (F (ix 0, ix 1, ix 2, ix 3, 0)).2 k (v k) j ∧ rowF B (ixc (ix 0, ix 1, ix 2, ix 3, 0)) (F (ix 0, ix 1, ix 2, ix 3, 0)).1 (F (ix 0, ix 1, ix 2, ix 3, 0)).2 k (v k) j ≤ T - 1 := by
      intro j hj
      refine hb ((ix 0, ix 1, ix 2, ix 3, 0), k, j) ?_
      simp only [List.mem_flatMap, List.mem_map, List.mem_range]
      exact ⟨_, hcm, k, hk, j, hj, rfl⟩
    generalize hFe : F (ix 0, ix 1, ix 2, ix 3, 0) = p at hFc hbd
    generalize hce : ixc (ix 0, ix 1, ix 2, ix 3, 0) = jx at hFc hbd hec hfc
    have hm' : ∀ i, i < 4 → jx i < m := fun i hi => by rw [← hec i hi]; exact hm i hi
    have hne' : ∀ i, i < 4 → jx i ≠ k := fun i hi => by rw [← hec i hi]; exact hne i hi
    have hn := pw_ne T hT _ m hbd (rowF_ne hFc h0 k m hm' hk hne')
    rw [rowF_pw T B jx p.1 p.2 k (v k) m hm' hk] at hn
    have hs := gf_scale hfc hFc (wts T B) ix jx hec (v k)
    rw [heq] at hs
    have hd := h.1
    have e : d * (dt (gf p.1 (wts T B) jx) (v k) - p.2 * wts T B k) = 0 := by
      have e1 : d * (dt (gf p.1 (wts T B) jx) (v k) - p.2 * wts T B k) = d * dt (gf p.1 (wts T B) jx) (v k) - p.2 * (d * wts T B k) := by grind
      omega
    rcases Int.mul_eq_zero.mp e with h1 | h1
    · omega
    · exact hn h1
/-- two frames of the triangulation that hold the same vector inside have the same points -/
theorem tri_same {v : Nat → V4} {m : Nat} {w : Nat → Int} (hw : ∀ (ix : Nat → Nat) (f : Nat → V4) (d : Int), Fr (fun i => v (ix i)) f d → (∀ i, i < 4 → ix i < m) → ∀ k, k < m → (∀ i, i < 4 → ix i ≠ k) → dt (gf f w ix) (v k) ≠ d * w k) {ix jx : Nat → Nat} {f f' : Nat → V4} {d d' : Int} (h : DF v m w ix f d) (h' : DF v m w jx f' d') (x : V4) (hx : ∀ i, i < 4 → 0 < dt (f i) x) (hx' : ∀ i, i < 4 → 0 < dt (f' i) x) : ∀ i, i < 4 → ∃ j, j < 4 ∧ jx j = ix i := by
  intro i hi
  refine Classical.byContradiction fun hno => ?_
  exact hw jx f' d' h'.1 h'.2.1 (ix i) (h.2.1 i hi) (fun j hj e => hno ⟨j, hj, e⟩) (tri_uni h h' x hx hx' i hi)
