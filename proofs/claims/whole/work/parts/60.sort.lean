/-! a frame in the order of its points -/
def sw (i j k : Nat) : Nat := if k = i then j else if k = j then i else k
theorem sw_lt {i j k : Nat} (hi : i < 4) (hj : j < 4) (hk : k < 4) : sw i j k < 4 := by
  unfold sw
  split
  · exact hj
  · split
    · exact hi
    · exact hk
theorem sw_inj {i j a c : Nat} (h : sw i j a = sw i j c) : a = c := by
  unfold sw at h
  split at h <;> split at h <;> (try split at h) <;> (try split at h) <;> omega
theorem t4_sw (k : Nat → Int) (b : Nat → V4) {i j : Nat} (hi : i < 4) (hj : j < 4) : t4 (fun a => k (sw i j a)) (fun a => b (sw i j a)) = t4 k b := by
  rcases four hi with rfl | rfl | rfl | rfl <;> rcases four hj with rfl | rfl | rfl | rfl <;>
    (refine v4_ext ?_ ?_ ?_ ?_
     · rw [t4_c1, t4_c1]; simp [sw]; try omega
     · rw [t4_c2, t4_c2]; simp [sw]; try omega
     · rw [t4_c3, t4_c3]; simp [sw]; try omega
     · rw [t4_c4, t4_c4]; simp [sw]; try omega)
theorem Fr_sw {b f : Nat → V4} {d : Int} (h : Fr b f d) {i j : Nat} (hi : i < 4) (hj : j < 4) : Fr (fun a => b (sw i j a)) (fun a => f (sw i j a)) d := by
  obtain ⟨h1, h2, h3⟩ := h
  refine ⟨h1, fun a c ha hc => ?_, fun x => ?_⟩
  · rw [h2 _ _ (sw_lt hi hj ha) (sw_lt hi hj hc)]
    by_cases e : a = c
    · rw [if_pos e, if_pos (by rw [e])]
    · rw [if_neg e, if_neg (fun h => e (sw_inj h))]
  · rw [h3 x]
    exact (t4_sw (fun a => dt (f a) x) b hi hj).symm
theorem DF_sw {v : Nat → V4} {m : Nat} {w : Nat → Int} {ix : Nat → Nat} {f : Nat → V4} {d : Int} (h : DF v m w ix f d) {i j : Nat} (hi : i < 4) (hj : j < 4) : DF v m w (fun a => ix (sw i j a)) (fun a => f (sw i j a)) d := by
  obtain ⟨h1, h2, h3⟩ := h
  refine ⟨Fr_sw h1 hi hj, fun a ha => h2 _ (sw_lt hi hj ha), fun k hk => ?_⟩
  have e : gf (fun a => f (sw i j a)) w (fun a => ix (sw i j a)) = gf f w ix := t4_sw (fun a => w (ix a)) f hi hj
  rw [e]
  exact h3 k hk
/-- all that is asked of the order: the same forms, in other places -/
def Re (ix : Nat → Nat) (f : Nat → V4) (ix' : Nat → Nat) (f' : Nat → V4) : Prop := ∀ a, a < 4 → ∃ c, c < 4 ∧ ix' a = ix c ∧ f' a = f c
theorem Re.trans {ix ix' ix'' : Nat → Nat} {f f' f'' : Nat → V4} (h : Re ix f ix' f') (h' : Re ix' f' ix'' f'') : Re ix f ix'' f'' := by
  intro a ha
  obtain ⟨c, hc, e1, e2⟩ := h' a ha
  obtain ⟨g, hg, e3, e4⟩ := h c hc
  exact ⟨g, hg, by rw [e1, e3], by rw [e2, e4]⟩
theorem cs4 {v : Nat → V4} {m : Nat} {w : Nat → Int} {ix : Nat → Nat} {f : Nat → V4} {d : Int} (h : DF v m w ix f d) (i j : Nat) (hi : i < 4) (hj : j < 4) (hij : i ≠ j) : ∃ ix' f', DF v m w ix' f' d ∧ Re ix f ix' f' ∧ (∀ a, a ≠ i → a ≠ j → ix' a = ix a) ∧ ((ix i ≤ ix j ∧ ix' i = ix i ∧ ix' j = ix j) ∨ (ix j ≤ ix i ∧ ix' i = ix j ∧ ix' j = ix i)) := by
  by_cases c : ix i ≤ ix j
  · exact ⟨ix, f, h, fun a ha => ⟨a, ha, rfl, rfl⟩, fun _ _ _ => rfl, Or.inl ⟨c, rfl, rfl⟩⟩
  · refine ⟨_, _, DF_sw h hi hj, fun a ha => ⟨sw i j a, sw_lt hi hj ha, rfl, rfl⟩, fun a h1 h2 => ?_, Or.inr ⟨by omega, ?_, ?_⟩⟩
    · show ix (sw i j a) = ix a
      unfold sw
      rw [if_neg h1, if_neg h2]
    · show ix (sw i j i) = ix j
      unfold sw
      rw [if_pos rfl]
    · show ix (sw i j j) = ix i
      unfold sw
      rw [if_neg (fun e => hij e.symm), if_pos rfl]
theorem sort4 {v : Nat → V4} {m : Nat} {w : Nat → Int} {ix : Nat → Nat} {f : Nat → V4} {d : Int} (h : DF v m w ix f d) : ∃ ix' f', DF v m w ix' f' d ∧ Re ix f ix' f' ∧ ix' 0 < ix' 1 ∧ ix' 1 < ix' 2 ∧ ix' 2 < ix' 3 := by
  obtain ⟨x1, f1, h1, r1, o1, s1⟩ := cs4 h 0 1 (by omega) (by omega) (by omega)
  obtain ⟨x2, f2, h2, r2, o2, s2⟩ := cs4 h1 2 3 (by omega) (by omega) (by omega)
  obtain ⟨x3, f3, h3, r3, o3, s3⟩ := cs4 h2 0 2 (by omega) (by omega) (by omega)
  obtain ⟨x4, f4, h4, r4, o4, s4⟩ := cs4 h3 1 3 (by omega) (by omega) (by omega)
  obtain ⟨x5, f5, h5, r5, o5, s5⟩ := cs4 h4 1 2 (by omega) (by omega) (by omega)
  have inj : ∀ i j, i < 4 → j < 4 → x5 i = x5 j → i = j := fun i j hi hj e => Fr_inj h5.1 hi hj (by show v (x5 i) = v (x5 j); rw [e])
  have n01 : x5 0 ≠ x5 1 := fun e => absurd (inj 0 1 (by omega) (by omega) e) (by decide)
  have n12 : x5 1 ≠ x5 2 := fun e => absurd (inj 1 2 (by omega) (by omega) e) (by decide)
  have n23 : x5 2 ≠ x5 3 := fun e => absurd (inj 2 3 (by omega) (by omega) e) (by decide)
  have a2 := o1 2 (by omega) (by omega)
  have a3 := o1 3 (by omega) (by omega)
  have b0 := o2 0 (by omega) (by omega)
  have b1 := o2 1 (by omega) (by omega)
  have c1 := o3 1 (by omega) (by omega)
  have c3 := o3 3 (by omega) (by omega)
  have d0 := o4 0 (by omega) (by omega)
  have d2 := o4 2 (by omega) (by omega)
  have e0 := o5 0 (by omega) (by omega)
  have e3 := o5 3 (by omega) (by omega)
  refine ⟨x5, f5, h5, r1.trans (r2.trans (r3.trans (r4.trans r5))), ?_, ?_, ?_⟩
  · omega
  · omega
  · omega
