/-! solid bodies grow by the rule -/
def v4of (v : V3) : V4 := (v.1, v.2.1, v.2.2, 1)
def sL (ss : Nat) (s : Nat → V3) (e : Nat → Int) : List V4 := (List.range ss).map fun i => sF (s i) (e i)
theorem sL_mem {ss : Nat} {s : Nat → V3} {e : Nat → Int} {g : V4} : g ∈ sL ss s e ↔ ∃ i, i < ss ∧ g = sF (s i) (e i) := by
  unfold sL
  rw [List.mem_map]
  constructor
  · rintro ⟨i, hi, rfl⟩; exact ⟨i, List.mem_range.mp hi, rfl⟩
  · rintro ⟨i, hi, rfl⟩; exact ⟨i, List.mem_range.mpr hi, rfl⟩
theorem dt_v4 (g : V4) (v : V3) : dt g (v4of v) = d3 (v3of g) v + g.2.2.2 := by unfold dt v4of d3 v3of; grind
theorem dt_v3 (g X : V4) : dt g X = d3 (v3of g) (v3of X) + g.2.2.2 * X.2.2.2 := by unfold dt d3 v3of; grind
section
variable {f : Nat} {N : V3} {cs : Nat} {c : Nat → V3} {ss : Nat} {s : Nat → V3} {e : Nat → Int} {bd' : Nat → V3} {be L G : Nat → Int} {n : Nat} {p : Nat → V3}
theorem CB_3 (X : V4) : CB 3 N ss s e be (v3of X) X.2.2.2 ↔ ∀ g, g ∈ sL ss s e → 0 ≤ dt g X := by
  constructor
  · intro h g hg
    obtain ⟨i, hi, rfl⟩ := sL_mem.mp hg
    rw [dt_sF]
    have := h.2 i hi
    omega
  · intro h
    refine ⟨fun i hi => by unfold nbd at hi; simp at hi, fun i hi => ?_⟩
    have := h _ (sL_mem.mpr ⟨i, hi, rfl⟩)
    rw [dt_sF] at this
    omega
theorem CI_3 (X : V4) : CI 3 N ss s e be (v3of X) X.2.2.2 ↔ ∀ g, g ∈ sL ss s e → 0 < dt g X := by
  constructor
  · intro h g hg
    obtain ⟨i, hi, rfl⟩ := sL_mem.mp hg
    rw [dt_sF]
    have := h.2 i hi
    omega
  · intro h
    refine ⟨fun i hi => by unfold nbd at hi; simp at hi, fun i hi => ?_⟩
    have := h _ (sL_mem.mpr ⟨i, hi, rfl⟩)
    rw [dt_sF] at this
    omega
theorem Fr_four {x y z t : V3} (h : d3 (cr (sb3 y x) (sb3 z x)) (sb3 t x) ≠ 0) (b : Nat → V4) (h0 : b 0 = v4of x) (h1 : b 1 = v4of y) (h2 : b 2 = v4of z) (h3 : b 3 = v4of t) : ∃ s : Int, Fr b (crf b s) (s * dt (sq3 (b 1) (b 2) (b 3)) (b 0)) := by
  refine Fr_det b fun hd => h ?_
  rw [h0, h1, h2, h3] at hd
  have : dt (sq3 (v4of y) (v4of z) (v4of t)) (v4of x) = - d3 (cr (sb3 y x) (sb3 z x)) (sb3 t x) := by
    unfold dt sq3 det3 v4of d3 cr sb3
    grind
  omega
/-- a form that is nowhere below nought on the points is so on the cone -/
theorem cone_g (hn : 1 ≤ n) (hB : BodyP (Mm n p) f N cs c ss s e bd' be L G) {X : V4} (h : CB f N ss s e be (v3of X) X.2.2.2) (hp : f = 0 → 0 ≤ X.2.2.2) {g : V4} (hg : ∀ k, k < n → 0 ≤ dt g (v4of (p k))) : 0 ≤ dt g X := by
  obtain ⟨t, ⟨k, hk, rfl⟩, hh⟩ := argmax (d3 (ng3 (v3of g))) n p hn
  have c1 := cone hn hB h ⟨k, hk, rfl⟩ hh
  have c2 := hg k hk
  rw [d3_ng, d3_ng, Int.mul_neg] at c1
  rw [dt_v4] at c2
  rw [dt_v3]
  have hQ : 0 ≤ X.2.2.2 := by
    by_cases f0 : f = 0
    · exact hp f0
    · exact Classical.byContradiction fun hc => cone_neg hn hB (by omega) (show X.2.2.2 < 0 by omega) h
  have m := Int.mul_nonneg hQ c2
  rw [Int.mul_add, Int.mul_comm X.2.2.2 g.2.2.2] at m
  omega
theorem sides_3 (hn : 1 ≤ n) (hB : BodyP (Mm n p) 3 N cs c ss s e bd' be L G) : 1 ≤ ss := by
  refine Classical.byContradiction fun hc => ?_
  have := cone_0 hn hB (X := (1, 0, 0)) ⟨fun i hi => by unfold nbd at hi; simp at hi, fun i hi => by omega⟩
  have := (v3_iff.mp this).1
  change (1 : Int) = 0 at this
  omega
theorem grow_3 (hn : 1 ≤ n) (hr : ∀ v, Mm n p v → rc3 v) (hB : BodyP (Mm n p) 3 N cs c ss s e bd' be L G) : (∀ k, 0 ≤ k → k ≤ 5 → 6 * (Kc 3 N ss s e be L G k : Int) = ru3 (Kc 3 N ss s e be L G) * k ^ 3 + ru2 (Kc 3 N ss s e be L G) * k ^ 2 + ru1 (Kc 3 N ss s e be L G) * k + 6 * Kc 3 N ss s e be L G 0) ∧ ∀ k, 1 ≤ k → k ≤ 5 → 6 * (Ki 3 N ss s e be L G k : Int) = ru3 (Kc 3 N ss s e be L G) * k ^ 3 - ru2 (Kc 3 N ss s e be L G) * k ^ 2 + ru1 (Kc 3 N ss s e be L G) * k - 6 * Kc 3 N ss s e be L G 0 := by
  have s1 := sides_3 hn hB
  have hFD := hB.1
  rcases hFD with ⟨q, _⟩ | ⟨q, _⟩ | ⟨q, _⟩ | ⟨_, x, y, z, t, ⟨i0, hi0, e0⟩, ⟨i1, hi1, e1⟩, ⟨i2, hi2, e2⟩, ⟨i3, hi3, e3⟩, hd⟩
  · omega
  · omega
  · omega
  · obtain ⟨sg, hF⟩ := Fr_four hd (fun i => v4of (p (if i = 0 then i0 else if i = 1 then i1 else if i = 2 then i2 else i3))) (by rw [← e0]; rfl) (by rw [← e1]; rfl) (by rw [← e2]; rfl) (by rw [← e3]; rfl)
    obtain ⟨β, b1, b2, b3⟩ := ehrhart (v := fun k => v4of (p k)) (m := n) (fun k _ => rfl) (B := fun i => if i = 0 then i0 else if i = 1 then i1 else if i = 2 then i2 else i3) hF (fun i hi => by
        rcases (show i = 0 ∨ i = 1 ∨ i = 2 ∨ i = 3 by omega) with rfl | rfl | rfl | rfl
        · exact hi0
        · exact hi1
        · exact hi2
        · exact hi3) (sL ss s e) (fun g hg k hk => by
        obtain ⟨i, hi, rfl⟩ := sL_mem.mp hg
        rw [dt_sF]
        have := side_all hB (t := p k) ⟨k, hk, rfl⟩ hi
        show 0 ≤ e i * 1 - d3 (s i) (p k)
        omega) (fun ix fr d i hi hfr hix hpos X hX => cone_g hn hB ((CB_3 X).mpr hX) (fun h => by omega) hpos) (fun g hg => by
        obtain ⟨i, hi, rfl⟩ := sL_mem.mp hg
        refine Classical.byContradiction fun hc => ?_
        have gi := hB.2.2.2.2.1.2 i hi
        have pr : prim (s i) := by
          rcases gi with ⟨q, _⟩ | ⟨q, _⟩ | ⟨_, q⟩
          · omega
          · omega
          · exact q.1
        have nf : NF (Mm n p) := NF_det (p := x) (q := y) (r := z) (t := t) ⟨i0, hi0, e0⟩ ⟨i1, hi1, e1⟩ ⟨i2, hi2, e2⟩ ⟨i3, hi3, e3⟩ hd
        refine nf (s i) (e i) pr ?_
        rintro v ⟨k, hk, rfl⟩
        have q1 := side_all hB (t := p k) ⟨k, hk, rfl⟩ hi
        have q2 : ¬ 0 < dt (sF (s i) (e i)) (v4of (p k)) := fun q => hc ⟨k, hk, q⟩
        rw [dt_sF] at q2
        change ¬ 0 < e i * 1 - d3 (s i) (p k) at q2
        omega) (Kc 3 N ss s e be L G) (Ki 3 N ss s e be L G) (fun Q => (HC_Kc hn hr hB (by omega) Q).iff fun X => ⟨fun ⟨h1, h2⟩ => ⟨h1, (CB_3 X).mp (by rw [h1]; exact h2)⟩, fun ⟨h1, h2⟩ => ⟨h1, by rw [← h1]; exact (CB_3 X).mpr h2⟩⟩) (fun Q => (HC_Ki hn hr hB (by omega) s1 Q).iff fun X => ⟨fun ⟨h1, h2⟩ => ⟨h1, (CI_3 X).mp (by rw [h1]; exact h2)⟩, fun ⟨h1, h2⟩ => ⟨h1, by rw [← h1]; exact (CI_3 X).mpr h2⟩⟩)
    exact ehr_num b1 b2 b3 (fun k hk => by unfold Kc; rw [if_pos hk]) (fun k hk => by unfold Ki; rw [if_pos hk])
end
