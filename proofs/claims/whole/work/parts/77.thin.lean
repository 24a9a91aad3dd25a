/-! steps, rows, between; the class thins its points -/
def sb3 (a b : V3) : V3 := (a.1 - b.1, a.2.1 - b.2.1, a.2.2 - b.2.2)
def cr (u v : V3) : V3 := (u.2.1 * v.2.2 - u.2.2 * v.2.1, u.2.2 * v.1 - u.1 * v.2.2, u.1 * v.2.1 - u.2.1 * v.1)
def d3 (u v : V3) : Int := u.1 * v.1 + u.2.1 * v.2.1 + u.2.2 * v.2.2
def o3 : V3 := (0, 0, 0)
def row3 (a b c : V3) : Prop := cr (sb3 b a) (sb3 c a) = o3
theorem v3_iff {x y : V3} : x = y ↔ x.1 = y.1 ∧ x.2.1 = y.2.1 ∧ x.2.2 = y.2.2 := ⟨fun h => by rw [h]; exact ⟨rfl, rfl, rfl⟩, fun h => v3_ext h.1 h.2.1 h.2.2⟩
theorem mbd {a b : Int} (A B : Int) (h1 : -A ≤ a) (h2 : a ≤ A) (h3 : -B ≤ b) (h4 : b ≤ B) : -(A * B) ≤ a * b ∧ a * b ≤ A * B := by
  have h5 : 0 ≤ A := by omega
  have h6 : 0 ≤ B := by omega
  have e1 : 0 ≤ (A - a) * (B + b) := Int.mul_nonneg (by omega) (by omega)
  have e2 : 0 ≤ (A + a) * (B - b) := Int.mul_nonneg (by omega) (by omega)
  have e3 : 0 ≤ (A - a) * (B - b) := Int.mul_nonneg (by omega) (by omega)
  have e4 : 0 ≤ (A + a) * (B + b) := Int.mul_nonneg (by omega) (by omega)
  constructor <;> grind
/-- b lies between a and c -/
def Btw (a b c : V3) : Prop := ∃ s t : Int, 0 ≤ s ∧ 0 ≤ t ∧ 0 < s + t ∧ (s + t) * b.1 = s * a.1 + t * c.1 ∧ (s + t) * b.2.1 = s * a.2.1 + t * c.2.1 ∧ (s + t) * b.2.2 = s * a.2.2 + t * c.2.2
theorem btw_row {a b c : V3} (h1 : lx a b) (h2 : lx b c) (h3 : row3 a b c) : Btw a b c := by
  unfold row3 at h3
  have h3 := v3_iff.mp h3
  unfold cr sb3 o3 at h3
  dsimp only at h3
  obtain ⟨e1, e2, e3⟩ := h3
  unfold lx at h1 h2
  by_cases c1 : a.1 < c.1
  · exact ⟨c.1 - b.1, b.1 - a.1, by omega, by omega, by omega, by grind, by grind, by grind⟩
  · by_cases c2 : a.2.1 < c.2.1
    · have q1 : b.1 = a.1 := by omega
      have q2 : c.1 = a.1 := by omega
      exact ⟨c.2.1 - b.2.1, b.2.1 - a.2.1, by omega, by omega, by omega, by grind, by grind, by grind⟩
    · have q1 : b.1 = a.1 := by omega
      have q2 : c.1 = a.1 := by omega
      have q3 : b.2.1 = a.2.1 := by omega
      have q4 : c.2.1 = a.2.1 := by omega
      exact ⟨c.2.2 - b.2.2, b.2.2 - a.2.2, by omega, by omega, by omega, by grind, by grind, by grind⟩
theorem btw_ext {a q b x : V3} (h : Btw a q b) (h2 : Btw a b x) : Btw a q x := by
  obtain ⟨s, t, k1, k2, k3, e1, e2, e3⟩ := h
  obtain ⟨s', t', l1, l2, l3, f1, f2, f3⟩ := h2
  refine ⟨s * (s' + t') + t * s', t * t', ?_, ?_, ?_, ?_, ?_, ?_⟩
  · have := Int.mul_nonneg k1 (show 0 ≤ s' + t' by omega)
    have := Int.mul_nonneg k2 l1
    omega
  · exact Int.mul_nonneg k2 l2
  · have := Int.mul_pos k3 l3
    grind
  · grind
  · grind
  · grind
theorem par_tr {u v w : V3} (h1 : cr u v = o3) (h2 : cr v w = o3) (h3 : v ≠ o3) : cr u w = o3 := by
  have h1 := v3_iff.mp h1
  have h2 := v3_iff.mp h2
  unfold cr o3 at h1 h2
  dsimp only at h1 h2
  obtain ⟨a1, a2, a3⟩ := h1
  obtain ⟨b1, b2, b3⟩ := h2
  have key : ∀ {x y : Int}, x ≠ 0 → x * y = 0 → y = 0 := fun hx h => (Int.mul_eq_zero.mp h).resolve_left hx
  refine v3_iff.mpr ?_
  unfold cr o3
  dsimp only
  by_cases c1 : v.1 = 0
  · by_cases c2 : v.2.1 = 0
    · have c3 : v.2.2 ≠ 0 := fun c3 => h3 (v3_ext c1 c2 c3)
      exact ⟨key c3 (by grind), key c3 (by grind), key c3 (by grind)⟩
    · exact ⟨key c2 (by grind), key c2 (by grind), key c2 (by grind)⟩
  · exact ⟨key c1 (by grind), key c1 (by grind), key c1 (by grind)⟩
theorem row_push {p a b x : V3} (h1 : ¬ row3 p a b) (h2 : row3 a b x) (h3 : x ≠ a) : ¬ row3 p a x := by
  intro h
  apply h1
  have n : sb3 x a ≠ o3 := fun e => h3 (by
    have e := v3_iff.mp e
    unfold sb3 o3 at e
    dsimp only at e
    exact v3_ext (by omega) (by omega) (by omega))
  have k1 : cr (sb3 a p) (sb3 x a) = o3 := by
    unfold row3 at h
    have h := v3_iff.mp h
    refine v3_iff.mpr ?_
    unfold cr sb3 o3 at h ⊢
    dsimp only at h ⊢
    obtain ⟨q1, q2, q3⟩ := h
    exact ⟨by grind, by grind, by grind⟩
  have k2 : cr (sb3 x a) (sb3 b a) = o3 := by
    unfold row3 at h2
    have h := v3_iff.mp h2
    refine v3_iff.mpr ?_
    unfold cr sb3 o3 at h ⊢
    dsimp only at h ⊢
    obtain ⟨q1, q2, q3⟩ := h
    exact ⟨by grind, by grind, by grind⟩
  have k3 := par_tr k1 k2 n
  unfold row3
  have h := v3_iff.mp k3
  refine v3_iff.mpr ?_
  unfold cr sb3 o3 at h ⊢
  dsimp only at h ⊢
  obtain ⟨q1, q2, q3⟩ := h
  exact ⟨by grind, by grind, by grind⟩
theorem inRow_i {n : Nat} {p : Nat → V3} {a b c : Nat} (ha : a < n) (hb : b < n) (hc : c < n) (hn : n < 1000) (h1 : rc3 (p a)) (h2 : rc3 (p b)) (h3 : rc3 (p c)) : ∃ r : Int, fX4_inRow n (px p) (py p) (pz p) (iz (a : Int)) (iz (b : Int)) (iz (c : Int)) = some (iz r) ∧ (r = 0 ∨ r = 1) ∧ (r = 1 ↔ row3 (p a) (p b) (p c)) := by
  obtain ⟨a1, a2, a3⟩ := h1
  obtain ⟨b1, b2, b3⟩ := h2
  obtain ⟨c1, c2, c3⟩ := h3
  unfold fX4_inRow row3
  unfold cut
  dsimp only
  rw [v3_iff, ix_gd ha (by omega), ix_gd hb (by omega), ix_gd hc (by omega), iz_cn (by omega), iz_cn (by omega), iz_cn (by omega)]
  unfold cr sb3 o3
  dsimp only
  simp only [px_i, py_i, pz_i, iz_sub, iz_mul]
  have m1 := mbd (a := (p b).2.1 - (p a).2.1) (b := (p c).2.2 - (p a).2.2) 10 10 (by omega) (by omega) (by omega) (by omega)
  have m2 := mbd (a := (p b).2.2 - (p a).2.2) (b := (p c).2.1 - (p a).2.1) 10 10 (by omega) (by omega) (by omega) (by omega)
  have m3 := mbd (a := (p b).2.2 - (p a).2.2) (b := (p c).1 - (p a).1) 10 10 (by omega) (by omega) (by omega) (by omega)
  have m4 := mbd (a := (p b).1 - (p a).1) (b := (p c).2.2 - (p a).2.2) 10 10 (by omega) (by omega) (by omega) (by omega)
  have m5 := mbd (a := (p b).1 - (p a).1) (b := (p c).2.1 - (p a).2.1) 10 10 (by omega) (by omega) (by omega) (by omega)
  have m6 := mbd (a := (p b).2.1 - (p a).2.1) (b := (p c).1 - (p a).1) 10 10 (by omega) (by omega) (by omega) (by omega)
  generalize ((p b).2.1 - (p a).2.1) * ((p c).2.2 - (p a).2.2) = x1 at *
  generalize ((p b).2.2 - (p a).2.2) * ((p c).2.1 - (p a).2.1) = x2 at *
  generalize ((p b).2.2 - (p a).2.2) * ((p c).1 - (p a).1) = x3 at *
  generalize ((p b).1 - (p a).1) * ((p c).2.2 - (p a).2.2) = x4 at *
  generalize ((p b).1 - (p a).1) * ((p c).2.1 - (p a).2.1) = x5 at *
  generalize ((p b).2.1 - (p a).2.1) * ((p c).1 - (p a).1) = x6 at *
  simp (disch := omega) only [iz_eq]
  by_cases q1 : x1 = x2
  · rw [if_pos q1]
    by_cases q2 : x3 = x4
    · rw [if_pos q2]
      by_cases q3 : x5 = x6
      · rw [if_pos q3]
        exact ⟨1, rfl, Or.inr rfl, by omega⟩
      · rw [if_neg q3]
        exact ⟨0, rfl, Or.inl rfl, by omega⟩
    · rw [if_neg q2]
      exact ⟨0, rfl, Or.inl rfl, by omega⟩
  · rw [if_neg q1]
    exact ⟨0, rfl, Or.inl rfl, by omega⟩
/-- how far the thinning is -/
def ThI (p0 : Nat → V3) (k i : Nat) (p : Nat → V3) : Prop := k ≤ i ∧ (1 ≤ i → 1 ≤ k) ∧ SS k p ∧ (∀ a, a < k → Mm i p0 (p a)) ∧ (1 ≤ i → p (k - 1) = p0 (i - 1)) ∧ (∀ b, b < i → Mm k p (p0 b) ∨ ∃ a, a + 1 < k ∧ Btw (p a) (p0 b) (p (a + 1))) ∧ (∀ a, a + 2 < k → ¬ row3 (p a) (p (a + 1)) (p (a + 2))) ∧ ∀ a, i ≤ a → p a = p0 a
theorem ThI_dup {p0 p : Nat → V3} {k i : Nat} (h : ThI p0 k i p) (hk : 1 ≤ k) (e : p (k - 1) = p i) : ThI p0 k (i + 1) p := by
  obtain ⟨h1, h2, h3, h4, h5, h6, h7, h8⟩ := h
  refine ⟨by omega, fun _ => hk, h3, fun a ha => ?_, fun _ => ?_, fun b hb => ?_, h7, fun a ha => h8 a (by omega)⟩
  · obtain ⟨j, hj, ej⟩ := h4 a ha
    exact ⟨j, by omega, ej⟩
  · rw [e, h8 i (Nat.le_refl _), show i + 1 - 1 = i by omega]
  · by_cases c : b = i
    · subst c
      exact Or.inl ⟨k - 1, by omega, by rw [e, h8 b (Nat.le_refl _)]⟩
    · exact h6 b (by omega)
theorem ud_s {α : Type} (p : Nat → α) (k : Nat) (v : α) : ud p k v k = v := if_pos rfl
theorem ud_n {α : Type} (p : Nat → α) {k i : Nat} (v : α) (h : i ≠ k) : ud p k v i = p i := if_neg h
theorem ThI_push {p0 p : Nat → V3} {k i : Nat} (h : ThI p0 k i p) (hl : 1 ≤ k → lx (p (k - 1)) (p i)) (hr : 2 ≤ k → ¬ row3 (p (k - 2)) (p (k - 1)) (p i)) : ThI p0 (k + 1) (i + 1) (ud p k (p i)) := by
  obtain ⟨h1, h2, h3, h4, h5, h6, h7, h8⟩ := h
  refine ⟨by omega, fun _ => by omega, fun a b hab hb => ?_, fun a ha => ?_, fun _ => ?_, fun b hb => ?_, fun a ha => ?_, fun a ha => ?_⟩
  · rw [ud_n p _ (by omega)]
    by_cases c : b = k
    · subst c
      rw [ud_s]
      by_cases c2 : a = b - 1
      · rw [c2]; exact hl (by omega)
      · exact lx_tr (h3 a (b - 1) (by omega) (by omega)) (hl (by omega))
    · rw [ud_n p _ c]
      exact h3 a b hab (by omega)
  · by_cases c : a = k
    · subst c
      rw [ud_s, h8 i (Nat.le_refl _)]
      exact ⟨i, by omega, rfl⟩
    · rw [ud_n p _ c]
      obtain ⟨j, hj, ej⟩ := h4 a (by omega)
      exact ⟨j, by omega, ej⟩
  · rw [show k + 1 - 1 = k by omega, ud_s, h8 i (Nat.le_refl _), show i + 1 - 1 = i by omega]
  · by_cases c : b = i
    · subst c
      exact Or.inl ⟨k, by omega, by rw [ud_s, h8 b (Nat.le_refl _)]⟩
    · rcases h6 b (by omega) with ⟨j, hj, ej⟩ | ⟨a, ha, hb2⟩
      · exact Or.inl ⟨j, by omega, by rw [ud_n p _ (by omega)]; exact ej⟩
      · refine Or.inr ⟨a, by omega, ?_⟩
        rw [ud_n p _ (by omega), ud_n p _ (by omega)]
        exact hb2
  · by_cases c : a + 2 = k
    · have e1 : a = k - 2 := by omega
      have e2 : a + 1 = k - 1 := by omega
      rw [ud_n p _ (by omega), ud_n p _ (by omega), c, ud_s, e1, show k - 2 + 1 = k - 1 by omega]
      exact hr (by omega)
    · rw [ud_n p _ (by omega), ud_n p _ (by omega), ud_n p _ c]
      exact h7 a (by omega)
  · rw [ud_n p _ (by omega)]
    exact h8 a (by omega)
theorem ThI_pop {p0 p : Nat → V3} {k i : Nat} (h : ThI p0 k i p) (hk : 2 ≤ k) (hl : lx (p (k - 1)) (p i)) (hr : row3 (p (k - 2)) (p (k - 1)) (p i)) : ThI p0 k (i + 1) (ud p (k - 1) (p i)) := by
  obtain ⟨h1, h2, h3, h4, h5, h6, h7, h8⟩ := h
  have l0 := h3 (k - 2) (k - 1) (by omega) (by omega)
  have bt := btw_row l0 hl hr
  have h21 : k - 2 + 1 = k - 1 := by omega
  refine ⟨by omega, fun _ => by omega, fun a b hab hb => ?_, fun a ha => ?_, fun _ => ?_, fun b hb => ?_, fun a ha => ?_, fun a ha => ?_⟩
  · rw [ud_n p _ (by omega)]
    by_cases c : b = k - 1
    · subst c
      rw [ud_s]
      exact lx_tr (h3 a (k - 1) (by omega) (by omega)) hl
    · rw [ud_n p _ c]
      exact h3 a b hab (by omega)
  · by_cases c : a = k - 1
    · subst c
      rw [ud_s, h8 i (Nat.le_refl _)]
      exact ⟨i, by omega, rfl⟩
    · rw [ud_n p _ c]
      obtain ⟨j, hj, ej⟩ := h4 a (by omega)
      exact ⟨j, by omega, ej⟩
  · rw [ud_s, h8 i (Nat.le_refl _), show i + 1 - 1 = i by omega]
  · by_cases c : b = i
    · subst c
      exact Or.inl ⟨k - 1, by omega, by rw [ud_s, h8 b (Nat.le_refl _)]⟩
    · rcases h6 b (by omega) with ⟨j, hj, ej⟩ | ⟨a, ha, hb2⟩
      · by_cases c2 : j = k - 1
        · refine Or.inr ⟨k - 2, by omega, ?_⟩
          rw [ud_n p _ (by omega), h21, ud_s, ← ej, c2]
          exact bt
        · exact Or.inl ⟨j, by omega, by rw [ud_n p _ c2]; exact ej⟩
      · by_cases c2 : a + 1 = k - 1
        · have e1 : a = k - 2 := by omega
          subst e1
          refine Or.inr ⟨k - 2, by omega, ?_⟩
          rw [ud_n p _ (by omega), h21, ud_s]
          rw [h21] at hb2
          exact btw_ext hb2 bt
        · refine Or.inr ⟨a, by omega, ?_⟩
          rw [ud_n p _ (by omega), ud_n p _ (by omega)]
          exact hb2
  · by_cases c : a + 2 = k - 1
    · rw [ud_n p _ (by omega), ud_n p _ (by omega), c, ud_s]
      have e2 : a + 1 = k - 2 := by omega
      have := h7 a (by omega)
      rw [c, e2] at this
      rw [e2]
      exact row_push this hr (fun e => lx_irr (a := p i) (by
        have := lx_tr l0 hl
        rw [← e] at this
        exact this))
    · rw [ud_n p _ (by omega), ud_n p _ (by omega), ud_n p _ c]
      exact h7 a (by omega)
  · rw [ud_n p _ (by omega)]
    exact h8 a (by omega)
theorem thin_loop {n sz : Nat} (hsz : sz ≤ n) (hn : n < 1000) {p0 : Nat → V3} (hw : ∀ a b, a < b → b < sz → ¬ lx (p0 b) (p0 a)) (hr : ∀ v, Mm sz p0 v → rc3 v) : ∀ (m fuel k i : Nat) (p : Nat → V3), i + m = sz → m < fuel → ThI p0 k i p → ∃ (k' : Nat) (p' : Nat → V3), LX4_thin_4 n fuel (iz (k : Int)) (iz (i : Int)) (iz (sz : Int)) (px p) (py p) (pz p) = some (iz (k' : Int), px p', py p', pz p') ∧ ThI p0 k' sz p' := by
  intro m
  induction m with
  | zero =>
    intro fuel k i p h1 h2 h3
    obtain ⟨fuel, rfl⟩ : ∃ q, fuel = q + 1 := ⟨fuel - 1, by omega⟩
    refine ⟨k, p, ?_, by rw [← h1]; exact h3⟩
    have := h3.1
    rw [LX4_thin_4, if_pos ((ix_le (by omega) (by omega)).mpr (by omega))]
  | succ m ih =>
    intro fuel k i p h1 h2 h3
    obtain ⟨fuel, rfl⟩ : ∃ q, fuel = q + 1 := ⟨fuel - 1, by omega⟩
    have hk := h3.1
    have hri : rc3 (p i) := by rw [h3.2.2.2.2.2.2.2 i (Nat.le_refl _)]; exact hr _ ⟨i, by omega, rfl⟩
    have hrk : ∀ a, a < k → rc3 (p a) := fun a ha => by
      obtain ⟨j, hj, ej⟩ := h3.2.2.2.1 a ha
      exact hr _ ⟨j, by omega, ej⟩
    rw [LX4_thin_4, if_neg (fun h => by have := (ix_le (by omega) (by omega)).mp h; omega)]
    have push : (1 ≤ k → lx (p (k - 1)) (p i)) → (2 ≤ k → ¬ row3 (p (k - 2)) (p (k - 1)) (p i)) → ∃ (k' : Nat) (p' : Nat → V3), JX4_thin_53 n (LX4_thin_4 n fuel) (iz (k : Int)) (iz (i : Int)) (iz (sz : Int)) (px p) (py p) (pz p) = some (iz (k' : Int), px p', py p', pz p') ∧ ThI p0 k' sz p' := by
      intro hl hrw
      obtain ⟨k', p', e1, e2⟩ := ih fuel (k + 1) (i + 1) _ (by omega) (by omega) (ThI_push h3 hl hrw)
      refine ⟨k', p', ?_, e2⟩
      unfold JX4_thin_53 JX4_thin_62
      rw [copy_i (by omega) (by omega) hn, bd_some, ix_s, ix_s]
      exact e1
    have lxk : 1 ≤ k → p (k - 1) ≠ p i → lx (p (k - 1)) (p i) := fun hk1 ne => by
      have q1 := h3.2.2.2.2.1 (by omega)
      have q2 := h3.2.2.2.2.2.2.2 i (Nat.le_refl _)
      have := hw (i - 1) i (by omega) (by omega)
      rw [← q1, ← q2] at this
      rcases lx_tri (p (k - 1)) (p i) with t | t | t
      · exact t
      · exact (ne t).elim
      · exact (this t).elim
    rcases Nat.eq_zero_or_pos k with c0 | c0
    · subst c0
      rw [if_pos ((ix_z (by omega)).mpr rfl)]
      unfold JX4_thin_31
      rw [if_pos (by rw [z1, iz_le (by omega) (by omega) (by omega) (by omega)]; omega)]
      exact push (fun h => by omega) (fun h => by omega)
    · obtain ⟨k, rfl⟩ : ∃ q, k = q + 1 := ⟨k - 1, by omega⟩
      rw [if_neg (fun h => by have := (ix_z (by omega)).mp h; omega), ix_p]
      obtain ⟨c, e1, b1, b2, l1, l2, l3⟩ := cmp_i (n := n) (n2 := n) (p := p) (q := p) (a := k) (b := i) (by omega) (by omega) hn hn (hrk k (by omega)) hri
      rw [e1, bd_some]
      by_cases hc : c = 0
      · rw [if_pos (by rw [z0, iz_eq (by omega) (by omega) (by omega) (by omega)]; exact hc)]
        obtain ⟨k', p', e1, e2⟩ := ih fuel (k + 1) (i + 1) _ (by omega) (by omega) (ThI_dup h3 (by omega) (l2.mp hc))
        refine ⟨k', p', ?_, e2⟩
        unfold JX4_thin_62
        rw [ix_s]
        exact e1
      · have lk : lx (p k) (p i) := lxk (by omega) (fun e => hc (l2.mpr e))
        rw [if_neg (by rw [z0, iz_eq (by omega) (by omega) (by omega) (by omega)]; exact hc)]
        unfold JX4_thin_31
        rcases Nat.eq_zero_or_pos k with c1 | c1
        · subst c1
          rw [if_pos (by rw [z1, iz_le (by omega) (by omega) (by omega) (by omega)]; omega)]
          exact push (fun h => lk) (fun h => by omega)
        · obtain ⟨k, rfl⟩ : ∃ q, k = q + 1 := ⟨k - 1, by omega⟩
          rw [if_neg (by rw [z1, iz_le (by omega) (by omega) (by omega) (by omega)]; omega)]
          rw [show iz ((k + 1 + 1 : Nat) : Int) - 2 = iz (k : Int) from ix_p2 k, ix_p]
          obtain ⟨r, e3, r1, r2⟩ := inRow_i (n := n) (p := p) (a := k) (b := k + 1) (c := i) (by omega) (by omega) (by omega) hn (hrk k (by omega)) (hrk (k + 1) (by omega)) hri
          rw [e3, bd_some]
          rcases r1 with r1 | r1
          · subst r1
            rw [if_pos (show iz 0 = 0 from rfl)]
            exact push (fun h => lk) (fun h hh => by have := r2.mpr hh; omega)
          · subst r1
            rw [if_neg (by decide), ix_n]
            obtain ⟨k', p', e1, e2⟩ := ih fuel (k + 1 + 1) (i + 1) _ (by omega) (by omega) (ThI_pop h3 (by omega) lk (r2.mp rfl))
            refine ⟨k', p', ?_, e2⟩
            unfold JX4_thin_53 JX4_thin_62
            rw [copy_i (by omega) (by omega) hn, bd_some, ix_s, ix_s]
            exact e1
theorem thin_i {n sz : Nat} (hsz : sz ≤ n) (hn : n < 1000) {p0 : Nat → V3} (hw : ∀ a b, a < b → b < sz → ¬ lx (p0 b) (p0 a)) (hr : ∀ v, Mm sz p0 v → rc3 v) : ∃ (k : Nat) (p : Nat → V3), fX4_thin n (iz (sz : Int)) (px p0) (py p0) (pz p0) = some (iz (k : Int), px p, py p, pz p) ∧ ThI p0 k sz p :=
  thin_loop hsz hn hw hr sz FU 0 0 p0 (by omega) (by unfold FU; omega) ⟨Nat.le_refl _, fun h => by omega, fun a b _ hb => by omega, fun a ha => by omega, fun h => by omega, fun b hb => by omega, fun a ha => by omega, fun a _ => rfl⟩
