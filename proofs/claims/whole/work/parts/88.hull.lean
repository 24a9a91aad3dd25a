/-! what thinning leaves has the same sides and corners -/
def HQ (Q S : V3 → Prop) : Prop := (∀ p, Q p → S p) ∧ ∀ p, S p → ∃ u v, Q u ∧ Q v ∧ Btw u p v
theorem btw_self (p : V3) : Btw p p p := ⟨1, 0, by omega, by omega, by omega, by omega, by omega, by omega⟩
theorem btw_d3 {u p v : V3} {s t : Int} (e1 : (s + t) * p.1 = s * u.1 + t * v.1) (e2 : (s + t) * p.2.1 = s * u.2.1 + t * v.2.1) (e3 : (s + t) * p.2.2 = s * u.2.2 + t * v.2.2) (n : V3) : (s + t) * d3 n p = s * d3 n u + t * d3 n v := by
  unfold d3
  grind
theorem mul_eqz {s : Int} (h : 0 < s) {x y : Int} (e : s * x = s * y) : x = y := Int.eq_of_mul_eq_mul_left (by omega) e
theorem btw_le {u p v n : V3} {e : Int} (h : Btw u p v) (hu : d3 n u ≤ e) (hv : d3 n v ≤ e) : d3 n p ≤ e := by
  obtain ⟨s, t, h1, h2, h3, e1, e2, e3⟩ := h
  have id := btw_d3 e1 e2 e3 n
  have a := Int.mul_le_mul_of_nonneg_left hu h1
  have b := Int.mul_le_mul_of_nonneg_left hv h2
  have c : (s + t) * d3 n p ≤ (s + t) * e := by
    have : (s + t) * e = s * e + t * e := by grind
    omega
  exact Int.le_of_mul_le_mul_left c h3
theorem btw_on {n u p v : V3} {e : Int} (hu : d3 n u ≤ e) (hv : d3 n v ≤ e) (hp : d3 n p = e) (h : Btw u p v) : ∃ u' v', (u' = u ∨ u' = v) ∧ (v' = u ∨ v' = v) ∧ d3 n u' = e ∧ d3 n v' = e ∧ Btw u' p v' := by
  obtain ⟨s, t, h1, h2, h3, e1, e2, e3⟩ := h
  rcases Int.lt_or_eq_of_le h1 with c1 | c1
  · rcases Int.lt_or_eq_of_le h2 with c2 | c2
    · have id := btw_d3 e1 e2 e3 n
      rw [hp] at id
      have a := Int.mul_le_mul_of_nonneg_left hu h1
      have b := Int.mul_le_mul_of_nonneg_left hv h2
      have k : (s + t) * e = s * e + t * e := by grind
      have x : d3 n u = e := mul_eqz c1 (by omega)
      have y : d3 n v = e := mul_eqz c2 (by omega)
      exact ⟨u, v, Or.inl rfl, Or.inr rfl, x, y, s, t, h1, h2, h3, e1, e2, e3⟩
    · subst c2
      have pu : p = u := v3_ext (mul_eqz c1 (by simp at e1; exact e1)) (mul_eqz c1 (by simp at e2; exact e2)) (mul_eqz c1 (by simp at e3; exact e3))
      subst pu
      exact ⟨p, p, Or.inl rfl, Or.inl rfl, hp, hp, btw_self p⟩
  · subst c1
    have c2 : 0 < t := by omega
    have pv : p = v := v3_ext (mul_eqz c2 (by simp at e1; exact e1)) (mul_eqz c2 (by simp at e2; exact e2)) (mul_eqz c2 (by simp at e3; exact e3))
    subst pv
    exact ⟨p, p, Or.inr rfl, Or.inr rfl, hp, hp, btw_self p⟩
theorem hull_le {Q S : V3 → Prop} (h : HQ Q S) {n : V3} {e : Int} (hn : ∀ p, Q p → d3 n p ≤ e) : ∀ p, S p → d3 n p ≤ e := fun p hp => by
  obtain ⟨u, v, hu, hv, hb⟩ := h.2 p hp
  exact btw_le hb (hn u hu) (hn v hv)
theorem hull_on {Q S : V3 → Prop} (h : HQ Q S) {n : V3} {e : Int} (hn : ∀ p, Q p → d3 n p ≤ e) {p : V3} (hp : S p) (he : d3 n p = e) : ∃ u v, (Q u ∧ d3 n u = e) ∧ (Q v ∧ d3 n v = e) ∧ Btw u p v := by
  obtain ⟨u, v, hu, hv, hb⟩ := h.2 p hp
  obtain ⟨u', v', a, b, c, d, f⟩ := btw_on (hn u hu) (hn v hv) he hb
  refine ⟨u', v', ⟨?_, c⟩, ⟨?_, d⟩, f⟩
  · rcases a with a | a <;> rw [a] <;> assumption
  · rcases b with b | b <;> rw [b] <;> assumption
theorem btw_sc {s t p1 p2 u1 u2 v1 v2 a1 a2 w1 w2 : Int} (e1 : (s + t) * p1 = s * u1 + t * v1) (e2 : (s + t) * p2 = s * u2 + t * v2) (hu : (u1 - a1) * w2 - (u2 - a2) * w1 = 0) (hv : (v1 - a1) * w2 - (v2 - a2) * w1 = 0) : (s + t) * ((p1 - a1) * w2 - (p2 - a2) * w1) = 0 := by
  have h1 : (s + t) * ((p1 - a1) * w2 - (p2 - a2) * w1) = ((s + t) * p1 - (s + t) * a1) * w2 - ((s + t) * p2 - (s + t) * a2) * w1 := by grind
  have h2 : ((s * u1 + t * v1) - (s + t) * a1) * w2 - ((s * u2 + t * v2) - (s + t) * a2) * w1 = s * ((u1 - a1) * w2 - (u2 - a2) * w1) + t * ((v1 - a1) * w2 - (v2 - a2) * w1) := by grind
  rw [h1, e1, e2, h2, hu, hv]
  omega
theorem btw_cr {a w u p v : V3} (hu : cr (sb3 u a) w = o3) (hv : cr (sb3 v a) w = o3) (h : Btw u p v) : cr (sb3 p a) w = o3 := by
  obtain ⟨s, t, h1, h2, h3, e1, e2, e3⟩ := h
  have hu := v3_iff.mp hu
  have hv := v3_iff.mp hv
  unfold cr sb3 o3 at hu hv ⊢
  dsimp only at hu hv
  obtain ⟨u1, u2, u3⟩ := hu
  obtain ⟨v1, v2, v3⟩ := hv
  have key : ∀ y : Int, (s + t) * y = 0 → y = 0 := fun y hy => (Int.mul_eq_zero.mp hy).resolve_left (by omega)
  exact v3_ext (key _ (btw_sc e2 e3 u1 v1)) (key _ (btw_sc e3 e1 u2 v2)) (key _ (btw_sc e1 e2 u3 v3))
theorem btw_eq {a p : V3} (h : Btw a p a) : p = a := by
  obtain ⟨s, t, h1, h2, h3, e1, e2, e3⟩ := h
  exact v3_ext (mul_eqz h3 (by grind)) (mul_eqz h3 (by grind)) (mul_eqz h3 (by grind))
theorem cr_sw {a b : V3} (h : cr a b = o3) : cr b a = o3 := by
  have h := v3_iff.mp h
  unfold cr o3 at h ⊢
  dsimp only at h
  exact v3_ext (by dsimp only; grind) (by dsimp only; grind) (by dsimp only; grind)
theorem line_all {T : V3 → Prop} (hT : ∀ a b c, T a → T b → T c → row3 a b c) {p q r : V3} (hp : ∃ u v, T u ∧ T v ∧ Btw u p v) (hq : ∃ u v, T u ∧ T v ∧ Btw u q v) (hr : ∃ u v, T u ∧ T v ∧ Btw u r v) : row3 p q r := by
  by_cases c : ∃ a b, T a ∧ T b ∧ a ≠ b
  · obtain ⟨a, b, ha, hb, ne⟩ := c
    have wne : sb3 b a ≠ o3 := fun h => ne (sb3_0.mp h).symm
    have on : ∀ x, T x → cr (sb3 x a) (sb3 b a) = o3 := fun x hx => cr_sw (hT a b x ha hb hx)
    have on2 : ∀ x, (∃ u v, T u ∧ T v ∧ Btw u x v) → cr (sb3 x a) (sb3 b a) = o3 := fun x ⟨u, v, hu, hv, h⟩ => btw_cr (on u hu) (on v hv) h
    exact row_line wne (on2 p hp) (on2 q hq) (on2 r hr)
  · have one : ∀ a b, T a → T b → a = b := fun a b ha hb => Classical.byContradiction fun hn => c ⟨a, b, ha, hb, hn⟩
    obtain ⟨u, v, hu, hv, h1⟩ := hp
    obtain ⟨u', v', hu', hv', h2⟩ := hq
    rw [one v u hv hu] at h1
    rw [one u' u hu' hu, one v' u hv' hu] at h2
    have := btw_eq h1
    have := btw_eq h2
    exact Classical.byContradiction fun hn => (row_ne hn).1 (by rw [‹p = u›, ‹q = u›])
theorem Sd3_hull {Q S : V3 → Prop} (h : HQ Q S) (n : V3) (e : Int) : Sd3 Q n e ↔ Sd3 S n e := by
  constructor
  · rintro ⟨p1, u1, a, b, c, sa, sb, sc, ea, eb, ec, r⟩
    exact ⟨p1, hull_le h u1, a, b, c, h.1 a sa, h.1 b sb, h.1 c sc, ea, eb, ec, r⟩
  · rintro ⟨p1, u1, a, b, c, sa, sb, sc, ea, eb, ec, r⟩
    have u2 : ∀ p, Q p → d3 n p ≤ e := fun p hp => u1 p (h.1 p hp)
    refine ⟨p1, u2, Classical.byContradiction fun hc => r ?_⟩
    have cv : ∀ p, S p → d3 n p = e → ∃ u v, (Q u ∧ d3 n u = e) ∧ (Q v ∧ d3 n v = e) ∧ Btw u p v := fun p hp he => hull_on h u2 hp he
    exact line_all (T := fun x => Q x ∧ d3 n x = e) (fun x y z hx hy hz => Classical.byContradiction fun hr => hc ⟨x, y, z, hx.1, hy.1, hz.1, hx.2, hy.2, hz.2, hr⟩) (cv a sa ea) (cv b sb eb) (cv c sc ec)
theorem Sd2_hull {Q S : V3 → Prop} (h : HQ Q S) (N n : V3) (e : Int) : Sd2 Q N n e ↔ Sd2 S N n e := by
  constructor
  · rintro ⟨p1, p2, u1, a, b, sa, sb, ne, ea, eb⟩
    exact ⟨p1, p2, hull_le h u1, a, b, h.1 a sa, h.1 b sb, ne, ea, eb⟩
  · rintro ⟨p1, p2, u1, a, b, sa, sb, ne, ea, eb⟩
    have u2 : ∀ p, Q p → d3 n p ≤ e := fun p hp => u1 p (h.1 p hp)
    refine ⟨p1, p2, u2, Classical.byContradiction fun hc => ne ?_⟩
    have one : ∀ a b, (Q a ∧ d3 n a = e) → (Q b ∧ d3 n b = e) → a = b := fun a b ha hb => Classical.byContradiction fun hn => hc ⟨a, b, ha.1, hb.1, hn, ha.2, hb.2⟩
    obtain ⟨u, v, hu, hv, h1⟩ := hull_on h u2 sa ea
    obtain ⟨u', v', hu', hv', h2⟩ := hull_on h u2 sb eb
    rw [one v u hv hu] at h1
    rw [one u' u hu' hu, one v' u hv' hu] at h2
    rw [btw_eq h1, btw_eq h2]
theorem Sd1_hull {Q S : V3 → Prop} (h : HQ Q S) (D n : V3) (e : Int) : Sd1 Q D n e ↔ Sd1 S D n e := by
  constructor
  · rintro ⟨p1, u1, a, sa, ea⟩
    exact ⟨p1, hull_le h u1, a, h.1 a sa, ea⟩
  · rintro ⟨p1, u1, a, sa, ea⟩
    have u2 : ∀ p, Q p → d3 n p ≤ e := fun p hp => u1 p (h.1 p hp)
    obtain ⟨u, v, hu, hv, h1⟩ := hull_on h u2 sa ea
    exact ⟨p1, u2, u, hu.1, hu.2⟩
theorem NF_det {S : V3 → Prop} {p q r t : V3} (hp : S p) (hq : S q) (hr : S r) (ht : S t) (h : d3 (cr (sb3 q p) (sb3 r p)) (sb3 t p) ≠ 0) : NF S := by
  intro n e hn hall
  have z : ∀ x, S x → d3 n (sb3 x p) = 0 := fun x hx => by rw [d3_sb, hall x hx, hall p hp]; omega
  by_cases c : cr (sb3 q p) (sb3 r p) = o3
  · rw [c] at h
    exact h (by unfold d3 o3; dsimp only; omega)
  · obtain ⟨k, k0, ek⟩ := par_of hn c (cr_cr (z q hq) (z r hr))
    rw [ek, d3_sm, z t ht] at h
    exact h (by omega)
theorem NF2_row {S : V3 → Prop} {N : V3} (hN : prim N) (hf : ∀ p q, S p → S q → d3 N p = d3 N q) {p q r : V3} (hp : S p) (hq : S q) (hr : S r) (h : ¬ row3 p q r) : NF2 S N := by
  refine ⟨hN, hf, fun n e hn hnN hall => ?_⟩
  have z : ∀ x, S x → d3 n (sb3 x p) = 0 := fun x hx => by rw [d3_sb, hall x hx, hall p hp]; omega
  have y : ∀ x, S x → d3 N (sb3 x p) = 0 := fun x hx => by rw [d3_sb, hf x p hx hp]; omega
  have k1 : cr n N = o3 := par_tr (cr_cr (z q hq) (z r hr)) (cr_sw (cr_cr (y q hq) (y r hr))) h
  rcases par_prim hn hN k1 with c | c
  · rw [c] at hnN
    exact prim_0 hn (sq_z hnN)
  · rw [c, d3_comm, d3_ng] at hnN
    exact prim_0 hn (sq_z (show n.1 * n.1 + n.2.1 * n.2.1 + n.2.2 * n.2.2 = 0 from by unfold d3 at hnN; omega))
theorem FD_hull {Q S : V3 → Prop} (h : HQ Q S) {f : Nat} {N : V3} (hf : FD Q f N) : FD S f N := by
  rcases hf with ⟨f0, h1⟩ | ⟨f1, h1, h2, h3, a, b, ha, hb, ne⟩ | ⟨f2, h1, h2, h3, a, b, c, ha, hb, hc, hr⟩ | ⟨f3, a, b, c, d, ha, hb, hc, hd, hr⟩
  · refine Or.inl ⟨f0, fun p q hp hq => ?_⟩
    obtain ⟨u, v, hu, hv, g1⟩ := h.2 p hp
    obtain ⟨u', v', hu', hv', g2⟩ := h.2 q hq
    rw [h1 v u hv hu] at g1
    rw [h1 u' u hu' hu, h1 v' u hv' hu] at g2
    rw [btw_eq g1, btw_eq g2]
  · refine Or.inr (Or.inl ⟨f1, h1, h2, fun p q hp hq => ?_, a, b, h.1 a ha, h.1 b hb, ne⟩)
    have on : ∀ x, S x → cr (sb3 x a) N = o3 := fun x hx => by
      obtain ⟨u, v, hu, hv, g1⟩ := h.2 x hx
      exact btw_cr (cr_sw (h3 a u ha hu)) (cr_sw (h3 a v ha hv)) g1
    have k1 := v3_iff.mp (on p hp)
    have k2 := v3_iff.mp (on q hq)
    unfold cr sb3 o3 at k1 k2 ⊢
    dsimp only at k1 k2
    exact v3_ext (by dsimp only; grind) (by dsimp only; grind) (by dsimp only; grind)
  · refine Or.inr (Or.inr (Or.inl ⟨f2, h1, h2, fun p q hp hq => ?_, a, b, c, h.1 a ha, h.1 b hb, h.1 c hc, hr⟩))
    have on : ∀ x, S x → d3 N x = d3 N a := fun x hx => by
      obtain ⟨u, v, hu, hv, s, t, g1, g2, g3, e1, e2, e3⟩ := h.2 x hx
      have id := btw_d3 e1 e2 e3 N
      rw [h3 u a hu ha, h3 v a hv ha] at id
      exact mul_eqz g3 (by rw [id]; grind)
    rw [on p hp, on q hq]
  · exact Or.inr (Or.inr (Or.inr ⟨f3, a, b, c, d, h.1 a ha, h.1 b hb, h.1 c hc, h.1 d hd, hr⟩))
theorem lx_pm {u w : V3} (hu : lx o3 u) (hw : lx o3 w) (h : w = u ∨ w = ng3 u) : w = u := by
  rcases h with h | h
  · exact h
  · rw [h, lx_ng] at hw
    exact (lx_asym hu hw).elim
theorem row_col {N a b c : V3} (hN : N ≠ o3) (h1 : cr N (sb3 b a) = o3) (h2 : cr N (sb3 c a) = o3) : row3 a b c := par_tr (cr_sw h1) h2 hN
theorem FD_uni {S : V3 → Prop} {f f' : Nat} {N N' : V3} (h : FD S f N) (h' : FD S f' N') : f = f' ∧ (f = 1 ∨ f = 2 → N = N') := by
  have d0 : ∀ {p q r t : V3}, d3 (cr (sb3 q p) (sb3 r p)) (sb3 t p) ≠ 0 → ¬ row3 p q r := fun hd hr => hd (by unfold row3 at hr; rw [hr]; unfold d3 o3; dsimp only; omega)
  rcases h with ⟨rfl, h1⟩ | ⟨rfl, h1, h2, h3, a, b, ha, hb, ne⟩ | ⟨rfl, h1, h2, h3, a, b, c, ha, hb, hc, hr⟩ | ⟨rfl, a, b, c, d, ha, hb, hc, hd, hr⟩ <;> rcases h' with ⟨rfl, h1'⟩ | ⟨rfl, h1', h2', h3', a', b', ha', hb', ne'⟩ | ⟨rfl, h1', h2', h3', a', b', c', ha', hb', hc', hr'⟩ | ⟨rfl, a', b', c', d', ha', hb', hc', hd', hr'⟩
  · exact ⟨rfl, fun h => by omega⟩
  · exact (ne' (h1 _ _ ha' hb')).elim
  · exact ((row_ne hr').1 (h1 _ _ ha' hb')).elim
  · exact ((row_ne (d0 hr')).1 (h1 _ _ ha' hb')).elim
  · exact (ne (h1' _ _ ha hb)).elim
  · refine ⟨rfl, fun _ => (lx_pm h2 h2' (par_prim h1 h1' ?_)).symm⟩
    exact par_tr (h3 a b ha hb) (cr_sw (h3' a b ha hb)) (fun h => ne (sb3_0.mp h).symm)
  · exact (hr' (row_col (prim_0 h1) (h3 _ _ ha' hb') (h3 _ _ ha' hc'))).elim
  · exact (d0 hr' (row_col (prim_0 h1) (h3 _ _ ha' hb') (h3 _ _ ha' hc'))).elim
  · exact ((row_ne hr).1 (h1' _ _ ha hb)).elim
  · exact (hr (row_col (prim_0 h1') (h3' _ _ ha hb) (h3' _ _ ha hc))).elim
  · refine ⟨rfl, fun _ => (lx_pm h2 h2' (par_prim h1 h1' ?_)).symm⟩
    have y : ∀ x, S x → d3 N (sb3 x a) = 0 := fun x hx => by rw [d3_sb, h3 x a hx ha]; omega
    have y' : ∀ x, S x → d3 N' (sb3 x a) = 0 := fun x hx => by rw [d3_sb, h3' x a hx ha]; omega
    exact par_tr (cr_cr (y b hb) (y c hc)) (cr_sw (cr_cr (y' b hb) (y' c hc))) hr
  · exact (NF_det ha' hb' hc' hd' hr' N (d3 N a) h1 (fun p hp => h3 p a hp ha)).elim
  · exact ((row_ne (d0 hr)).1 (h1' _ _ ha hb)).elim
  · exact (d0 hr (row_col (prim_0 h1') (h3' _ _ ha hb) (h3' _ _ ha hc))).elim
  · exact (NF_det ha hb hc hd hr N' (d3 N' a) h1' (fun p hp => h3' p a hp ha)).elim
  · exact ⟨rfl, fun h => by omega⟩
def Sd (S : V3 → Prop) (f : Nat) (N n : V3) (e : Int) : Prop := (f = 1 ∧ Sd1 S N n e) ∨ (f = 2 ∧ Sd2 S N n e) ∨ (f = 3 ∧ Sd3 S n e)
theorem Sd_hull {Q S : V3 → Prop} (h : HQ Q S) (f : Nat) (N n : V3) (e : Int) : Sd Q f N n e ↔ Sd S f N n e := by
  unfold Sd
  rw [Sd1_hull h, Sd2_hull h, Sd3_hull h]
theorem Sd_sup {S : V3 → Prop} {f : Nat} {N n : V3} {e : Int} (h : Sd S f N n e) : (∀ p, S p → d3 n p ≤ e) ∧ ∃ p, S p ∧ d3 n p = e := by
  rcases h with ⟨_, _, h1, p, hp, h2⟩ | ⟨_, _, _, h1, p, q, hp, hq, _, h2, _⟩ | ⟨_, _, h1, p, q, r, hp, hq, hr, h2, _⟩
  · exact ⟨h1, p, hp, h2⟩
  · exact ⟨h1, p, hp, h2⟩
  · exact ⟨h1, p, hp, h2⟩
theorem Sd_e {S : V3 → Prop} {f : Nat} {N n : V3} {e e' : Int} (h : Sd S f N n e) (h' : Sd S f N n e') : e = e' := by
  obtain ⟨a, p, hp, ep⟩ := Sd_sup h
  obtain ⟨a', p', hp', ep'⟩ := Sd_sup h'
  have := a p' hp'
  have := a' p hp
  omega
/-- as many sides as are filled hold p -/
def Cn (S : V3 → Prop) (f : Nat) (N : V3) (p : V3) : Prop := S p ∧ (f = 0 ∨ (f = 1 ∧ ∃ n e, Sd S f N n e ∧ d3 n p = e) ∨ (f = 2 ∧ ∃ n e n' e', n ≠ n' ∧ Sd S f N n e ∧ Sd S f N n' e' ∧ d3 n p = e ∧ d3 n' p = e') ∨ (f = 3 ∧ ∃ n e n' e' n'' e'', n ≠ n' ∧ n ≠ n'' ∧ n' ≠ n'' ∧ Sd S f N n e ∧ Sd S f N n' e' ∧ Sd S f N n'' e'' ∧ d3 n p = e ∧ d3 n' p = e' ∧ d3 n'' p = e''))
theorem btw_mid {u p v : V3} (h : Btw u p v) : p = u ∨ p = v ∨ (u ≠ v ∧ ∀ n e, d3 n u ≤ e → d3 n v ≤ e → d3 n p = e → d3 n (sb3 v u) = 0) := by
  by_cases c1 : p = u
  · exact Or.inl c1
  · by_cases c2 : p = v
    · exact Or.inr (Or.inl c2)
    · refine Or.inr (Or.inr ⟨fun h2 => c1 (by rw [← h2] at h; exact btw_eq h), fun n e h1 h2 h3 => ?_⟩)
      obtain ⟨s, t, g1, g2, g3, e1, e2, e3⟩ := h
      rcases Int.lt_or_eq_of_le g1 with k1 | k1
      · rcases Int.lt_or_eq_of_le g2 with k2 | k2
        · have id := btw_d3 e1 e2 e3 n
          rw [h3] at id
          have a := Int.mul_le_mul_of_nonneg_left h1 g1
          have b := Int.mul_le_mul_of_nonneg_left h2 g2
          have k : (s + t) * e = s * e + t * e := by grind
          have x : d3 n u = e := mul_eqz k1 (by omega)
          have y : d3 n v = e := mul_eqz k2 (by omega)
          rw [d3_sb]; omega
        · subst k2
          exact (c1 (v3_ext (mul_eqz k1 (by simp at e1; exact e1)) (mul_eqz k1 (by simp at e2; exact e2)) (mul_eqz k1 (by simp at e3; exact e3)))).elim
      · subst k1
        have k2 : 0 < t := by omega
        exact (c2 (v3_ext (mul_eqz k2 (by simp at e1; exact e1)) (mul_eqz k2 (by simp at e2; exact e2)) (mul_eqz k2 (by simp at e3; exact e3)))).elim
theorem det_0 {a b c w : V3} (h1 : d3 a w = 0) (h2 : d3 b w = 0) (h3 : d3 c w = 0) (hd : d3 (cr a b) c ≠ 0) : w = o3 := by
  have key : ∀ y : Int, d3 (cr a b) c * y = 0 → y = 0 := fun y hy => (Int.mul_eq_zero.mp hy).resolve_left hd
  unfold d3 cr at key
  unfold d3 at h1 h2 h3
  dsimp only at key
  exact v3_ext (key _ (by grind)) (key _ (by grind)) (key _ (by grind))
theorem Cn_hull {Q S : V3 → Prop} (h : HQ Q S) {f : Nat} {N : V3} (hf : FD Q f N) (p : V3) : Cn Q f N p ↔ Cn S f N p := by
  unfold Cn
  have e1 : ∀ n e, Sd Q f N n e ↔ Sd S f N n e := Sd_hull h f N
  simp only [e1]
  refine ⟨fun ⟨a, b⟩ => ⟨h.1 p a, b⟩, fun ⟨a, b⟩ => ⟨?_, b⟩⟩
  obtain ⟨u, v, hu, hv, hb⟩ := h.2 p a
  rcases btw_mid hb with c | c | ⟨ne, hz⟩
  · rw [c]; exact hu
  · rw [c]; exact hv
  · exfalso
    have z : ∀ {n e}, Sd S f N n e → d3 n p = e → d3 n (sb3 v u) = 0 := fun hs hp => hz _ _ ((Sd_sup hs).1 u (h.1 u hu)) ((Sd_sup hs).1 v (h.1 v hv)) hp
    have wne : sb3 v u ≠ o3 := fun h => ne (sb3_0.mp h).symm
    have hS := FD_hull h hf
    rcases b with b | ⟨b, n, e, s1, o1⟩ | ⟨b, n, e, n', e', n1, s1, s2, o1, o2⟩ | ⟨b, n, e, n', e', n'', e'', n1, n2, n3, s1, s2, s3, o1, o2, o3'⟩
    · subst b
      rcases hf with ⟨_, g⟩ | ⟨g, _⟩ | ⟨g, _⟩ | ⟨g, _⟩
      · exact ne (g u v hu hv)
      · omega
      · omega
      · omega
    · subst b
      rcases hf with ⟨g, _⟩ | ⟨_, g1, g2, g3, _⟩ | ⟨g, _⟩ | ⟨g, _⟩
      · omega
      · have z1 := z s1 o1
        obtain ⟨k, k0, ek⟩ := par_of g1 wne (g3 u v hu hv)
        rcases s1 with ⟨_, c, _⟩ | ⟨c, _⟩ | ⟨c, _⟩
        · have z2 : d3 N (sm3 k N) = 0 := by
            rw [← ek]
            rcases c with c | c
            · rw [← c]; exact z1
            · rw [c, d3_ng] at z1; omega
          rw [d3_comm, d3_sm] at z2
          exact prim_0 g1 (sq_z ((Int.mul_eq_zero.mp z2).resolve_left k0))
        · omega
        · omega
      · omega
      · omega
    · subst b
      rcases hS with ⟨g, _⟩ | ⟨g, _⟩ | ⟨_, g1, g2, g3, x, y, w, hx, hy, hw, hr⟩ | ⟨g, _⟩
      · omega
      · omega
      · have nf := NF2_row g1 g3 hx hy hw hr
        have z1 := z s1 o1
        have z2 := z s2 o2
        rcases s1 with ⟨c, _⟩ | ⟨_, q1, q2, q3, _⟩ | ⟨c, _⟩
        · omega
        · rcases s2 with ⟨c, _⟩ | ⟨_, q1', q2', q3', _⟩ | ⟨c, _⟩
          · omega
          · have xne : cr (sb3 v u) N ≠ o3 := cr_ne (by rw [d3_sb, g3 v u (h.1 v hv) (h.1 u hu)]; omega) wne (prim_0 g1)
            exact n1 (sd_par2 nf q1 q2 q1' q3 q3' o1 o2 (par_tr (cr_cr z1 q2) (cr_sw (cr_cr z2 q2')) xne)).symm
          · omega
        · omega
      · omega
    · subst b
      rcases hS with ⟨g, _⟩ | ⟨g, _⟩ | ⟨g, _⟩ | ⟨_, x, y, w, t, hx, hy, hw, ht, hr⟩
      · omega
      · omega
      · omega
      · have nf := NF_det hx hy hw ht hr
        have z1 := z s1 o1
        have z2 := z s2 o2
        have z3 := z s3 o3'
        rcases s1 with ⟨c, _⟩ | ⟨c, _⟩ | ⟨_, q1⟩
        · omega
        · omega
        · rcases s2 with ⟨c, _⟩ | ⟨c, _⟩ | ⟨_, q2⟩
          · omega
          · omega
          · rcases s3 with ⟨c, _⟩ | ⟨c, _⟩ | ⟨_, q3⟩
            · omega
            · omega
            · exact wne (det_0 z1 z2 z3 (three_ind nf q1 q2 q3 o1 o2 o3' n1 n2 n3))
