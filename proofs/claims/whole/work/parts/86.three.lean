/-! three sides through a point; how many sides there are -/
theorem core3 {D A B n12 n13 n21 n23 n31 n32 : Int} (hD : D ≠ 0) (e1 : D * n13 = B * n12) (e2 : D * n23 = A * n21) (e3 : 0 = A * n31 + B * n32) (l12 : n12 < 0) (l13 : n13 < 0) (l21 : n21 < 0) (l23 : n23 < 0) (l31 : n31 < 0) (l32 : n32 < 0) : False := by
  have key : ∀ x y u v : Int, u < 0 → v < 0 → x * u = y * v → (0 < x → 0 < y) ∧ (x < 0 → y < 0) := by
    intro x y u v hu hv h
    constructor
    · intro hx
      refine Classical.byContradiction fun hn => ?_
      have h1 := Int.mul_neg_of_pos_of_neg hx hu
      have h2 := Int.mul_nonneg_of_nonpos_of_nonpos (show y ≤ 0 by omega) (Int.le_of_lt hv)
      omega
    · intro hx
      refine Classical.byContradiction fun hn => ?_
      have h1 := Int.mul_pos_of_neg_of_neg hx hu
      have h2 := Int.mul_nonneg (show 0 ≤ y by omega) (show 0 ≤ -v by omega)
      rw [Int.mul_neg] at h2
      omega
  obtain ⟨b1, b2⟩ := key D B n13 n12 l13 l12 e1
  obtain ⟨a1, a2⟩ := key D A n23 n21 l23 l21 e2
  rcases Int.lt_or_lt_of_ne hD with c | c
  · have h1 := Int.mul_pos_of_neg_of_neg (a2 c) l31
    have h2 := Int.mul_pos_of_neg_of_neg (b2 c) l32
    omega
  · have h1 := Int.mul_neg_of_pos_of_neg (a1 c) l31
    have h2 := Int.mul_neg_of_pos_of_neg (b1 c) l32
    omega
theorem four_id (a b c w n : V3) : d3 (cr a b) w * d3 n c = d3 (cr c b) w * d3 n a + d3 (cr a c) w * d3 n b + d3 (cr a b) c * d3 n w := by
  unfold d3 cr
  grind
theorem cauchy (a b n m : V3) : d3 (cr a b) (cr n m) = d3 n a * d3 m b - d3 m a * d3 n b := by
  unfold d3 cr
  grind
theorem d3_comm (a b : V3) : d3 a b = d3 b a := by unfold d3; grind
theorem row_line {p x y z w : V3} (hw : w ≠ o3) (h1 : cr (sb3 x p) w = o3) (h2 : cr (sb3 y p) w = o3) (h3 : cr (sb3 z p) w = o3) : row3 x y z := by
  have k1 : cr (sb3 y x) w = o3 := by
    have h1 := v3_iff.mp h1
    have h2 := v3_iff.mp h2
    unfold cr sb3 o3 at h1 h2 ⊢
    dsimp only at h1 h2
    exact v3_ext (by dsimp only; grind) (by dsimp only; grind) (by dsimp only; grind)
  have k2 : cr w (sb3 z x) = o3 := by
    have h1 := v3_iff.mp h1
    have h3 := v3_iff.mp h3
    unfold cr sb3 o3 at h1 h3 ⊢
    dsimp only at h1 h3
    exact v3_ext (by dsimp only; grind) (by dsimp only; grind) (by dsimp only; grind)
  exact par_tr k1 k2 hw
/-- S fills 3: no plane holds all of it -/
def NF (S : V3 → Prop) : Prop := ∀ n e, prim n → (∀ p, S p → d3 n p = e) → False
theorem sd_par {S : V3 → Prop} (hS : NF S) {n m : V3} {e e' : Int} {p : V3} (hn : prim n) (hm : prim m) (h1 : ∀ x, S x → d3 n x ≤ e) (h2 : ∀ x, S x → d3 m x ≤ e') (g1 : d3 n p = e) (g2 : d3 m p = e') (h : cr n m = o3) : m = n := by
  rcases par_prim hn hm h with c | c
  · exact c
  · exfalso
    refine hS n e hn (fun x hx => ?_)
    have a := h1 x hx
    have b := h2 x hx
    rw [c, d3_ng] at b g2
    omega
theorem three_ind {S : V3 → Prop} (hS : NF S) {n1 n2 n3 : V3} {e1 e2 e3 : Int} {p : V3} (s1 : Sd3 S n1 e1) (s2 : Sd3 S n2 e2) (s3 : Sd3 S n3 e3) (t1 : d3 n1 p = e1) (t2 : d3 n2 p = e2) (t3 : d3 n3 p = e3) (h12 : n1 ≠ n2) (h13 : n1 ≠ n3) (h23 : n2 ≠ n3) : d3 (cr n1 n2) n3 ≠ 0 := by
  intro hdet
  obtain ⟨p1, u1, a1, b1, c1, sa1, sb1, sc1, ea1, eb1, ec1, r1⟩ := s1
  obtain ⟨p2, u2, a2, b2, c2, sa2, sb2, sc2, ea2, eb2, ec2, r2⟩ := s2
  obtain ⟨p3, u3, a3, b3, c3, sa3, sb3', sc3, ea3, eb3, ec3, r3⟩ := s3
  have wne : cr n1 n2 ≠ o3 := fun h => h12 (sd_par hS p1 p2 u1 u2 t1 t2 h).symm
  have x12 : cr n1 n2 ≠ o3 := wne
  have x13 : cr n1 n3 ≠ o3 := fun h => h13 (sd_par hS p1 p3 u1 u3 t1 t3 h).symm
  have x23 : cr n2 n3 ≠ o3 := fun h => h23 (sd_par hS p2 p3 u2 u3 t2 t3 h).symm
  have pick : ∀ {n a b c : V3} {e : Int}, S a → S b → S c → d3 n a = e → d3 n b = e → d3 n c = e → d3 n p = e → ¬ row3 a b c → ∃ x, S x ∧ d3 n (sb3 x p) = 0 ∧ cr (sb3 x p) (cr n1 n2) ≠ o3 := by
    intro n a b c e ha hb hc q1 q2 q3 q4 hr
    refine Classical.byContradiction fun hn => hr ?_
    have z : ∀ x, S x → d3 n x = e → cr (sb3 x p) (cr n1 n2) = o3 := fun x hx hx2 => Classical.byContradiction fun hc => hn ⟨x, hx, by rw [d3_sb]; omega, hc⟩
    exact row_line wne (z a ha q1) (z b hb q2) (z c hc q3)
  obtain ⟨y1, sy1, o1, w1⟩ := pick sa1 sb1 sc1 ea1 eb1 ec1 t1 r1
  obtain ⟨y2, sy2, o2, w2⟩ := pick sa2 sb2 sc2 ea2 eb2 ec2 t2 r2
  obtain ⟨y3, sy3, o3', w3⟩ := pick sa3 sb3' sc3 ea3 eb3 ec3 t3 r3
  have nw1 : d3 (cr n1 n2) n1 = 0 := d3_cr1 _ _
  have nw2 : d3 (cr n1 n2) n2 = 0 := d3_cr2 _ _
  have strict : ∀ {n m y : V3} {e : Int}, S y → d3 n (sb3 y p) = 0 → cr (sb3 y p) (cr n1 n2) ≠ o3 → (∀ x, S x → d3 m x ≤ e) → d3 m p = e → cr n m ≠ o3 → d3 (cr n1 n2) n = 0 → d3 (cr n1 n2) m = 0 → d3 m (sb3 y p) < 0 := by
    intro n m y e hy q1 q2 q3 q4 q5 q6 q7
    have le : d3 m (sb3 y p) ≤ 0 := by rw [d3_sb]; have := q3 y hy; omega
    refine Classical.byContradiction fun hn => q2 ?_
    have z : d3 m (sb3 y p) = 0 := by omega
    have k1 : cr (sb3 y p) (cr n m) = o3 := cr_cr (by rw [d3_comm]; exact q1) (by rw [d3_comm]; exact z)
    have k2 : cr (cr n1 n2) (cr n m) = o3 := cr_cr q6 q7
    have k3 : cr (cr n m) (cr n1 n2) = o3 := by
      have h := v3_iff.mp k2
      generalize cr n m = g at *
      generalize cr n1 n2 = g' at *
      unfold cr o3 at h ⊢
      dsimp only at h
      exact v3_ext (by dsimp only; grind) (by dsimp only; grind) (by dsimp only; grind)
    exact par_tr k1 k3 q5
  have sy : ∀ {n m : V3}, cr n m ≠ o3 → cr m n ≠ o3 := fun h h2 => h (by
    have h := v3_iff.mp h2
    unfold cr o3 at h ⊢
    dsimp only at h
    exact v3_ext (by dsimp only; grind) (by dsimp only; grind) (by dsimp only; grind))
  have l12 := strict sy2 o2 w2 u1 t1 (sy x12) nw2 nw1
  have l13 := strict sy3 o3' w3 u1 t1 (sy x13) hdet nw1
  have l21 := strict sy1 o1 w1 u2 t2 x12 nw1 nw2
  have l23 := strict sy3 o3' w3 u2 t2 (sy x23) hdet nw2
  have l31 := strict sy1 o1 w1 u3 t3 x13 nw1 hdet
  have l32 := strict sy2 o2 w2 u3 t3 x23 nw2 hdet
  have f1 := four_id (sb3 y1 p) (sb3 y2 p) (sb3 y3 p) (cr n1 n2) n1
  have f2 := four_id (sb3 y1 p) (sb3 y2 p) (sb3 y3 p) (cr n1 n2) n2
  have f3 := four_id (sb3 y1 p) (sb3 y2 p) (sb3 y3 p) (cr n1 n2) n3
  have cc := cauchy (sb3 y1 p) (sb3 y2 p) n1 n2
  rw [o1, d3_comm n1 (cr n1 n2), nw1] at f1
  rw [o2, d3_comm n2 (cr n1 n2), nw2] at f2
  rw [o3', d3_comm n3 (cr n1 n2), hdet] at f3
  rw [o1, o2] at cc
  refine core3 (D := d3 (cr (sb3 y1 p) (sb3 y2 p)) (cr n1 n2)) (A := d3 (cr (sb3 y3 p) (sb3 y2 p)) (cr n1 n2)) (B := d3 (cr (sb3 y1 p) (sb3 y3 p)) (cr n1 n2)) ?_ (n12 := d3 n1 (sb3 y2 p)) (n13 := d3 n1 (sb3 y3 p)) (n21 := d3 n2 (sb3 y1 p)) (n23 := d3 n2 (sb3 y3 p)) (n31 := d3 n3 (sb3 y1 p)) (n32 := d3 n3 (sb3 y2 p)) ?_ ?_ ?_ l12 l13 l21 l23 l31 l32
  · have := Int.mul_pos_of_neg_of_neg l21 l12
    omega
  · omega
  · omega
  · omega
