/-! vectors of four whole numbers, forms, frames -/
abbrev V4 : Type := Int × Int × Int × Int
def dt (f x : V4) : Int := f.1 * x.1 + f.2.1 * x.2.1 + f.2.2.1 * x.2.2.1 + f.2.2.2 * x.2.2.2
def ad (x y : V4) : V4 := (x.1 + y.1, x.2.1 + y.2.1, x.2.2.1 + y.2.2.1, x.2.2.2 + y.2.2.2)
def sm (k : Int) (x : V4) : V4 := (k * x.1, k * x.2.1, k * x.2.2.1, k * x.2.2.2)
theorem dt_ad (f x y : V4) : dt f (ad x y) = dt f x + dt f y := by unfold dt ad; grind
theorem dt_sm (f : V4) (k : Int) (x : V4) : dt f (sm k x) = k * dt f x := by unfold dt sm; grind
theorem ad_dt (f g x : V4) : dt (ad f g) x = dt f x + dt g x := by unfold dt ad; grind
theorem sm_dt (k : Int) (f x : V4) : dt (sm k f) x = k * dt f x := by unfold dt sm; grind
theorem v4_ext {x y : V4} (h1 : x.1 = y.1) (h2 : x.2.1 = y.2.1) (h3 : x.2.2.1 = y.2.2.1) (h4 : x.2.2.2 = y.2.2.2) : x = y := by
  obtain ⟨a, b, c, d⟩ := x
  obtain ⟨a', b', c', d'⟩ := y
  simp_all
/-- the sum of four -/
def s4 (f : Nat → Int) : Int := f 0 + f 1 + f 2 + f 3
def t4 (k : Nat → Int) (b : Nat → V4) : V4 := ad (ad (sm (k 0) (b 0)) (sm (k 1) (b 1))) (ad (sm (k 2) (b 2)) (sm (k 3) (b 3)))
theorem dt_t4 (f : V4) (k : Nat → Int) (b : Nat → V4) : dt f (t4 k b) = s4 (fun i => k i * dt f (b i)) := by
  unfold t4 s4
  rw [dt_ad, dt_ad, dt_ad, dt_sm, dt_sm, dt_sm, dt_sm]
  grind
/-- a frame: four vectors, the forms that read their shares, a common divisor -/
def Fr (b f : Nat → V4) (d : Int) : Prop := 0 < d ∧ (∀ i j, i < 4 → j < 4 → dt (f i) (b j) = if i = j then d else 0) ∧ ∀ x : V4, sm d x = t4 (fun i => dt (f i) x) b
def det3 (a b c d e f g h i : Int) : Int := a * (e * i - f * h) - b * (d * i - f * g) + c * (d * h - e * g)
/-- the form that is square to three vectors -/
def sq3 (x y z : V4) : V4 := (det3 x.2.1 x.2.2.1 x.2.2.2 y.2.1 y.2.2.1 y.2.2.2 z.2.1 z.2.2.1 z.2.2.2, - det3 x.1 x.2.2.1 x.2.2.2 y.1 y.2.2.1 y.2.2.2 z.1 z.2.2.1 z.2.2.2, det3 x.1 x.2.1 x.2.2.2 y.1 y.2.1 y.2.2.2 z.1 z.2.1 z.2.2.2, - det3 x.1 x.2.1 x.2.2.1 y.1 y.2.1 y.2.2.1 z.1 z.2.1 z.2.2.1)
theorem sq3_1 (x y z : V4) : dt (sq3 x y z) x = 0 := by unfold dt sq3 det3; grind
theorem sq3_2 (x y z : V4) : dt (sq3 x y z) y = 0 := by unfold dt sq3 det3; grind
theorem sq3_3 (x y z : V4) : dt (sq3 x y z) z = 0 := by unfold dt sq3 det3; grind
