theorem pw_add (T : Int) (c c' : Nat → Int) : ∀ m, pw T (fun j => c j + c' j) m = pw T c m + pw T c' m := by
  intro m
  induction m with
  | zero => rfl
  | succ m ih => rw [pw, pw, pw, ih]; grind
theorem pw_ind (T : Int) (a : Nat) (x : Int) : ∀ m, pw T (fun j => if j = a then x else 0) m = if a < m then x * T ^ a else 0 := by
  intro m
  induction m with
  | zero => rfl
  | succ m ih =>
    rw [pw, ih]
    by_cases h : a < m
    · rw [if_pos h, if_pos (show a < m + 1 by omega), if_neg (show ¬ m = a by omega)]
      simp
    · rw [if_neg h]
      by_cases e : m = a
      · subst e
        rw [if_pos rfl, if_pos (show m < m + 1 by omega)]
        simp
      · rw [if_neg e, if_neg (show ¬ a < m + 1 by omega)]
        simp
theorem pw_congr (T : Int) {c c' : Nat → Int} : ∀ m, (∀ j, j < m → c j = c' j) → pw T c m = pw T c' m := by
  intro m
  induction m with
  | zero => intro _; rfl
  | succ m ih => intro h; rw [pw, pw, ih (fun j hj => h j (by omega)), h m (by omega)]
/-- the weights: none on the frame we begin with, powers elsewhere -/
def wts (T : Int) (B : Nat → Nat) : Nat → Int := fun j => if j = B 0 ∨ j = B 1 ∨ j = B 2 ∨ j = B 3 then 0 else T ^ j
/-- a number at an index, as a row; none on B -/
def rowB (B : Nat → Nat) (a : Nat) (x : Int) : Nat → Int := fun j => if j = a then (if a = B 0 ∨ a = B 1 ∨ a = B 2 ∨ a = B 3 then 0 else x) else 0
theorem rowB_pw (T : Int) (B : Nat → Nat) (a : Nat) (x : Int) (m : Nat) (h : a < m) : pw T (rowB B a x) m = x * wts T B a := by
  unfold rowB wts
  rw [pw_ind, if_pos h]
  by_cases e : a = B 0 ∨ a = B 1 ∨ a = B 2 ∨ a = B 3
  · rw [if_pos e, if_pos e]; simp
  · rw [if_neg e, if_neg e]
def rowF (B ix : Nat → Nat) (f : Nat → V4) (d : Int) (k : Nat) (y : V4) : Nat → Int := fun j => rowB B (ix 0) (dt (f 0) y) j + (rowB B (ix 1) (dt (f 1) y) j + (rowB B (ix 2) (dt (f 2) y) j + (rowB B (ix 3) (dt (f 3) y) j + rowB B k (-d) j)))
theorem rowF_pw (T : Int) (B ix : Nat → Nat) (f : Nat → V4) (d : Int) (k : Nat) (y : V4) (m : Nat) (hi : ∀ i, i < 4 → ix i < m) (hk : k < m) : pw T (rowF B ix f d k y) m = dt (gf f (wts T B) ix) y - d * wts T B k := by
  unfold rowF
  rw [pw_add, pw_add, pw_add, pw_add, rowB_pw T B _ _ m (hi 0 (by omega)), rowB_pw T B _ _ m (hi 1 (by omega)), rowB_pw T B _ _ m (hi 2 (by omega)), rowB_pw T B _ _ m (hi 3 (by omega)), rowB_pw T B _ _ m hk, gf, t4_dt, s4_eq]
  grind
theorem Fr_inj {b f : Nat → V4} {d : Int} (h : Fr b f d) {i j : Nat} (hi : i < 4) (hj : j < 4) (e : b i = b j) : i = j := by
  refine Classical.byContradiction fun hn => ?_
  have h1 := h.2.1 i i hi hi
  have h2 := h.2.1 i j hi hj
  rw [if_pos rfl] at h1
  rw [if_neg hn, ← e] at h2
  have := h.1
  omega
theorem rowF_ne {v : Nat → V4} {B ix : Nat → Nat} {f f0 : Nat → V4} {d d0 : Int} (h : Fr (fun i => v (ix i)) f d) (h0 : Fr (fun i => v (B i)) f0 d0) (k m : Nat) (hm : ∀ i, i < 4 → ix i < m) (hkm : k < m) (hk : ∀ i, i < 4 → ix i ≠ k) : ∃ j, j < m ∧ rowF B ix f d k (v k) j ≠ 0 := by
  have inj : ∀ i j, i < 4 → j < 4 → ix i = ix j → i = j := fun i j hi hj e => Fr_inj h hi hj (by show v (ix i) = v (ix j); rw [e])
  have i01 : ¬ ix 0 = ix 1 := fun e => absurd (inj 0 1 (by omega) (by omega) e) (by decide)
  have i02 : ¬ ix 0 = ix 2 := fun e => absurd (inj 0 2 (by omega) (by omega) e) (by decide)
  have i03 : ¬ ix 0 = ix 3 := fun e => absurd (inj 0 3 (by omega) (by omega) e) (by decide)
  have i12 : ¬ ix 1 = ix 2 := fun e => absurd (inj 1 2 (by omega) (by omega) e) (by decide)
  have i13 : ¬ ix 1 = ix 3 := fun e => absurd (inj 1 3 (by omega) (by omega) e) (by decide)
  have i23 : ¬ ix 2 = ix 3 := fun e => absurd (inj 2 3 (by omega) (by omega) e) (by decide)
  have k0 := hk 0 (by omega)
  have k1 := hk 1 (by omega)
  have k2 := hk 2 (by omega)
  have k3 := hk 3 (by omega)
  have hd := h.1
  have hd0 := h0.1
  by_cases hB : k = B 0 ∨ k = B 1 ∨ k = B 2 ∨ k = B 3
  · refine Classical.byContradiction fun hno => ?_
    have hz : ∀ i, i < 4 → ¬ (ix i = B 0 ∨ ix i = B 1 ∨ ix i = B 2 ∨ ix i = B 3) → dt (f i) (v k) = 0 := by
      intro i hi hn
      refine Classical.byContradiction fun hne => hno ⟨ix i, hm i hi, ?_⟩
      unfold rowF rowB
      rcases four hi with rfl | rfl | rfl | rfl
      · rw [if_pos rfl, if_neg hn, if_neg i01, if_neg i02, if_neg i03, if_neg k0]
        omega
      · rw [if_neg (fun e => i01 e.symm), if_pos rfl, if_neg hn, if_neg i12, if_neg i13, if_neg k1]
        omega
      · rw [if_neg (fun e => i02 e.symm), if_neg (fun e => i12 e.symm), if_pos rfl, if_neg hn, if_neg i23, if_neg k2]
        omega
      · rw [if_neg (fun e => i03 e.symm), if_neg (fun e => i13 e.symm), if_neg (fun e => i23 e.symm), if_pos rfl, if_neg hn, if_neg k3]
        omega
    obtain ⟨p, hp, hpk⟩ : ∃ p, p < 4 ∧ k = B p := by
      rcases hB with h | h | h | h
      · exact ⟨0, by omega, h⟩
      · exact ⟨1, by omega, h⟩
      · exact ⟨2, by omega, h⟩
      · exact ⟨3, by omega, h⟩
    have hterm : ∀ i, i < 4 → dt (f i) (v k) * dt (f0 p) (v (ix i)) = 0 := by
      intro i hi
      by_cases hin : ix i = B 0 ∨ ix i = B 1 ∨ ix i = B 2 ∨ ix i = B 3
      · obtain ⟨q, hq, hqe⟩ : ∃ q, q < 4 ∧ ix i = B q := by
          rcases hin with h | h | h | h
          · exact ⟨0, by omega, h⟩
          · exact ⟨1, by omega, h⟩
          · exact ⟨2, by omega, h⟩
          · exact ⟨3, by omega, h⟩
        have hpq : p ≠ q := fun e => hk i hi (by rw [hqe, hpk, e])
        have := h0.2.1 p q hp hq
        rw [if_neg hpq] at this
        rw [hqe, this]
        simp
      · rw [hz i hi hin]
        simp
    have hs := Fr_dt h (f0 p) (v k)
    rw [s4_eq] at hs
    have t0 := hterm 0 (by omega)
    have t1 := hterm 1 (by omega)
    have t2 := hterm 2 (by omega)
    have t3 := hterm 3 (by omega)
    have hpp := h0.2.1 p p hp hp
    rw [if_pos rfl] at hpp
    have hs2 : d * dt (f0 p) (v k) = dt (f 0) (v k) * dt (f0 p) (v (ix 0)) + dt (f 1) (v k) * dt (f0 p) (v (ix 1)) + dt (f 2) (v k) * dt (f0 p) (v (ix 2)) + dt (f 3) (v k) * dt (f0 p) (v (ix 3)) := hs
    rw [t0, t1, t2, t3, hpk, hpp] at hs2
    have := Int.mul_pos hd hd0
    omega
  · refine ⟨k, hkm, ?_⟩
    unfold rowF rowB
    rw [if_neg (fun e => k0 e.symm), if_neg (fun e => k1 e.symm), if_neg (fun e => k2 e.symm), if_neg (fun e => k3 e.symm), if_pos rfl, if_neg hB]
    omega
