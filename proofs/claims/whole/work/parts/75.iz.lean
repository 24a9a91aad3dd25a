/-! whole numbers as ints of 32 bits; points; sequences -/
def iz (a : Int) : Int32 := Int32.ofInt a
theorem iz_add (a b : Int) : iz a + iz b = iz (a + b) := (Int32.ofInt_add a b).symm
theorem iz_sub (a b : Int) : iz a - iz b = iz (a - b) := (Int32.ofInt_sub a b).symm
theorem iz_mul (a b : Int) : iz a * iz b = iz (a * b) := (Int32.ofInt_mul a b).symm
theorem iz_neg (a : Int) : - iz a = iz (-a) := Int32.neg_ofInt
theorem iz_i {a : Int} (h : -2147483648 ≤ a) (h2 : a < 2147483648) : (iz a).toInt = a := Int32.toInt_ofInt_of_le (by omega) (by omega)
theorem iz_cl {a : Int} (h : -2147483648 ≤ a) (h2 : a < 2147483648) : (iz a).toNatClampNeg = a.toNat := by rw [cl_i, iz_i h h2]
theorem iz_cn {k : Nat} (h2 : k < 2147483648) : (iz (k : Int)).toNatClampNeg = k := by rw [iz_cl (by omega) (by omega)]; omega
theorem iz_le {a b : Int} (h : -2147483648 ≤ a) (h2 : a < 2147483648) (h3 : -2147483648 ≤ b) (h4 : b < 2147483648) : iz a ≤ iz b ↔ a ≤ b := by rw [le_i, iz_i h h2, iz_i h3 h4]
theorem iz_lt {a b : Int} (h : -2147483648 ≤ a) (h2 : a < 2147483648) (h3 : -2147483648 ≤ b) (h4 : b < 2147483648) : iz a < iz b ↔ a < b := by rw [lt_i, iz_i h h2, iz_i h3 h4]
theorem iz_eq {a b : Int} (h : -2147483648 ≤ a) (h2 : a < 2147483648) (h3 : -2147483648 ≤ b) (h4 : b < 2147483648) : iz a = iz b ↔ a = b := by rw [← Int32.toInt_inj, iz_i h h2, iz_i h3 h4]
theorem iz_t (x : Int32) : iz x.toInt = x := Int32.ofInt_toInt x
theorem iz_nI (n : Nat) : nI n = iz n := Int32.ofInt_eq_ofNat.symm
theorem z0 : (0 : Int32) = iz 0 := rfl
theorem z1 : (1 : Int32) = iz 1 := rfl
theorem z2 : (2 : Int32) = iz 2 := rfl
theorem z3 : (3 : Int32) = iz 3 := rfl
theorem z4 : (4 : Int32) = iz 4 := rfl
theorem z5 : (5 : Int32) = iz 5 := rfl
theorem z6 : (6 : Int32) = iz 6 := rfl
theorem z8 : (8 : Int32) = iz 8 := rfl
theorem z12 : (12 : Int32) = iz 12 := rfl
theorem z36 : (36 : Int32) = iz 36 := rfl
theorem z100 : (100 : Int32) = iz 100 := rfl
theorem z120 : (120 : Int32) = iz 120 := rfl
theorem z360 : (360 : Int32) = iz 360 := rfl
theorem z1000 : (1000 : Int32) = iz 1000 := rfl
theorem gd_iz {α : Type} {a : Int} {n : Nat} {o : Option α} (h0 : 0 ≤ a) (h1 : a < n) (h2 : n < 2147483648) : gd_in (iz a) n o = o := gd_ok (by rw [iz_i (by omega) (by omega)]; exact h0) (by rw [iz_i (by omega) (by omega)]; exact h1)
theorem bd_some {α β : Type} (a : α) (f : α → Option β) : bd (some a) f = f a := rfl
abbrev V3 : Type := Int × Int × Int
theorem v3_ext {x y : V3} (h1 : x.1 = y.1) (h2 : x.2.1 = y.2.1) (h3 : x.2.2 = y.2.2) : x = y := by
  obtain ⟨a, b, c⟩ := x
  obtain ⟨a', b', c'⟩ := y
  simp_all
def px (p : Nat → V3) : Nat → Int32 := fun i => iz (p i).1
def py (p : Nat → V3) : Nat → Int32 := fun i => iz (p i).2.1
def pz (p : Nat → V3) : Nat → Int32 := fun i => iz (p i).2.2
def pe (e : Nat → Int) : Nat → Int32 := fun i => iz (e i)
def at3 (X Y Z : Nat → Int32) : Nat → V3 := fun i => ((X i).toInt, (Y i).toInt, (Z i).toInt)
def at1 (E : Nat → Int32) : Nat → Int := fun i => (E i).toInt
theorem px_i (p : Nat → V3) (i : Nat) : px p i = iz (p i).1 := rfl
theorem py_i (p : Nat → V3) (i : Nat) : py p i = iz (p i).2.1 := rfl
theorem pz_i (p : Nat → V3) (i : Nat) : pz p i = iz (p i).2.2 := rfl
theorem pe_i (p : Nat → Int) (i : Nat) : pe p i = iz (p i) := rfl
theorem px_at (X Y Z : Nat → Int32) : px (at3 X Y Z) = X := by funext i; exact iz_t _
theorem py_at (X Y Z : Nat → Int32) : py (at3 X Y Z) = Y := by funext i; exact iz_t _
theorem pz_at (X Y Z : Nat → Int32) : pz (at3 X Y Z) = Z := by funext i; exact iz_t _
theorem pe_at (X : Nat → Int32) : pe (at1 X) = X := by funext i; exact iz_t _
def ud {α : Type} (p : Nat → α) (k : Nat) (v : α) : Nat → α := fun i => if i = k then v else p i
theorem upd_px (p : Nat → V3) (k : Nat) (v : V3) : upd (px p) k (iz v.1) = px (ud p k v) := by funext i; unfold upd px ud; split <;> rfl
theorem upd_py (p : Nat → V3) (k : Nat) (v : V3) : upd (py p) k (iz v.2.1) = py (ud p k v) := by funext i; unfold upd py ud; split <;> rfl
theorem upd_pz (p : Nat → V3) (k : Nat) (v : V3) : upd (pz p) k (iz v.2.2) = pz (ud p k v) := by funext i; unfold upd pz ud; split <;> rfl
theorem upd_pe (p : Nat → Int) (k : Nat) (v : Int) : upd (pe p) k (iz v) = pe (ud p k v) := by funext i; unfold upd pe ud; split <;> rfl
/-- the order of points: by x, then y, then z -/
def lx (a b : V3) : Prop := a.1 < b.1 ∨ a.1 = b.1 ∧ (a.2.1 < b.2.1 ∨ a.2.1 = b.2.1 ∧ a.2.2 < b.2.2)
theorem lx_irr {a : V3} (h : lx a a) : False := by unfold lx at h; omega
theorem lx_tr {a b c : V3} (h : lx a b) (h2 : lx b c) : lx a c := by unfold lx at *; omega
theorem lx_asym {a b : V3} (h : lx a b) (h2 : lx b a) : False := lx_irr (lx_tr h h2)
theorem lx_tri (a b : V3) : lx a b ∨ a = b ∨ lx b a := by
  by_cases h1 : lx a b
  · exact Or.inl h1
  · by_cases h2 : lx b a
    · exact Or.inr (Or.inr h2)
    · refine Or.inr (Or.inl ?_)
      unfold lx at h1 h2
      exact v3_ext (by omega) (by omega) (by omega)
/-- strictly in order -/
def SS (n : Nat) (s : Nat → V3) : Prop := ∀ i j, i < j → j < n → lx (s i) (s j)
def Mm {α : Type} (n : Nat) (s : Nat → α) (v : α) : Prop := ∃ i, i < n ∧ s i = v
theorem seq_one {n m : Nat} {s t : Nat → V3} (hs : SS n s) (ht : SS m t) (h : ∀ v, Mm n s v ↔ Mm m t v) : ∀ i, i < n → i < m ∧ s i = t i := by
  intro i
  induction i using Nat.strongRecOn with
  | ind i ih =>
    intro hi
    obtain ⟨j, hj, ej⟩ := (h (s i)).mp ⟨i, hi, rfl⟩
    rcases Nat.lt_trichotomy j i with c | c | c
    · have := (ih j c (by omega)).2
      rw [ej] at this
      have h2 := hs j i c hi
      rw [this] at h2
      exact (lx_irr h2).elim
    · subst c
      exact ⟨hj, ej.symm⟩
    · have h1 := ht i j c hj
      obtain ⟨k, hk, ek⟩ := (h (t i)).mpr ⟨i, by omega, rfl⟩
      rw [ej, ← ek] at h1
      rcases Nat.lt_trichotomy k i with c2 | c2 | c2
      · have h3 := (ih k c2 hk).2
        have h4 := ht k i c2 (by omega)
        rw [← h3, ek] at h4
        exact (lx_irr h4).elim
      · subst c2
        exact (lx_irr h1).elim
      · exact (lx_asym h1 (hs i k c2 hk)).elim
theorem seq_uni {n m : Nat} {s t : Nat → V3} (hs : SS n s) (ht : SS m t) (h : ∀ v, Mm n s v ↔ Mm m t v) : n = m ∧ ∀ i, i < n → s i = t i := by
  have h1 := seq_one hs ht h
  have h2 := seq_one ht hs (fun v => (h v).symm)
  refine ⟨?_, fun i hi => (h1 i hi).2⟩
  rcases Nat.lt_trichotomy n m with c | c | c
  · have := (h2 n c).1
    omega
  · exact c
  · have := (h1 m c).1
    omega
/-- put in at k -/
def insA {α : Type} (s : Nat → α) (k : Nat) (v : α) : Nat → α := fun i => if i < k then s i else if i = k then v else s (i - 1)
theorem ins_Mm {α : Type} {n k : Nat} {s t : Nat → α} {v : α} (hk : k ≤ n) (ht : ∀ i, i ≤ n → t i = insA s k v i) (w : α) : Mm (n + 1) t w ↔ Mm n s w ∨ w = v := by
  constructor
  · rintro ⟨i, hi, e⟩
    rw [ht i (by omega)] at e
    unfold insA at e
    by_cases c : i < k
    · rw [if_pos c] at e
      exact Or.inl ⟨i, by omega, e⟩
    · rw [if_neg c] at e
      by_cases c2 : i = k
      · rw [if_pos c2] at e
        exact Or.inr e.symm
      · rw [if_neg c2] at e
        exact Or.inl ⟨i - 1, by omega, e⟩
  · rintro (⟨i, hi, e⟩ | e)
    · by_cases c : i < k
      · refine ⟨i, by omega, ?_⟩
        rw [ht i (by omega)]
        unfold insA
        rw [if_pos c]
        exact e
      · refine ⟨i + 1, by omega, ?_⟩
        rw [ht (i + 1) (by omega)]
        unfold insA
        rw [if_neg (by omega), if_neg (by omega)]
        exact e
    · refine ⟨k, by omega, ?_⟩
      rw [ht k hk]
      unfold insA
      rw [if_neg (by omega), if_pos rfl, e]
theorem ins_SS {n k : Nat} {s t : Nat → V3} {v : V3} (hk : k ≤ n) (hs : SS n s) (ht : ∀ i, i ≤ n → t i = insA s k v i) (h1 : ∀ i, i < k → lx (s i) v) (h2 : ∀ i, k ≤ i → i < n → lx v (s i)) : SS (n + 1) t := by
  intro i j hij hj
  rw [ht i (by omega), ht j (by omega)]
  unfold insA
  by_cases c1 : j < k
  · rw [if_pos c1, if_pos (by omega)]
    exact hs i j hij (by omega)
  · rw [if_neg c1]
    by_cases c2 : j = k
    · rw [if_pos c2, if_pos (by omega)]
      exact h1 i (by omega)
    · rw [if_neg c2]
      by_cases c3 : i < k
      · rw [if_pos c3]
        exact hs i (j - 1) (by omega) (by omega)
      · rw [if_neg c3]
        by_cases c4 : i = k
        · rw [if_pos c4]
          exact h2 (j - 1) (by omega) (by omega)
        · rw [if_neg c4]
          exact hs (i - 1) (j - 1) (by omega) (by omega)
