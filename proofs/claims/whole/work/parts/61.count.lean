/-! how many vectors: HC p c says that p holds of just c -/
def HC (p : V4 → Prop) (c : Nat) : Prop := ∃ L : List V4, L.Nodup ∧ (∀ X, X ∈ L ↔ p X) ∧ L.length = c
theorem nd_len : ∀ (L L' : List V4), L.Nodup → L'.Nodup → (∀ X, X ∈ L ↔ X ∈ L') → L.length = L'.length := by
  intro L
  induction L with
  | nil =>
    intro L' _ _ h
    cases L' with
    | nil => rfl
    | cons a l => exact absurd ((h a).mpr List.mem_cons_self) List.not_mem_nil
  | cons a l ih =>
    intro L' h1 h2 h
    have ha : a ∈ L' := (h a).mp List.mem_cons_self
    obtain ⟨hal, hl⟩ := List.nodup_cons.mp h1
    have e := ih (L'.erase a) hl (h2.erase a) (fun X => by
      rw [h2.mem_erase_iff, ← h X, List.mem_cons]
      constructor
      · intro hx
        exact ⟨fun e => hal (by rw [← e]; exact hx), Or.inr hx⟩
      · rintro ⟨hne, rfl | hx⟩
        · exact absurd rfl hne
        · exact hx)
    rw [List.length_erase_of_mem ha] at e
    have : 0 < L'.length := List.length_pos_of_mem ha
    rw [List.length_cons]
    omega
theorem HC.uniq {p : V4 → Prop} {a c : Nat} (h : HC p a) (h' : HC p c) : a = c := by
  obtain ⟨L, h1, h2, h3⟩ := h
  obtain ⟨L', k1, k2, k3⟩ := h'
  rw [← h3, ← k3]
  exact nd_len L L' h1 k1 (fun X => (h2 X).trans (k2 X).symm)
theorem HC.iff {p q : V4 → Prop} {c : Nat} (h : HC p c) (e : ∀ X, p X ↔ q X) : HC q c := by
  obtain ⟨L, h1, h2, h3⟩ := h
  exact ⟨L, h1, fun X => (h2 X).trans (e X), h3⟩
theorem HC.bij {p q : V4 → Prop} {c : Nat} (h : HC p c) (g g' : V4 → V4) (h1 : ∀ X, p X → q (g X)) (h2 : ∀ Y, q Y → p (g' Y)) (h3 : ∀ X, g' (g X) = X) (h4 : ∀ Y, g (g' Y) = Y) : HC q c := by
  obtain ⟨L, k1, k2, k3⟩ := h
  refine ⟨L.map g, List.Pairwise.map g (fun a b hab e => hab (by rw [← h3 a, ← h3 b, e])) k1, fun Y => ?_, by rw [List.length_map]; exact k3⟩
  rw [List.mem_map]
  constructor
  · rintro ⟨X, hX, rfl⟩
    exact h1 X ((k2 X).mp hX)
  · intro hY
    exact ⟨g' Y, (k2 _).mpr (h2 Y hY), h4 Y⟩
theorem fil_len {α : Type} (p : α → Bool) : ∀ L : List α, (L.filter p).length + (L.filter (fun x => ! p x)).length = L.length := by
  intro L
  induction L with
  | nil => rfl
  | cons a l ih =>
    cases h : p a
    · rw [List.filter_cons_of_neg (by simp [h]), List.filter_cons_of_pos (by simp [h]), List.length_cons, List.length_cons]
      omega
    · rw [List.filter_cons_of_pos h, List.filter_cons_of_neg (by simp [h]), List.length_cons, List.length_cons]
      omega
theorem HC.split {p : V4 → Prop} {c : Nat} (h : HC p c) (q : V4 → Prop) : ∃ a b, HC (fun X => p X ∧ q X) a ∧ HC (fun X => p X ∧ ¬ q X) b ∧ a + b = c := by
  obtain ⟨L, h1, h2, h3⟩ := h
  have dq : ∀ X, Decidable (q X) := fun X => Classical.propDecidable _
  refine ⟨(L.filter (fun X => decide (q X))).length, (L.filter (fun X => ! decide (q X))).length, ⟨_, h1.filter _, fun X => ?_, rfl⟩, ⟨_, h1.filter _, fun X => ?_, rfl⟩, ?_⟩
  · rw [List.mem_filter, h2 X]
    simp
  · rw [List.mem_filter, h2 X]
    simp
  · rw [← h3]
    exact fil_len (fun X => decide (q X)) L
theorem HC.sum {p q : V4 → Prop} {a b : Nat} (h : HC p a) (h' : HC q b) (hd : ∀ X, p X → ¬ q X) : HC (fun X => p X ∨ q X) (a + b) := by
  obtain ⟨L, h1, h2, h3⟩ := h
  obtain ⟨L', k1, k2, k3⟩ := h'
  refine ⟨L ++ L', List.nodup_append.mpr ⟨h1, k1, fun x hx y hy e => hd x ((h2 x).mp hx) ((k2 x).mp (by rw [e]; exact hy))⟩, fun X => ?_, by rw [List.length_append, h3, k3]⟩
  rw [List.mem_append, h2 X, k2 X]
theorem HC.none {p : V4 → Prop} (h : ∀ X, ¬ p X) : HC p 0 := ⟨[], List.nodup_nil, fun X => ⟨fun hx => absurd hx List.not_mem_nil, fun hx => absurd hx (h X)⟩, rfl⟩
theorem HC.empty {p : V4 → Prop} {c : Nat} (hc : HC p c) (h : ∀ X, ¬ p X) : c = 0 := hc.uniq (HC.none h)
/-! half-open cones over frames -/
def inK (f : Nat → V4) (s : Nat → Int) (X : V4) : Prop := ∀ i, i < 4 → s i ≤ dt (f i) X
def sb (X Y : V4) : V4 := ad X (sm (-1) Y)
theorem dt_sb (g X Y : V4) : dt g (sb X Y) = dt g X - dt g Y := by
  unfold sb
  rw [dt_ad, dt_sm]
  omega
theorem sb_ad (X Y : V4) : ad (sb X Y) Y = X := by
  unfold sb ad sm
  refine v4_ext ?_ ?_ ?_ ?_ <;> simp <;> omega
theorem ad_sb (X Y : V4) : sb (ad X Y) Y = X := by
  unfold sb ad sm
  refine v4_ext ?_ ?_ ?_ ?_ <;> simp <;> omega
theorem sb_sb (X Y : V4) : sb Y (sb Y X) = X := by
  unfold sb ad sm
  refine v4_ext ?_ ?_ ?_ ?_ <;> simp <;> omega
/-- shares below s + d in the places that J names -/
def inB (f : Nat → V4) (s : Nat → Int) (d : Int) (J : Nat → Prop) (X : V4) : Prop := inK f s X ∧ ∀ i, i < 4 → J i → dt (f i) X < s i + d
