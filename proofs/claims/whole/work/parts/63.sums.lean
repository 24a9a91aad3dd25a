theorem dedup (L : List Cd) : ∃ L' : List Cd, L'.Nodup ∧ ∀ c, c ∈ L' ↔ c ∈ L := by
  induction L with
  | nil => exact ⟨[], List.nodup_nil, fun c => Iff.rfl⟩
  | cons a l ih =>
    obtain ⟨L', h1, h2⟩ := ih
    by_cases h : a ∈ L'
    · refine ⟨L', h1, fun c => ?_⟩
      rw [List.mem_cons, ← h2 c]
      constructor
      · exact Or.inr
      · rintro (rfl | hc)
        · exact h
        · exact hc
    · refine ⟨a :: L', List.nodup_cons.mpr ⟨h, h1⟩, fun c => ?_⟩
      rw [List.mem_cons, List.mem_cons, h2 c]
theorem sum_T (P : Cd → V4 → Prop) (N : Cd → Nat) : ∀ L : List Cd, L.Nodup → (∀ c c' X, c ∈ L → c' ∈ L → P c X → P c' X → c = c') → (∀ c, c ∈ L → HC (P c) (N c)) → HC (fun X => ∃ c, c ∈ L ∧ P c X) ((L.map N).sum) := by
  intro L
  induction L with
  | nil => exact fun _ _ _ => HC.none (fun X ⟨c, h, _⟩ => absurd h List.not_mem_nil)
  | cons a l ih =>
    intro hn hu hN
    obtain ⟨ha, hl⟩ := List.nodup_cons.mp hn
    have h1 := ih hl (fun c c' X hc hc' => hu c c' X (List.mem_cons_of_mem _ hc) (List.mem_cons_of_mem _ hc')) (fun c hc => hN c (List.mem_cons_of_mem _ hc))
    have h2 := (hN a List.mem_cons_self).sum h1 (fun X hX ⟨c, hc, hP⟩ => ha (by rw [hu a c X List.mem_cons_self (List.mem_cons_of_mem _ hc) hX hP]; exact hc))
    rw [List.map_cons, List.sum_cons]
    refine h2.iff (fun X => ?_)
    constructor
    · rintro (h | ⟨c, hc, h⟩)
      · exact ⟨a, List.mem_cons_self, h⟩
      · exact ⟨c, List.mem_cons_of_mem _ hc, h⟩
    · rintro ⟨c, hc, h⟩
      rcases List.mem_cons.mp hc with rfl | hc
      · exact Or.inl h
      · exact Or.inr ⟨c, hc, h⟩
theorem sum_lin (A B C D E Z : Cd → Nat) : ∀ L : List Cd, (∀ c, c ∈ L → (A c : Int) - 4 * B c + 6 * C c - 4 * D c + E c = Z c) → (((L.map A).sum : Nat) : Int) - 4 * ((L.map B).sum : Nat) + 6 * ((L.map C).sum : Nat) - 4 * ((L.map D).sum : Nat) + ((L.map E).sum : Nat) = ((L.map Z).sum : Nat) := by
  intro L
  induction L with
  | nil => intro _; rfl
  | cons a l ih =>
    intro h
    have h1 := ih (fun c hc => h c (List.mem_cons_of_mem _ hc))
    have h2 := h a List.mem_cons_self
    simp only [List.map_cons, List.sum_cons]
    omega
theorem sum_zero (Z : Cd → Nat) : ∀ L : List Cd, (∀ c, c ∈ L → Z c = 0) → (L.map Z).sum = 0 := by
  intro L
  induction L with
  | nil => intro _; rfl
  | cons a l ih =>
    intro h
    rw [List.map_cons, List.sum_cons, ih (fun c hc => h c (List.mem_cons_of_mem _ hc)), h a List.mem_cons_self]
theorem map_sum_congr (A B : Cd → Nat) : ∀ L : List Cd, (∀ c, c ∈ L → A c = B c) → (L.map A).sum = (L.map B).sum := by
  intro L h
  rw [List.map_congr_left h]
/-- the counts of a body that frames cut up: closed, and within -/
theorem ehr_sum (T : List Cd) (hT : T.Nodup) (b f : Cd → Nat → V4) (d : Cd → Int) (s : Cd → Nat → Int) (hF : ∀ c, c ∈ T → Fr (b c) (f c) (d c)) (hh : ∀ c, c ∈ T → ∀ i, i < 4 → (b c i).2.2.2 = 1) (hs : ∀ c, c ∈ T → (∀ i, i < 4 → 0 ≤ s c i ∧ s c i ≤ 1) ∧ s c 0 + s c 1 + s c 2 + s c 3 ≤ 3)
    (Q Q' : V4 → Prop) (hQ : ∀ X, Q X ↔ ∃ c, c ∈ T ∧ inK (f c) (s c) X) (hQ' : ∀ X, Q' X ↔ ∃ c, c ∈ T ∧ inK (f c) (fun i => 1 - s c i) X)
    (hu : ∀ c c' X, c ∈ T → c' ∈ T → inK (f c) (s c) X → inK (f c') (s c') X → c = c') (hu' : ∀ c c' X, c ∈ T → c' ∈ T → inK (f c) (fun i => 1 - s c i) X → inK (f c') (fun i => 1 - s c' i) X → c = c')
    (N N' : Int → Nat) (hN : ∀ n, HC (fun X => X.2.2.2 = n ∧ Q X) (N n)) (hN' : ∀ n, HC (fun X => X.2.2.2 = n ∧ Q' X) (N' n)) :
    ∃ β : Int → Nat, (∀ n, (N n : Int) - 4 * N (n - 1) + 6 * N (n - 2) - 4 * N (n - 3) + N (n - 4) = β n) ∧ (∀ n, (N' n : Int) - 4 * N' (n - 1) + 6 * N' (n - 2) - 4 * N' (n - 3) + N' (n - 4) = β (4 - n)) ∧ ∀ n, 4 ≤ n ∨ n < 0 → β n = 0 := by
  have cnt : ∀ (t : Cd → Nat → Int) (R : V4 → Prop) (M : Int → Nat), (∀ X, R X ↔ ∃ c, c ∈ T ∧ inK (f c) (t c) X) → (∀ n, HC (fun X => X.2.2.2 = n ∧ R X) (M n)) → (∀ c c' X, c ∈ T → c' ∈ T → inK (f c) (t c) X → inK (f c') (t c') X → c = c') → ∃ A Z : Cd → Int → Nat, (∀ n, M n = (T.map (fun c => A c n)).sum) ∧ (∀ c, c ∈ T → ∀ n, HC (Pk (f c) (t c) (d c) (fun _ => True) n) (Z c n)) ∧ ∀ c, c ∈ T → ∀ n, (A c n : Int) - 4 * A c (n - 1) + 6 * A c (n - 2) - 4 * A c (n - 3) + A c (n - 4) = Z c n := by
    intro t R M hR hM hUn
    have e1 : ∀ c : Cd, ∃ a : Int → Nat, c ∈ T → ∀ n, HC (Pk (f c) (t c) (d c) (fun _ => False) n) (a n) := by
      intro c
      by_cases hc : c ∈ T
      · have : ∀ n, ∃ a, HC (Pk (f c) (t c) (d c) (fun _ => False) n) a := by
          intro n
          obtain ⟨a, _, h1, _, _⟩ := (hM n).split (fun X => inK (f c) (t c) X)
          refine ⟨a, h1.iff (fun X => ?_)⟩
          constructor
          · rintro ⟨⟨e1, _⟩, e2⟩
            exact ⟨e1, e2, fun _ _ h => h.elim⟩
          · rintro ⟨e1, e2, _⟩
            exact ⟨⟨e1, (hR X).mpr ⟨c, hc, e2⟩⟩, e2⟩
        obtain ⟨a, ha⟩ := Classical.axiomOfChoice this
        exact ⟨a, fun _ => ha⟩
      · exact ⟨fun _ => 0, fun h => absurd h hc⟩
    obtain ⟨A, hA⟩ := Classical.axiomOfChoice e1
    have e2 : ∀ c : Cd, ∃ z : Int → Nat, c ∈ T → (∀ n, HC (Pk (f c) (t c) (d c) (fun _ => True) n) (z n)) ∧ ∀ n, (A c n : Int) - 4 * A c (n - 1) + 6 * A c (n - 2) - 4 * A c (n - 3) + A c (n - 4) = z n := by
      intro c
      by_cases hc : c ∈ T
      · obtain ⟨z, z1, z2⟩ := k_box (hF c hc) (t c) (hh c hc) (A c) (hA c hc)
        exact ⟨z, fun _ => ⟨z1, z2⟩⟩
      · exact ⟨fun _ => 0, fun h => absurd h hc⟩
    obtain ⟨Z, hZ⟩ := Classical.axiomOfChoice e2
    refine ⟨A, Z, fun n => ?_, fun c hc => (hZ c hc).1, fun c hc => (hZ c hc).2⟩
    refine (hM n).uniq ((sum_T (fun c => Pk (f c) (t c) (d c) (fun _ => False) n) (fun c => A c n) T hT (fun c c' X hc hc' h h' => hUn c c' X hc hc' h.2.1 h'.2.1) (fun c hc => hA c hc n)).iff (fun X => ?_))
    constructor
    · rintro ⟨c, hc, e1, e2, _⟩
      exact ⟨e1, (hR X).mpr ⟨c, hc, e2⟩⟩
    · rintro ⟨e1, e2⟩
      obtain ⟨c, hc, e3⟩ := (hR X).mp e2
      exact ⟨c, hc, e1, e3, fun _ _ h => h.elim⟩
  obtain ⟨A, Z, a1, a2, a3⟩ := cnt s Q N hQ hN hu
  obtain ⟨A', Z', b1, b2, b3⟩ := cnt (fun c i => 1 - s c i) Q' N' hQ' hN' hu'
  refine ⟨fun n => (T.map (fun c => Z c n)).sum, fun n => ?_, fun n => ?_, fun n hn => ?_⟩
  · rw [a1 n, a1 (n - 1), a1 (n - 2), a1 (n - 3), a1 (n - 4)]
    exact sum_lin _ _ _ _ _ _ T (fun c hc => a3 c hc n)
  · rw [b1 n, b1 (n - 1), b1 (n - 2), b1 (n - 3), b1 (n - 4)]
    have e : (T.map (fun c => Z c (4 - n))).sum = (T.map (fun c => Z' c n)).sum := by
      refine map_sum_congr _ _ T (fun c hc => ?_)
      have h1 := box_turn (hF c hc) (hh c hc) (s c) (4 - n) (a2 c hc (4 - n))
      rw [show 4 - (4 - n) = n by omega] at h1
      exact h1.uniq (b2 c hc n)
    show _ = (((T.map (fun c => Z c (4 - n))).sum : Nat) : Int)
    rw [e]
    exact sum_lin _ _ _ _ _ _ T (fun c hc => b3 c hc n)
  · refine sum_zero _ T (fun c hc => ?_)
    exact (a2 c hc n).empty (box_top (hF c hc) (hh c hc) (s c) (hs c hc).1 (hs c hc).2 n hn)
