/-! class and reference make the same body -/
theorem SS_le {m n : Nat} {t s : Nat → V3} (ht : SS m t) (hs : SS n s) (h : ∀ i, i < m → Mm n s (t i)) : m ≤ n := by
  have key : ∀ i, i < m → ∀ j, j < n → t i = s j → i ≤ j := by
    intro i
    induction i with
    | zero => intro _ j _ _; exact Nat.zero_le _
    | succ i ih =>
      intro hi j hj e
      obtain ⟨j', hj', ej'⟩ := h i (by omega)
      have h1 := ih (by omega) j' hj' ej'.symm
      have h2 := ht i (i + 1) (by omega) hi
      rw [← ej', e] at h2
      rcases Nat.lt_trichotomy j' j with c | c | c
      · omega
      · rw [c] at h2; exact (lx_irr h2).elim
      · exact (lx_asym h2 (hs j j' c hj')).elim
  rcases Nat.eq_zero_or_pos m with c | c
  · omega
  · obtain ⟨j, hj, ej⟩ := h (m - 1) (by omega)
    have := key (m - 1) (by omega) j hj ej.symm
    omega
theorem Sd_uni {S : V3 → Prop} {f f' : Nat} {N N' : V3} (h : FD S f N) (h' : FD S f' N') : f = f' ∧ Sd S f N = Sd S f' N' ∧ Cn S f N = Cn S f' N' := by
  obtain ⟨rfl, h2⟩ := FD_uni h h'
  have e : Sd S f N = Sd S f N' := by
    rcases h with ⟨rfl, _⟩ | ⟨rfl, _⟩ | ⟨rfl, _⟩ | ⟨rfl, _⟩
    · funext n e; unfold Sd; simp
    · rw [h2 (Or.inl rfl)]
    · rw [h2 (Or.inr rfl)]
    · rw [Sd_f.2.2, Sd_f.2.2]
  refine ⟨rfl, e, ?_⟩
  funext p
  unfold Cn
  rw [e]
/-- what the reference holds of a body -/
def RefB (b f : Nat) (N : V3) (cs : Nat) (c : Nat → V3) (ss : Nat) (s : Nat → V3) (e be : Nat → Int) (FI CO CR SI' SR BO : Nat → Int32) : Prop := FI b = iz (f : Int) ∧ CO b = iz (cs : Int) ∧ RC CR b cs c ∧ SI' b = iz (ss : Int) ∧ Rw SR b ss s e ∧ (f = 1 ∨ f = 2 → BR BO b N) ∧ (f = 2 → BO (4 * b + 3) = iz (be 0))
theorem made_same {S : V3 → Prop} {f : Nat} {N : V3} {cs : Nat} {c : Nat → V3} {ss : Nat} {s : Nat → V3} {e : Nat → Int} {bd' : Nat → V3} {be L G : Nat → Int} (h : BodyP S f N cs c ss s e bd' be L G) {n : Nat} {P : Nat → V3} (hS : ∀ v, Mm n P v ↔ S v) (hn : n ≤ 140) (hn1 : 1 ≤ n) (hr : ∀ i, i < n → rc3 (P i)) (hq : SS n P) {b : Nat} (hb : b < 8) (sx sy sw : Int32) (FI CO CR SI0 SR MO BO : Nat → Int32) (many : Int32) : ∃ (sx' sy' sw' : Int32) (FI' CO' CR' SI' SR' MO' BO' : Nat → Int32), fX9_made (iz (b : Int)) (iz (n : Int)) sx sy sw FI CO CR SI0 SR MO BO (px P) (py P) (pz P) many = some (iz (b : Int), iz ((b + 1 : Nat) : Int), sx', sy', sw', FI', CO', CR', SI', SR', MO', BO') ∧ RefB b f N cs c ss s e be FI' CO' CR' SI' SR' BO' ∧ MO' b = many ∧ (∀ x, x ≠ b → FI' x = FI x ∧ CO' x = CO x ∧ SI' x = SI0 x ∧ MO' x = MO x) ∧ (∀ x, (x < 120 * b ∨ 120 * b + 120 ≤ x) → CR' x = CR x) ∧ (∀ x, (x < 360 * b ∨ 360 * b + 360 ≤ x) → SR' x = SR x) ∧ (∀ x, (x < 4 * b ∨ 4 * b + 4 ≤ x) → BO' x = BO x) := by
  have eS : Mm n P = S := funext fun v => propext (hS v)
  subst eS
  obtain ⟨h1, h2, h3, h4, h5, h6, ⟨p0, hp0, h7⟩, h8, h9, h10, h11⟩ := h
  obtain ⟨f', N', cs', c', ss', s', e', sx', sy', sw', FI', CO', CR', SI', SR', MO', BO', g0, ⟨k1, k3, k4, k5, k6, m1, m2, m3, m4, m5, m6, m7, m8⟩, g2, g3, g4, g5⟩ := made_i hn hn1 hr hq hb (fun f1 N1 hf1 m t' ht hh => by
    obtain ⟨rfl, e1, _⟩ := Sd_uni h1 hf1
    have := SS_le ht h5.1 (fun i hi => by
      obtain ⟨e0, he0⟩ := hh i hi
      rw [← e1] at he0
      exact h6 _ _ he0)
    omega) (fun f1 N1 hf1 m t' ht hh => by
    obtain ⟨rfl, _, e1⟩ := Sd_uni h1 hf1
    have := SS_le ht h3 (fun i hi => by
      have := hh i hi
      rw [← e1] at this
      exact (h4 _).mpr this)
    omega) sx sy sw FI CO CR SI0 SR MO BO many
  obtain ⟨ef, eSd, eCn⟩ := Sd_uni h1 k1
  have hN : f = 1 ∨ f = 2 → N = N' := (FD_uni h1 k1).2
  subst ef
  obtain ⟨ec, ec2⟩ := seq_uni h3 k3 (fun v => by rw [h4 v, k4 v, eCn])
  subst ec
  obtain ⟨es, es2⟩ := seq_uni h5.1 k5.1 (fun v => by
    constructor
    · rintro ⟨i, hi, ei⟩
      have := h5.2 i hi
      rw [ei, eSd] at this
      exact k6 _ _ this
    · rintro ⟨i, hi, ei⟩
      have := k5.2 i hi
      rw [ei, ← eSd] at this
      exact h6 _ _ this)
  subst es
  have ee : ∀ i, i < ss → e i = e' i := fun i hi => by
    have a := h5.2 i hi
    have b := k5.2 i hi
    rw [← eSd, ← es2 i hi] at b
    exact Sd_e a b
  refine ⟨sx', sy', sw', FI', CO', CR', SI', SR', MO', BO', g0, ⟨m1, m2, fun i hi => ?_, m4, fun i hi => ?_, fun hf => ?_, fun hf => ?_⟩, m6, g2, g3, g4, g5⟩
  · rw [ec2 i hi]; exact m3 i hi
  · rw [es2 i hi, ee i hi]; exact m5 i hi
  · rw [hN hf]; exact m7 hf
  · obtain ⟨q0, hq0, eq0⟩ := m8 hf
    subst hf
    rw [eq0, (h7 0 (by decide)).2]
    show iz (d3 N' q0) = iz (d3 N p0)
    rw [hN (Or.inr rfl)]
    rcases k1 with ⟨g, _⟩ | ⟨g, _⟩ | ⟨_, _, _, fl, _⟩ | ⟨g, _⟩
    · omega
    · omega
    · rw [fl q0 p0 hq0 hp0]
    · omega
theorem bnd_bd {f : Nat} {N : V3} (hN : bdv 200 N) (i : Nat) : bdv 200 (bnd f N i) := by
  obtain ⟨⟨a, b⟩, ⟨c, d⟩, g, h⟩ := hN
  unfold bnd
  split
  · split
    · exact ⟨by decide, by decide, by decide⟩
    · split
      · exact ⟨by decide, by decide, by decide⟩
      · exact ⟨by decide, by decide, by decide⟩
  · split
    · split
      · exact ⟨by dsimp only; omega, by dsimp only; omega, by dsimp only; omega⟩
      · split
        · exact ⟨by dsimp only; omega, by dsimp only; omega, by dsimp only; omega⟩
        · exact ⟨by dsimp only; omega, by dsimp only; omega, by dsimp only; omega⟩
    · exact ⟨⟨a, b⟩, ⟨c, d⟩, g, h⟩
