/-! least and greatest of the corners -/
def IsMn (n : Nat) (c : Nat → V3) (w : Nat) (m : Int) : Prop := (∀ a, a < n → m ≤ co (c a) w) ∧ ∃ a, a < n ∧ co (c a) w = m
def IsMx (n : Nat) (c : Nat → V3) (w : Nat) (m : Int) : Prop := (∀ a, a < n → co (c a) w ≤ m) ∧ ∃ a, a < n ∧ co (c a) w = m
theorem co_bd {v : V3} (h : rc3 v) (w : Nat) : -5 ≤ co v w ∧ co v w ≤ 5 := by
  obtain ⟨h1, h2, h3⟩ := h
  unfold co
  split
  · exact h1
  · split
    · exact h2
    · exact h3
theorem part_i {n sz i w : Nat} {c : Nat → V3} (hi : i < sz) (hn : sz ≤ n) (hn2 : n < 1000) (hw : w < 3) : fX4_part n (iz (sz : Int)) (px c) (py c) (pz c) (iz (i : Int)) (iz (w : Int)) = some (iz (co (c i) w)) := by
  unfold fX4_part co
  rw [if_neg (by rw [z0, iz_lt (by omega) (by omega) (by omega) (by omega)]; omega), if_pos ((ix_lt (by omega) (by omega)).mpr hi), ix_gd (by omega) (by omega), ix_gd (by omega) (by omega), ix_gd (by omega) (by omega), iz_cn (by omega)]
  rcases (show w = 0 ∨ w = 1 ∨ w = 2 by omega) with rfl | rfl | rfl
  · rfl
  · rw [if_neg (by decide), if_pos (show iz ((1 : Nat) : Int) = 1 from rfl)]; rfl
  · rw [if_neg (by decide), if_neg (by decide)]; rfl
theorem mn_in {cs : Nat} {c : Nat → V3} (hcs : cs ≤ 121) (hr : ∀ i, i < cs → rc3 (c i)) {w : Nat} (hw : w < 3) (K : Int32 → Int32 → Int32 → (Nat → Int32) → (Nat → Int32) → Option (Int32 × Int32 × (Nat → Int32) × (Nat → Int32))) (u1 u2 : Int32) : ∀ (m fuel i : Nat) (L G : Nat → Int), i + m = cs → m < fuel → IsMn i c w (L w) → IsMx i c w (G w) → ∃ L' G' : Nat → Int, LX0_init_94 cs (iz (cs : Int)) (px c) (py c) (pz c) K fuel (iz (w : Int)) (iz (i : Int)) u1 u2 (pe L) (pe G) = K (iz (w : Int)) u1 u2 (pe L') (pe G') ∧ IsMn cs c w (L' w) ∧ IsMx cs c w (G' w) ∧ ∀ v, v ≠ w → L' v = L v ∧ G' v = G v := by
  intro m
  induction m with
  | zero =>
    intro fuel i L G h1 h2 h3 h4
    obtain ⟨fuel, rfl⟩ : ∃ q, fuel = q + 1 := ⟨fuel - 1, by omega⟩
    have : i = cs := by omega
    subst this
    exact ⟨L, G, by rw [LX0_init_94, if_pos ((ix_le (by omega) (by omega)).mpr (Nat.le_refl _))], h3, h4, fun v _ => ⟨rfl, rfl⟩⟩
  | succ m ih =>
    intro fuel i L G h1 h2 h3 h4
    obtain ⟨fuel, rfl⟩ : ∃ q, fuel = q + 1 := ⟨fuel - 1, by omega⟩
    have hc := co_bd (hr i (by omega)) w
    obtain ⟨l1, a, ha, l2⟩ := h3
    obtain ⟨g1, b, hb, g2⟩ := h4
    have hca := co_bd (hr a (by omega)) w
    have hcb := co_bd (hr b (by omega)) w
    have eL : (if iz (co (c i) w) < iz (L w) then iz (co (c i) w) else iz (L w)) = iz (if co (c i) w < L w then co (c i) w else L w) := by
      simp only [iz_lt (a := co (c i) w) (b := L w) (by omega) (by omega) (by omega) (by omega)]
      split <;> rfl
    have eG : (if iz (G w) < iz (co (c i) w) then iz (co (c i) w) else iz (G w)) = iz (if G w < co (c i) w then co (c i) w else G w) := by
      simp only [iz_lt (a := G w) (b := co (c i) w) (by omega) (by omega) (by omega) (by omega)]
      split <;> rfl
    obtain ⟨L', G', e1, e2, e3, e4⟩ := ih fuel (i + 1) (ud L w (if co (c i) w < L w then co (c i) w else L w)) (ud G w (if G w < co (c i) w then co (c i) w else G w)) (by omega) (by omega) (by
      rw [ud_s]
      by_cases cc : co (c i) w < L w
      · rw [if_pos cc]
        refine ⟨fun x hx => ?_, i, by omega, rfl⟩
        by_cases cx : x = i
        · rw [cx]; exact Int.le_refl _
        · have := l1 x (by omega); omega
      · rw [if_neg cc]
        refine ⟨fun x hx => ?_, a, by omega, l2⟩
        by_cases cx : x = i
        · rw [cx]; omega
        · exact l1 x (by omega)) (by
      rw [ud_s]
      by_cases cc : G w < co (c i) w
      · rw [if_pos cc]
        refine ⟨fun x hx => ?_, i, by omega, rfl⟩
        by_cases cx : x = i
        · rw [cx]; exact Int.le_refl _
        · have := g1 x (by omega); omega
      · rw [if_neg cc]
        refine ⟨fun x hx => ?_, b, by omega, g2⟩
        by_cases cx : x = i
        · rw [cx]; omega
        · exact g1 x (by omega))
    refine ⟨L', G', ?_, e2, e3, fun v hv => ?_⟩
    · rw [LX0_init_94, if_neg (fun h => by have := (ix_le (by omega) (by omega)).mp h; omega), ix_gd hw (by omega), part_i (by omega) (Nat.le_refl _) (by omega) hw, bd_some, bd_some, iz_cn (by omega), pe_i, pe_i, eL, eG, upd_pe, upd_pe, ix_s]
      exact e1
    · obtain ⟨f1, f2⟩ := e4 v hv
      rw [ud_n L _ hv] at f1
      rw [ud_n G _ hv] at f2
      exact ⟨f1, f2⟩
theorem init0_i {cs : Nat} {c : Nat → V3} (hcs : cs ≤ 121) (hc1 : 1 ≤ cs) (hr : ∀ i, i < cs → rc3 (c i)) (u1 u2 : Int32) : ∃ L G : Nat → Int, fX0_init cs 0 0 (iz (cs : Int)) (px c) (py c) (pz c) u1 u2 = some (u1, u2, pe L, pe G) ∧ ∀ w, w < 3 → IsMn cs c w (L w) ∧ IsMx cs c w (G w) := by
  have loop : ∀ (m fuel w : Nat) (L G : Nat → Int), w + m = 3 → m < fuel → (∀ v, v < w → IsMn cs c v (L v) ∧ IsMx cs c v (G v)) → ∃ L' G' : Nat → Int, LX0_init_57 cs (iz (cs : Int)) (px c) (py c) (pz c) fuel (iz (w : Int)) u1 u2 (pe L) (pe G) = some (u1, u2, pe L', pe G') ∧ ∀ v, v < 3 → IsMn cs c v (L' v) ∧ IsMx cs c v (G' v) := by
    intro m
    induction m with
    | zero =>
      intro fuel w L G h1 h2 h3
      obtain ⟨fuel, rfl⟩ : ∃ q, fuel = q + 1 := ⟨fuel - 1, by omega⟩
      have : w = 3 := by omega
      subst this
      exact ⟨L, G, by rw [LX0_init_57, if_pos (show (3 : Int32) ≤ iz ((3 : Nat) : Int) by decide)], h3⟩
    | succ m ih =>
      intro fuel w L G h1 h2 h3
      obtain ⟨fuel, rfl⟩ : ∃ q, fuel = q + 1 := ⟨fuel - 1, by omega⟩
      have hp := part_i (n := cs) (sz := cs) (i := 0) (w := w) (c := c) (by omega) (Nat.le_refl _) (by omega) (by omega)
      obtain ⟨L', G', e1, e2, e3, e4⟩ := mn_in hcs hr (w := w) (by omega) (fun a6 mz0 mz1 x5 x6 => (LX0_init_57 cs (iz (cs : Int)) (px c) (py c) (pz c) fuel (a6 + 1) mz0 mz1 x5 x6)) u1 u2 (cs - 1) FU 1 (ud L w (co (c 0) w)) (ud G w (co (c 0) w)) (by omega) (by unfold FU; omega) (by rw [ud_s]; exact ⟨fun a ha => by rw [show a = 0 by omega]; exact Int.le_refl _, 0, by omega, rfl⟩) (by rw [ud_s]; exact ⟨fun a ha => by rw [show a = 0 by omega]; exact Int.le_refl _, 0, by omega, rfl⟩)
      obtain ⟨L2, G2, f1, f2⟩ := ih fuel (w + 1) L' G' (by omega) (by omega) (fun v hv => by
        by_cases cv : v = w
        · rw [cv]; exact ⟨e2, e3⟩
        · obtain ⟨k1, k2⟩ := e4 v cv
          rw [k1, k2, ud_n L _ cv, ud_n G _ cv]
          exact h3 v (by omega))
      refine ⟨L2, G2, ?_, f2⟩
      rw [LX0_init_57, if_neg (by rw [z3, iz_le (by omega) (by omega) (by omega) (by omega)]; omega), show (0 : Int32) = iz ((0 : Nat) : Int) from rfl, hp, bd_some, bd_some, ix_gd (by omega) (by omega), iz_cn (by omega), upd_pe, upd_pe]
      refine Eq.trans e1 ?_
      rw [ix_s]
      exact f1
  have h0 : (fun _ => (0 : Int32)) = pe (fun _ => 0) := rfl
  unfold fX0_init
  rw [h0]
  exact loop 3 FU 0 (fun _ => 0) (fun _ => 0) (by omega) (by decide) (fun v hv => by omega)
/-- what a body made of the points S holds -/
def BodyP (S : V3 → Prop) (f : Nat) (N : V3) (cs : Nat) (c : Nat → V3) (ss : Nat) (s : Nat → V3) (e : Nat → Int) (b : Nat → V3) (be : Nat → Int) (L G : Nat → Int) : Prop :=
  FD S f N ∧ bdv 200 N ∧ SS cs c ∧ (∀ v, Mm cs c v ↔ Cn S f N v) ∧ SI (Sd S f N) ss s e ∧ (∀ n e', Sd S f N n e' → Mm ss s n) ∧ (∃ p0, S p0 ∧ ∀ i, i < nbd f → b i = bnd f N i ∧ be i = d3 (bnd f N i) p0) ∧ (∀ w, w < 3 → IsMn cs c w (L w) ∧ IsMx cs c w (G w)) ∧ 1 ≤ cs ∧ cs ≤ 40 ∧ ss ≤ 80
theorem zp_SS {n : Nat} {p : Nat → V3} (h : SS n p) : SS n (zp n p) := fun a b hab hb => by
  unfold zp
  rw [if_pos (by omega), if_pos hb]
  exact h a b hab hb
theorem zp_Mm (n : Nat) (p : Nat → V3) (v : V3) : Mm n (zp n p) v ↔ Mm n p v := by
  unfold zp
  constructor
  · rintro ⟨a, ha, ea⟩
    dsimp only at ea
    rw [if_pos ha] at ea
    exact ⟨a, ha, ea⟩
  · rintro ⟨a, ha, ea⟩
    exact ⟨a, ha, by dsimp only; rw [if_pos ha]; exact ea⟩
