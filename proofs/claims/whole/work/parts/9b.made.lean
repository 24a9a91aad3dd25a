/-! the reference makes a body -/
def RC (CR : Nat → Int32) (b cs : Nat) (c : Nat → V3) : Prop := ∀ i, i < cs → CR (120 * b + 3 * i) = iz (c i).1 ∧ CR (120 * b + 3 * i + 1) = iz (c i).2.1 ∧ CR (120 * b + 3 * i + 2) = iz (c i).2.2
theorem sd3_bd {S : V3 → Prop} {n : V3} {e : Int} (hr : ∀ p, S p → rc3 p) (h : Sd3 S n e) : bdv 200 n := by
  obtain ⟨pn, _, a, b, c, sa, sb, sc, ea, eb, ec, r⟩ := h
  obtain ⟨k, k0, ek⟩ := par_of pn r (cr_cr (by rw [d3_sb]; omega) (by rw [d3_sb]; omega))
  exact bd_of_mul k0 ek (cr_bd (A := 10) (B := 10) (sb_bd (hr b sb) (hr a sa)) (sb_bd (hr c sc) (hr a sa)))
theorem rc_bdv {p : V3} (h : rc3 p) : bdv 5 p := h
theorem made_c {n : Nat} {P : Nat → V3} (hn : n ≤ 140) (hr : ∀ i, i < n → rc3 (P i)) (hq : SS n P) {b f ss : Nat} (hb : b < 8) (hf : f ≤ 3) (hss : ss ≤ 80) {FI SI' SR MO BO CO0 CR0 : Nat → Int32} {s : Nat → V3} {e : Nat → Int} (hF : FI b = iz (f : Int)) (hSI : SI' b = iz (ss : Int)) (hR : Rw SR b ss s e) (hs : ∀ i, i < ss → bdv 4000 (s i) ∧ -100000 ≤ e i ∧ e i ≤ 100000) (h3b : f = 3 → ∀ i, i < ss → bdv 200 (s i)) (h0 : f = 0 → ss = 0) (h1 : f = 1 → ∀ p, p < n → tc s e (P p) ss ≤ 1) (h3 : f = 3 → ∀ p, p < n → ∀ x y z, x < y → y < z → z < ss → d3 (s x) (P p) = e x → d3 (s y) (P p) = e y → d3 (s z) (P p) = e z → d3 (cr (s x) (s y)) (s z) ≠ 0) (hC : ∀ m t, SS m t → (∀ i, i < m → Mm n P (t i) ∧ f ≤ tc s e (t i) ss) → m ≤ 40) (a1 mbo : Int32) : ∀ (m fuel i cs : Nat) (c : Nat → V3) (CO CR : Nat → Int32) (sx sy sw : Int32), i + m = n → m < fuel → CO b = iz (cs : Int) → RC CR b cs c → SS cs c → (∀ v, Mm cs c v ↔ Mm i P v ∧ f ≤ tc s e v ss) → (∀ x, x ≠ b → CO x = CO0 x) → (∀ x, (x < 120 * b ∨ 120 * b + 120 ≤ x) → CR x = CR0 x) → ∃ (cs' : Nat) (c' : Nat → V3) (CO' CR' : Nat → Int32) (sx' sy' sw' : Int32), LX9_made_333 (iz (n : Int)) (px P) (py P) (pz P) fuel a1 (iz (b : Int)) (iz (i : Int)) mbo sx sy sw FI CO CR SI' SR MO BO = some (iz (b : Int), mbo + 1, sx', sy', sw', FI, CO', CR', SI', SR, upd MO b a1, BO) ∧ CO' b = iz (cs' : Int) ∧ RC CR' b cs' c' ∧ SS cs' c' ∧ (∀ v, Mm cs' c' v ↔ Mm n P v ∧ f ≤ tc s e v ss) ∧ (∀ x, x ≠ b → CO' x = CO0 x) ∧ ∀ x, (x < 120 * b ∨ 120 * b + 120 ≤ x) → CR' x = CR0 x := by
  intro m
  induction m with
  | zero =>
    intro fuel i cs c CO CR sx sy sw g1 g2 g3 g4 g5 g6 g7 g8
    obtain ⟨fuel, rfl⟩ : ∃ q, fuel = q + 1 := ⟨fuel - 1, by omega⟩
    have ei : i = n := by omega
    subst ei
    refine ⟨cs, c, CO, CR, sx, sy, sw, ?_, g3, g4, g5, g6, g7, g8⟩
    rw [LX9_made_333, if_pos ((ix_le (by omega) (by omega)).mpr (Nat.le_refl _)), ix_gd hb (by omega), iz_cn (by omega)]
  | succ m ih =>
    intro fuel i cs c CO CR sx sy sw g1 g2 g3 g4 g5 g6 g7 g8
    obtain ⟨fuel, rfl⟩ : ∃ q, fuel = q + 1 := ⟨fuel - 1, by omega⟩
    obtain ⟨r, sx1, sy1, sw1, k1, k2, k3⟩ := isCorner_i hn (show i < n by omega) (hr i (by omega)) hb hf hss hF hSI hR hs h3b h0 (fun h => h1 h i (by omega)) (fun h => h3 h i (by omega)) sx sy sw
    have ex : ∀ v, Mm (i + 1) P v ↔ Mm i P v ∨ v = P i := fun v => by
      constructor
      · rintro ⟨a, ha, ea⟩
        by_cases c : a = i
        · subst c; exact Or.inr ea.symm
        · exact Or.inl ⟨a, by omega, ea⟩
      · rintro (⟨a, ha, ea⟩ | ea)
        · exact ⟨a, by omega, ea⟩
        · exact ⟨i, by omega, ea.symm⟩
    rw [LX9_made_333, if_neg (fun h => by have := (ix_le (by omega) (by omega)).mp h; omega), k1, bd_some]
    unfold JX9_made_418
    rw [ix_s]
    by_cases cc : f ≤ tc s e (P i) ss
    · have : r = 1 := k3.mpr cc
      subst this
      have hSS : SS (cs + 1) (ud c cs (P i)) := fun a b' hab hb' => by
        rw [ud_n c _ (show a ≠ cs by omega)]
        by_cases cb : b' = cs
        · rw [cb, ud_s]
          obtain ⟨⟨x, hx, ex⟩, _⟩ := (g6 (c a)).mp ⟨a, by omega, rfl⟩
          rw [← ex]
          exact hq x i (by omega) (by omega)
        · rw [ud_n c _ cb]
          exact g5 a b' hab (by omega)
      have hMm : ∀ v, Mm (cs + 1) (ud c cs (P i)) v ↔ Mm (i + 1) P v ∧ f ≤ tc s e v ss := fun v => by
        rw [ex v]
        constructor
        · rintro ⟨a, ha, ea⟩
          by_cases ca : a = cs
          · rw [ca, ud_s] at ea
            exact ⟨Or.inr ea.symm, by rw [← ea]; exact cc⟩
          · rw [ud_n c _ ca] at ea
            obtain ⟨q1, q2⟩ := (g6 v).mp ⟨a, by omega, ea⟩
            exact ⟨Or.inl q1, q2⟩
        · rintro ⟨a | a, b'⟩
          · obtain ⟨x, hx, ex⟩ := (g6 v).mpr ⟨a, b'⟩
            exact ⟨x, by omega, by rw [ud_n c _ (by omega)]; exact ex⟩
          · exact ⟨cs, by omega, by rw [ud_s, a]⟩
      have hcs : cs + 1 ≤ 40 := hC (cs + 1) _ hSS (fun a ha => by
        obtain ⟨⟨x, hx, ex⟩, q2⟩ := (hMm (ud c cs (P i) a)).mp ⟨a, ha, rfl⟩
        exact ⟨⟨x, by omega, ex⟩, q2⟩)
      rw [if_neg (show ¬ iz 1 = 0 by decide), ix_gd hb (by omega), iz_cn (by omega), g3, y120, ix_m, y3, ix_m, ix_a]
      unfold cut
      dsimp only
      rw [y1, ix_a, y2, ix_a, ix_a, ix_gd (by omega) (by omega), ix_gd (by omega) (by omega), ix_gd (by omega) (by omega), ix_gd (by omega) (by omega), iz_cn (by omega), iz_cn (by omega), iz_cn (by omega), iz_cn (by omega), px_i, py_i, pz_i]
      refine ih fuel (i + 1) (cs + 1) (ud c cs (P i)) _ _ _ _ _ (by omega) (by omega) ?_ (fun a ha => ?_) hSS hMm (fun x hx => ?_) (fun x hx => ?_)
      · unfold upd; rw [if_pos rfl]
      · unfold upd
        by_cases ca : a = cs
        · rw [ca, ud_s]
          refine ⟨?_, ?_, ?_⟩
          · rw [if_neg (by omega), if_neg (by omega), if_pos rfl]
          · rw [if_neg (by omega), if_pos rfl]
          · rw [if_pos rfl]
        · obtain ⟨q1, q2, q3⟩ := g4 a (by omega)
          rw [ud_n c _ ca]
          refine ⟨?_, ?_, ?_⟩
          · rw [if_neg (by omega), if_neg (by omega), if_neg (by omega)]; exact q1
          · rw [if_neg (by omega), if_neg (by omega), if_neg (by omega)]; exact q2
          · rw [if_neg (by omega), if_neg (by omega), if_neg (by omega)]; exact q3
      · unfold upd; rw [if_neg hx]; exact g7 x hx
      · unfold upd; rw [if_neg (by omega), if_neg (by omega), if_neg (by omega)]; exact g8 x hx
    · have : r = 0 := by
        rcases k2 with q | q
        · exact q
        · exact (cc (k3.mp q)).elim
      subst this
      rw [if_pos (show iz 0 = 0 from rfl)]
      refine ih fuel (i + 1) cs c CO CR _ _ _ (by omega) (by omega) g3 g4 g5 (fun v => ?_) g7 g8
      rw [g6 v, ex v]
      constructor
      · rintro ⟨a, b'⟩
        exact ⟨Or.inl a, b'⟩
      · rintro ⟨a | a, b'⟩
        · exact ⟨a, b'⟩
        · rw [← a] at cc; exact (cc b').elim
/-- what the reference holds of body b -/
def RBody (S : V3 → Prop) (b f : Nat) (N : V3) (cs : Nat) (c : Nat → V3) (ss : Nat) (s : Nat → V3) (e : Nat → Int) (many : Int32) (FI CO CR SI' SR MO BO : Nat → Int32) : Prop :=
  FD S f N ∧ SS cs c ∧ (∀ v, Mm cs c v ↔ Cn S f N v) ∧ SI (Sd S f N) ss s e ∧ (∀ n e', Sd S f N n e' → Mm ss s n) ∧ FI b = iz (f : Int) ∧ CO b = iz (cs : Int) ∧ RC CR b cs c ∧ SI' b = iz (ss : Int) ∧ Rw SR b ss s e ∧ MO b = many ∧ (f = 1 ∨ f = 2 → BR BO b N) ∧ (f = 2 → ∃ p0, S p0 ∧ BO (4 * b + 3) = iz (d3 N p0))
theorem one_tc {S : V3 → Prop} {N : V3} {ss : Nat} {s : Nat → V3} {e : Nat → Int} (hf : FD S 1 N) (h : SI (Sd S 1 N) ss s e) {p : V3} (hp : S p) : tc s e p ss ≤ 1 := by
  refine Classical.byContradiction fun hn => ?_
  obtain ⟨i, j, hi, hj, o1, o2⟩ := (tc2 s e p ss).mp (by omega)
  rcases hf with ⟨c, _⟩ | ⟨_, g1, g2, g3, x, y, hx, hy, nxy⟩ | ⟨c, _⟩ | ⟨c, _⟩
  · omega
  · rw [Sd_f.1] at h
    obtain ⟨u1, v1, _⟩ := h.2 i (by omega)
    obtain ⟨u2, v2, _⟩ := h.2 j hj
    have ne : s i ≠ s j := fun q => by have := SS_ne h.1 (by omega) hj q; omega
    have flat : ∀ z, S z → d3 N z = d3 N p := fun z hz => by
      have a := v1 z hz
      have b := v2 z hz
      rcases u1 with u1 | u1 <;> rcases u2 with u2 | u2
      · exact (ne (by rw [u1, u2])).elim
      · rw [u1] at a o1; rw [u2] at b o2; rw [d3_ng] at b o2; omega
      · rw [u1] at a o1; rw [u2] at b o2; rw [d3_ng] at a o1; omega
      · exact (ne (by rw [u1, u2])).elim
    have k0 := g3 x y hx hy
    obtain ⟨k, kn, ek⟩ := par_of g1 (fun h => nxy (sb3_0.mp h).symm) k0
    have : d3 N (sb3 y x) = k * d3 N N := by rw [ek, d3_comm, d3_sm]
    rw [d3_sb, flat x hx, flat y hy] at this
    have : d3 N N = 0 := by
      have h2 : k * d3 N N = 0 := by omega
      exact (Int.mul_eq_zero.mp h2).resolve_left kn
    exact prim_0 g1 (sq_z this)
  · omega
  · omega
theorem made_i {n : Nat} {P : Nat → V3} (hn : n ≤ 140) (hn1 : 1 ≤ n) (hr : ∀ i, i < n → rc3 (P i)) (hq : SS n P) {b : Nat} (hb : b < 8) (hB : ∀ f N, FD (Mm n P) f N → ∀ m t', SS m t' → (∀ i, i < m → ∃ e, Sd (Mm n P) f N (t' i) e) → m ≤ 80) (hC : ∀ f N, FD (Mm n P) f N → ∀ m t', SS m t' → (∀ i, i < m → Cn (Mm n P) f N (t' i)) → m ≤ 40) (sx sy sw : Int32) (FI CO CR SI0 SR MO BO : Nat → Int32) (many : Int32) : ∃ (f : Nat) (N : V3) (cs : Nat) (c : Nat → V3) (ss : Nat) (s : Nat → V3) (e : Nat → Int) (sx' sy' sw' : Int32) (FI' CO' CR' SI' SR' MO' BO' : Nat → Int32), fX9_made (iz (b : Int)) (iz (n : Int)) sx sy sw FI CO CR SI0 SR MO BO (px P) (py P) (pz P) many = some (iz (b : Int), iz ((b + 1 : Nat) : Int), sx', sy', sw', FI', CO', CR', SI', SR', MO', BO') ∧ RBody (Mm n P) b f N cs c ss s e many FI' CO' CR' SI' SR' MO' BO' ∧ (∀ x, x ≠ b → FI' x = FI x ∧ CO' x = CO x ∧ SI' x = SI0 x ∧ MO' x = MO x) ∧ (∀ x, (x < 120 * b ∨ 120 * b + 120 ≤ x) → CR' x = CR x) ∧ (∀ x, (x < 360 * b ∨ 360 * b + 360 ≤ x) → SR' x = SR x) ∧ (∀ x, (x < 4 * b ∨ 4 * b + 4 ≤ x) → BO' x = BO x) := by
  obtain ⟨f, N, sx1, sy1, sw1, BO1, e1, hfd, hNb, hBR, hBe, hBf⟩ := filled_i hn hn1 hr hq hb BO sx sy sw
  have hr' : ∀ p, Mm n P p → rc3 p := fun p ⟨i, hi, ei⟩ => by rw [← ei]; exact hr i hi
  have f3 : f ≤ 3 := by rcases hfd with ⟨c, _⟩ | ⟨c, _⟩ | ⟨c, _⟩ | ⟨c, _⟩ <;> omega
  have hF : upd FI b (iz (f : Int)) b = iz (f : Int) := by unfold upd; rw [if_pos rfl]
  obtain ⟨SI2, SR2, ss, s, e, sx2, sy2, sw2, e2, hRS, hall⟩ := rsides_i hn hn1 hr hq hfd hNb (hB f N hfd) hb (upd FI b (iz (f : Int))) CO CR MO BO1 hF (fun h => hBR (Or.inr h)) SI0 SR many (iz (b : Int)) sx1 sy1 sw1
  obtain ⟨r1, r2, r3, r4, r5⟩ := hRS
  have hss : ss ≤ 80 := hB f N hfd ss s r3.1 (fun i hi => ⟨_, r3.2 i hi⟩)
  have hsb : ∀ i, i < ss → bdv 4000 (s i) ∧ -100000 ≤ e i ∧ e i ≤ 100000 := fun i hi => by
    have h1 := r3.2 i hi
    have h2 := sd_bd hr' hfd hNb h1
    obtain ⟨p', hp', ep'⟩ := (Sd_sup h1).2
    refine ⟨h2, ?_⟩
    rw [← ep']
    have := d3_bd2 h2 (rc_bdv (hr' p' hp'))
    omega
  have hct : ∀ v, (Mm n P v ∧ f ≤ tc s e v ss) ↔ Cn (Mm n P) f N v := Cn_tc f3 r3 hall
  obtain ⟨cs, c, CO', CR', sx', sy', sw', e3, m1, m2, m3, m4, m5, m6⟩ := made_c (MO := MO) (BO := BO1) (CO0 := CO) (CR0 := CR) hn hr hq hb f3 hss hF r1 r2 hsb (fun h i hi => by
    subst h
    have h1 := r3.2 i hi
    rw [Sd_f.2.2] at h1
    exact sd3_bd hr' h1) (fun h => by
    subst h
    rcases Nat.eq_zero_or_pos ss with c | c
    · exact c
    · rcases r3.2 0 c with ⟨g, _⟩ | ⟨g, _⟩ | ⟨g, _⟩ <;> omega) (fun h p hp => by subst h; exact one_tc hfd r3 ⟨p, hp, rfl⟩) (fun h p hp x y z hx hy hz o1 o2 o3' => by
    subst h
    rcases hfd with ⟨c, _⟩ | ⟨c, _⟩ | ⟨c, _⟩ | ⟨_, a1, a2, a3, a4, ha1, ha2, ha3, ha4, hdet⟩
    · omega
    · omega
    · omega
    · rw [Sd_f.2.2] at r3
      have ne : ∀ i j, i < j → j < ss → s i ≠ s j := fun i j hij hj h => by have := SS_ne r3.1 (by omega) hj h; omega
      exact three_ind (NF_det ha1 ha2 ha3 ha4 hdet) (r3.2 x (by omega)) (r3.2 y (by omega)) (r3.2 z hz) o1 o2 o3' (ne x y hx (by omega)) (ne x z (by omega) hz) (ne y z hy hz)) (fun m t ht hh => hC f N hfd m t ht (fun i hi => (hct _).mp (hh i hi))) many (iz (b : Int)) n FU 0 0 (fun _ => o3) (upd CO b 0) CR sx2 sy2 sw2 (by omega) (by unfold FU; omega) (by unfold upd; rw [if_pos rfl]; rfl) (fun i hi => by omega) (fun i j _ hj => by omega) (fun v => ⟨fun ⟨i, hi, _⟩ => by omega, fun ⟨⟨i, hi, _⟩, _⟩ => by omega⟩) (fun x hx => by unfold upd; rw [if_neg hx]) (fun x _ => rfl)
  refine ⟨f, N, cs, c, ss, s, e, sx', sy', sw', upd FI b (iz (f : Int)), CO', CR', SI2, SR2, upd MO b many, BO1, ?_, ⟨hfd, m3, fun v => (m4 v).trans (hct v), r3, hall, hF, m1, m2, r1, r2, by unfold upd; rw [if_pos rfl], hBR, fun h => ⟨P 0, ⟨0, by omega, rfl⟩, hBe h⟩⟩, fun x hx => ⟨by unfold upd; rw [if_neg hx], m5 x hx, r4 x hx, by unfold upd; rw [if_neg hx]⟩, m6, r5, hBf⟩
  unfold fX9_made
  rw [e1, bd_some, ix_gd hb (by omega), iz_cn (by omega)]
  refine e2.trans ?_
  unfold JX9_made_324
  rw [ix_gd hb (by omega), iz_cn (by omega)]
  refine Eq.trans e3 ?_
  rw [ix_s]
