/-! the reference's meetings: unlike, an end -/
/-- slot b holds this net, and is the one in use -/
def MS (b : Nat) (o : Ob) (K : Kd) (w : Wr) (r : Nat) : Prop := oV o 4 = jI b ∧ RMk b o K ∧ RMw b o w ∧ oA o 3 b = jI r
/-- scratch rows as they were -/
def Sc (o o' : Ob) : Prop := ∀ k, 13 ≤ k → oA o' k = oA o k
theorem mp3 (a : Nat) : (3 : Int32) * jI a = jI (mp (a, 0)) := by
  rw [j_3, jI_mul]
  unfold mp
  rw [if_neg (by simp only; omega)]
  rfl
theorem mp31 (a j : Nat) (hj : j < 2) : ((3 : Int32) * jI a + (1 : Int32)) + jI j = jI (mp (a, 1 + j)) := by
  rw [j_3, j_1, jI_mul, jI_add, jI_add]
  unfold mp
  rw [if_neg (by simp only; omega)]
  congr 1
  simp only
  omega
section MN
variable {b : Nat} {o : Ob} {K : Kd} {w : Wr} {r : Nat}
theorem MS_vanish (hb : b < 4) (h : MS b o K w r) {n : Nat} (hn : n < 180) : ∃ o', FX7_vanish (jI n) o = some o' ∧ MS b o' (ku K n none) (w3 n w) r ∧ Fm b o o' ∧ Sc o o' := by
  obtain ⟨o', h1, h2, h3, h4, h5⟩ := m_vanish hb h.1 h.2.1 h.2.2.1 hn
  exact ⟨o', h1, ⟨(h4.2.2.2.2.2.1 4).trans h.1, h2, h3, by rw [h5 3 (by omega)]; exact h.2.2.2⟩, h4, fun k hk => h5 k (by omega)⟩
theorem MS_made (hb : b < 4) (h : MS b o K w r) {n0 k : Nat} (hn : n0 < 180) (hl : lf K n0) (hk : k ≤ 3) : ∃ o', FX7_made (jI k) o = some (jI n0, o') ∧ MS b o' (ku K n0 (some k)) w r ∧ Fm b o o' ∧ Sc o o' := by
  obtain ⟨h1, h2⟩ := m_made hb h.1 h.2.1 hn hl hk
  refine ⟨_, h1, ⟨h.1, h2, RMw_k0 h.2.2.1 (by omega) (by omega), by rw [oA_sA, if_neg (by omega)]; exact h.2.2.2⟩, Fm_k0 hn, fun k hk => ?_⟩
  funext i
  rw [oA_sA, if_neg (by omega)]
theorem MS_wire (hb : b < 4) (h : MS b o K w r) {p q : Port} (hp : vm p) (hq : vm q) (hpq : p ≠ q) : ∃ o', FX7_wire (jI (mp p)) (jI (mp q)) o = some o' ∧ MS b o' K (wl p q w) r ∧ Fm b o o' ∧ Sc o o' := by
  refine ⟨_, m_wire hb h.1 hp hq, ⟨by rw [ms_v, ms_v]; exact h.1, RMk_ms (RMk_ms h.2.1 _ _) _ _, RMw_wl h.2.2.1 hp hq hpq, by rw [ms_o (by omega) (by omega), ms_o (by omega) (by omega)]; exact h.2.2.2⟩, Fm_tr (Fm_ms hp) (Fm_ms hq), fun k hk => ?_⟩
  rw [ms_o (by omega) (by omega), ms_o (by omega) (by omega)]
theorem MS_sc (h : MS b o K w r) {k i : Nat} {v : Int32} (hk : 13 ≤ k) : MS b (sA o k i v) K w r := ⟨h.1, RMk_k h.2.1 (by omega), RMw_k0 h.2.2.1 (by omega) (by omega), by rw [oA_sA, if_neg (by omega)]; exact h.2.2.2⟩
theorem Sc_tr {o o' o'' : Ob} (h : Sc o o') (h' : Sc o' o'') : Sc o o'' := fun k hk => (h' k hk).trans (h k hk)
/-- inside, by ports -/
theorem inn_val {x y : Nat} (hx : x < 180) (hy : y < 180) {q : Port} (hq : vm q) (hxy : x ≠ y) : (∀ e, e < 4 → q = PP x y e → inn (jI (mp q)) (fun e => jI (mp (PP x y e))) 4 = jI e) ∧ ((∀ e, e < 4 → q ≠ PP x y e) → inn (jI (mp q)) (fun e => jI (mp (PP x y e))) 4 = jI (-1)) := by
  have hl := mp_lt hq
  have ne1 : jI (mp q : Int) ≠ jI (-1) := by rw [Ne, jI_eq (by omega) (by omega) (by omega) (by omega)]; omega
  have eqv : ∀ e, (jI (mp q : Int) = jI (mp (PP x y e) : Int)) ↔ q = PP x y e := by
    intro e
    have hv := PP_vm (k := e) hx hy
    have hl2 := mp_lt hv
    rw [jI_eq (by omega) (by omega) (by omega) (by omega)]
    exact ⟨fun z => mp_inj hq hv (by omega), fun z => by rw [z]⟩
  have dis : ∀ e e', e < 4 → e' < 4 → PP x y e = PP x y e' → e = e' := by
    intro e e' h1 h2 h3
    unfold PP at h3
    have h4 := congrArg Prod.fst h3
    have h5 := congrArg Prod.snd h3
    simp only at h4 h5
    by_cases c1 : e < 2 <;> by_cases c2 : e' < 2
    · omega
    · rw [if_pos c1, if_neg c2] at h4; exact absurd h4 hxy
    · rw [if_neg c1, if_pos c2] at h4; exact absurd h4.symm hxy
    · omega
  refine ⟨fun e he hqe => ?_, fun hno => ?_⟩
  · simp only [inn, eqv]
    have nx : ∀ e', e' < 4 → e' ≠ e → ¬ (q = PP x y e' ∧ jI (mp q : Int) ≠ jI (-1)) := fun e' h1 h2 z => h2 (dis _ _ h1 he (z.1.symm.trans hqe))
    rcases (show e = 0 ∨ e = 1 ∨ e = 2 ∨ e = 3 by omega) with rfl | rfl | rfl | rfl
    · rw [if_neg (nx 3 (by omega) (by omega)), if_neg (nx 2 (by omega) (by omega)), if_neg (nx 1 (by omega) (by omega)), if_pos ⟨hqe, ne1⟩]
    · rw [if_neg (nx 3 (by omega) (by omega)), if_neg (nx 2 (by omega) (by omega)), if_pos ⟨hqe, ne1⟩]
    · rw [if_neg (nx 3 (by omega) (by omega)), if_pos ⟨hqe, ne1⟩]
    · rw [if_pos ⟨hqe, ne1⟩]
  · simp only [inn, eqv]
    rw [if_neg (fun z => hno 3 (by omega) z.1), if_neg (fun z => hno 2 (by omega) z.1), if_neg (fun z => hno 1 (by omega) z.1), if_neg (fun z => hno 0 (by omega) z.1)]
end MN
/-- where a wire's end goes, when four ends move -/
def f4 (P0 P1 P2 P3 H0 H1 H2 H3 s : Port) : Port := if s = P0 then H0 else if s = P1 then H1 else if s = P2 then H2 else if s = P3 then H3 else s
theorem four_wires {v u : Wr} (h : Mt v) {P0 P1 P2 P3 A0 A1 A2 A3 H0 H1 H2 H3 : Port} (a0 : v P0 = some A0) (a1 : v P1 = some A1) (a2 : v P2 = some A2) (a3 : v P3 = some A3) (n0 : v H0 = none) (n1 : v H1 = none) (n2 : v H2 = none) (n3 : v H3 = none)
    (d01 : P0 ≠ P1) (d02 : P0 ≠ P2) (d03 : P0 ≠ P3) (d12 : P1 ≠ P2) (d13 : P1 ≠ P3) (d23 : P2 ≠ P3) (e01 : H0 ≠ H1) (e02 : H0 ≠ H2) (e03 : H0 ≠ H3) (e12 : H1 ≠ H2) (e13 : H1 ≠ H3) (e23 : H2 ≠ H3)
    (hu : ∀ r, u r = if r = P0 ∨ r = P1 ∨ r = P2 ∨ r = P3 then none else v r) :
    wl H3 (f4 P0 P1 P2 P3 H0 H1 H2 H3 A3) (wl H2 (f4 P0 P1 P2 P3 H0 H1 H2 H3 A2) (wl H1 (f4 P0 P1 P2 P3 H0 H1 H2 H3 A1) (wl H0 (f4 P0 P1 P2 P3 H0 H1 H2 H3 A0) u))) = wm P1 H1 (wm P0 H0 (wm P3 H3 (wm P2 H2 v))) := by
  funext r
  rw [four_moves (Q0 := P0) (Q1 := P0) (Q2 := P0) (Q3 := P0) h a0 a1 a2 a3 n0 n1 n2 n3 d01 d02 d03 d12 d13 d23 e01 e02 e03 e12 e13 e23 r]
  have b0 := h _ _ a0
  have b1 := h _ _ a1
  have b2 := h _ _ a2
  have b3 := h _ _ a3
  have hr := hu r
  unfold wl f4
  cases hv : v r with
  | none => grind (splits := 60)
  | some s =>
    have hs := h _ _ hv
    grind (splits := 60)
theorem two_wires {v u : Wr} (h : Mt v) {P0 P1 A0 A1 H0 H1 : Port} (a0 : v P0 = some A0) (a1 : v P1 = some A1) (n0 : v H0 = none) (n1 : v H1 = none) (d01 : P0 ≠ P1) (e01 : H0 ≠ H1) (hu : ∀ r, u r = if r = P0 ∨ r = P1 then none else v r) :
    (A0 ≠ P1 → wl H1 A1 (wl H0 A0 u) = wm P1 H1 (wm P0 H0 v)) ∧ (A0 = P1 → wl H0 H1 u = wm P1 H1 (wm P0 H0 v)) := by
  have b0 := h _ _ a0
  have b1 := h _ _ a1
  have m1 := Mt_wm h a0 n0
  have q1 := fun r => wm_eq h a0 n0 r
  generalize wm P0 H0 v = v1 at m1 q1 ⊢
  have c1 : v1 P1 ≠ none := by grind
  have c2 : v1 H1 = none := by grind
  obtain ⟨B1, hB1⟩ := some_of c1
  have q2 := fun r => wm_eq m1 hB1 c2 r
  refine ⟨fun hA => ?_, fun hA => ?_⟩
  · funext r
    have hr := hu r
    unfold wl
    cases hv : v r with
    | none => grind (splits := 40)
    | some s =>
      have hs := h _ _ hv
      grind (splits := 40)
  · funext r
    have hr := hu r
    unfold wl
    cases hv : v r with
    | none => grind (splits := 40)
    | some s =>
      have hs := h _ _ hv
      grind (splits := 40)
theorem w33 (x y : Nat) (w : Wr) (r : Port) : w3 y (w3 x w) r = if r.2 < 3 ∧ (r.1 = x ∨ r.1 = y) then none else w r := by
  obtain ⟨n, s⟩ := r
  unfold w3 wv
  simp only [Prod.mk.injEq]
  grind
theorem wA0_eq (x y : Nat) (w : Wr) (r : Port) : wA0 x y w r = if r.2 = 0 ∧ (r.1 = x ∨ r.1 = y) then none else w r := by
  obtain ⟨n, s⟩ := r
  unfold wA0 wv
  simp only [Prod.mk.injEq]
  grind
theorem MS_layPorts {b : Nat} {o : Ob} {K : Kd} {w : Wr} {r : Nat} (hb : b < 4) (h : MS b o K w r) {x y : Nat} (hx : x < 180) (hy : y < 180) (hxy : x ≠ y) : ∃ u, FX7_layPorts (jI x) (jI y) o = some u ∧ MS b u K w r ∧ Fm b o u ∧ (∀ k, k < 4 → oA u 16 k = 0) ∧ ∀ k q, k < 4 → w (PP x y k) = some q → oA u 14 k = jI (mp q) ∧ (∀ e, e < 4 → q = PP x y e → oA u 15 k = jI e) ∧ ((∀ e, e < 4 → q ≠ PP x y e) → oA u 15 k = jI (-1)) := by
  obtain ⟨u, h1, h2, h3, h4, h5, h6⟩ := m_layPorts hb h.1 hx hy
  refine ⟨u, h1, ⟨(h3.2.2.2.2.2.1 4).trans h.1, ⟨fun n hn => by rw [h5 0 (by omega)]; exact h.2.1.1 n hn, h.2.1.2⟩, ⟨fun p q hp => by rw [h4]; exact h.2.2.1.1 p q hp, fun i hi hp => by rw [h5 2 (by omega)]; exact h.2.2.1.2 i hi hp⟩, by rw [h5 3 (by omega)]; exact h.2.2.2⟩, h3, fun k hk => (h2 k hk).2.1, fun k q hk hq => ?_⟩
  obtain ⟨v1, v2, v3⟩ := h.2.2.1.1 _ _ hq
  obtain ⟨c1, c2, c3⟩ := h2 k hk
  rw [v3] at c1 c3
  obtain ⟨i1, i2⟩ := inn_val hx hy v2 hxy
  exact ⟨c1, fun e he hqe => c3.trans (i1 e he hqe), fun hno => c3.trans (i2 hno)⟩
theorem ku_comm {K : Kd} {x y : Nat} (u v : Option Nat) (h : x ≠ y) : ku (ku K x u) y v = ku (ku K y v) x u := by
  funext n
  unfold ku
  by_cases c1 : n = x
  · rw [if_neg (by omega), if_pos c1, if_pos c1]
  · by_cases c2 : n = y
    · rw [if_pos c2, if_neg c1, if_pos c2]
    · rw [if_neg c2, if_neg c1, if_neg c1, if_neg c2]
