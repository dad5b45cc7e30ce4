/-! the reference's meetAlike -/
def wls (A : Nat → Port) : List (Nat × Nat) → Wr → Wr
  | [], w => w
  | kj :: l, w => wls A l (wl (A kj.1) (A kj.2) w)
def alW (cr : Nat) (ins : Nat → Int) : Nat → Nat → (Nat → Nat) → Option (List (Nat × Nat) × (Nat → Nat))
  | 0, _, d => some ([], d)
  | f + 1, k, d => if d k = 0 then (if ins k = -1 then (match ov cr ins k d with
    | none => none
    | some (j, d') => if j = k then none else (match alW cr ins f (k + 1) d' with
      | none => none
      | some (l, d'') => some ((k, j) :: l, d''))) else alW cr ins f (k + 1) d) else alW cr ins f (k + 1) d
def alR (cr : Nat) (ins : Nat → Int) : Nat → Nat → (Nat → Nat) → Option Nat
  | 0, _, _ => some 0
  | f + 1, k, d => if d k = 0 then (match ov cr ins k d with
    | none => none
    | some (_, d') => (match alR cr ins f (k + 1) d' with
      | none => none
      | some n => some (n + 1))) else alR cr ins f (k + 1) d
def alG (cr : Nat) (ins : Nat → Int) : Option (List (Nat × Nat) × Nat) := match alW cr ins 4 0 (fun _ => 0) with
  | none => none
  | some (l, d) => match alR cr ins 4 0 d with
    | none => none
    | some n => some (l, n)
def in4 (a b c d : Int) : Nat → Int := fun k => if k = 0 then a else if k = 1 then b else if k = 2 then c else d
section MA
variable {b : Nat}
theorem MS_D16 {o o' : Ob} {K : Kd} {w : Wr} {r : Nat} (h : MS b o K w r) (hd : D16 o o') : MS b o' K w r ∧ Fm b o o' := by
  refine ⟨⟨(hd.2.1 4).trans h.1, ⟨fun n hn => by rw [hd.1 0 (by omega)]; exact h.2.1.1 n hn, h.2.1.2⟩, ⟨fun p q hp => ?_, fun i hi hp => by rw [hd.1 2 (by omega)]; exact h.2.2.1.2 i hi hp⟩, by rw [hd.1 3 (by omega)]; exact h.2.2.2⟩, ⟨fun _ _ => by rw [hd.1 0 (by omega)], fun _ _ => by rw [hd.1 1 (by omega)], fun _ _ => by rw [hd.1 2 (by omega)], fun _ _ => by rw [hd.1 3 (by omega)], fun k h1 h2 => hd.1 k (by omega), hd.2.1, hd.2.2⟩⟩
  have : ma b o' p = ma b o p := by unfold ma; rw [hd.1 1 (by omega), hd.1 2 (by omega)]
  rw [this]
  exact h.2.2.1.1 p q hp
theorem MS_alW (hb : b < 4) {cr : Nat} (hc : cr < 2) {ins : Nat → Int} {A : Nat → Port} (hv : ∀ k, k < 4 → vm (A k)) (hi : ∀ k j, k < 4 → j < 4 → A k = A j → k = j) (E : Ob → Option Ob) : ∀ (f F k : Nat) (d : Nat → Nat) (o : Ob) (K : Kd) (w : Wr) (r : Nat) (l : List (Nat × Nat)) (d' : Nat → Nat), alW cr ins f k d = some (l, d') → k + f = 4 → f < F → MS b o K w r → Al o ins d → (∀ k, k < 4 → oA o 14 k = jI (mp (A k))) → ∃ o', LX7_meetAlike_49 (jI cr) 0 E F (jI k) o = E o' ∧ MS b o' K (wls A l w) r ∧ Al o' ins d' ∧ Fm b o o' := by
  intro f
  induction f with
  | zero =>
    intro F k d o K w r l d' h hk hF hm hA h14
    cases h
    obtain ⟨F, rfl⟩ : ∃ F', F = F' + 1 := ⟨F - 1, by omega⟩
    refine ⟨o, ?_, hm, hA, Fm_rf b o⟩
    rw [LX7_meetAlike_49.eq_2, if_pos (by rw [j_4, jI_le (by omega) (by omega) (by omega) (by omega)]; omega)]
  | succ f ih =>
    intro F k d o K w r l d' h hk hF hm hA h14
    obtain ⟨F, rfl⟩ : ∃ F', F = F' + 1 := ⟨F - 1, by omega⟩
    have kc : (jI (k : Int)).toNatClampNeg = k := by rw [jI_cl (by omega) (by omega), Int.toNat_natCast]
    have nx : jI (k : Int) + 1 = jI ((k + 1 : Nat)) := jI_p1 k
    obtain ⟨k1, k2⟩ := hA.2 k (by omega)
    obtain ⟨i1, i2, i3⟩ := hA.1 k (by omega)
    rw [LX7_meetAlike_49.eq_2, if_neg (by rw [j_4, jI_le (by omega) (by omega) (by omega) (by omega)]; omega), if_pos rfl, if_pos (by rw [jI_inb (by omega) (by omega)]; omega), kc, k1, i1, nx]
    unfold alW at h
    by_cases c1 : d k = 0
    · rw [if_pos c1] at h
      rw [if_pos (by rw [c1]; rfl)]
      by_cases c2 : ins k = -1
      · rw [if_pos c2] at h
        rw [if_pos (by rw [c2]; rfl)]
        cases hov : ov cr ins k d with
        | none => rw [hov] at h; cases h
        | some jd =>
          obtain ⟨j, d1⟩ := jd
          rw [hov] at h
          simp only at h
          by_cases c3 : j = k
          · rw [if_pos c3] at h; cases h
          · rw [if_neg c3] at h
            cases hal : alW cr ins f (k + 1) d1 with
            | none => rw [hal] at h; cases h
            | some ld =>
              obtain ⟨l1, d2⟩ := ld
              rw [hal] at h
              simp only [Option.some.injEq, Prod.mk.injEq] at h
              obtain ⟨h1, h2⟩ := h
              subst h1
              subst h2
              obtain ⟨o1, e1, A1, D1, j4⟩ := a_ov hc hov (by omega) hA
              obtain ⟨m1, F1⟩ := MS_D16 hm D1
              have jc : (jI (j : Int)).toNatClampNeg = j := by rw [jI_cl (by omega) (by omega), Int.toNat_natCast]
              obtain ⟨o2, e2, m2, F2, S2⟩ := MS_wire hb m1 (hv k (by omega)) (hv j j4) (fun z => c3 (hi k j (by omega) j4 z).symm)
              have A2 : Al o2 ins d1 := ⟨fun q hq => by rw [S2 15 (by omega)]; exact A1.1 q hq, fun q hq => by rw [S2 16 (by omega)]; exact A1.2 q hq⟩
              obtain ⟨o3, e3, m3, A3, F3⟩ := ih F (k + 1) d1 o2 K _ r l1 d2 hal (by omega) (by omega) m2 A2 (fun q hq => by rw [S2 14 (by omega), D1.1 14 (by omega)]; exact h14 q hq)
              refine ⟨o3, ?_, m3, A3, Fm_tr F1 (Fm_tr F2 F3)⟩
              rw [e1, b2_some, if_pos (by rw [jI_inb (by omega) (by omega)]; omega), jc, D1.1 14 (by omega), h14 k (by omega), h14 j j4, e2, b1_some, lT_eq]
              exact e3
      · rw [if_neg c2] at h
        rw [if_neg (by rw [j_m1, jI_eq (by omega) (by omega) (by omega) (by omega)]; omega), lT_eq]
        exact ih F (k + 1) d o K w r l d' h (by omega) (by omega) hm hA h14
    · rw [if_neg c1] at h
      rw [if_neg (by rw [j_0, jI_eq (by omega) (by omega) (by omega) (by omega)]; omega), lT_eq]
      exact ih F (k + 1) d o K w r l d' h (by omega) (by omega) hm hA h14
theorem MS_alR (hb : b < 4) {cr : Nat} (hc : cr < 2) {ins : Nat → Int} : ∀ (f F k : Nat) (d : Nat → Nat) (o : Ob) (K : Kd) (w : Wr) (r n : Nat), alR cr ins f k d = some n → k + f = 4 → f < F → MS b o K w r → Al o ins d → ∃ o', LX7_meetAlike_117 (jI cr) 0 F (jI k) o = some o' ∧ MS b o' K w (r + n) ∧ Fm b o o' := by
  intro f
  induction f with
  | zero =>
    intro F k d o K w r n h hk hF hm hA
    cases h
    obtain ⟨F, rfl⟩ : ∃ F', F = F' + 1 := ⟨F - 1, by omega⟩
    refine ⟨o, ?_, hm, Fm_rf b o⟩
    rw [LX7_meetAlike_117.eq_2, if_pos (by rw [j_4, jI_le (by omega) (by omega) (by omega) (by omega)]; omega)]
  | succ f ih =>
    intro F k d o K w r n h hk hF hm hA
    obtain ⟨F, rfl⟩ : ∃ F', F = F' + 1 := ⟨F - 1, by omega⟩
    have kc : (jI (k : Int)).toNatClampNeg = k := by rw [jI_cl (by omega) (by omega), Int.toNat_natCast]
    have nx : jI (k : Int) + 1 = jI ((k + 1 : Nat)) := jI_p1 k
    obtain ⟨k1, k2⟩ := hA.2 k (by omega)
    rw [LX7_meetAlike_117.eq_2, if_neg (by rw [j_4, jI_le (by omega) (by omega) (by omega) (by omega)]; omega), if_pos rfl, if_pos (by rw [jI_inb (by omega) (by omega)]; omega), kc, k1, nx]
    unfold alR at h
    by_cases c1 : d k = 0
    · rw [if_pos c1] at h
      rw [if_pos (by rw [c1]; rfl)]
      cases hov : ov cr ins k d with
      | none => rw [hov] at h; cases h
      | some jd =>
        obtain ⟨j, d1⟩ := jd
        rw [hov] at h
        simp only at h
        cases hal : alR cr ins f (k + 1) d1 with
        | none => rw [hal] at h; cases h
        | some n1 =>
          rw [hal] at h
          simp only [Option.some.injEq] at h
          subst h
          obtain ⟨o1, e1, A1, D1, j4⟩ := a_ov hc hov (by omega) hA
          obtain ⟨m1, F1⟩ := MS_D16 hm D1
          have bc : (jI (b : Int)).toNatClampNeg = b := by rw [jI_cl (by omega) (by omega), Int.toNat_natCast]
          have m2 : MS b (sA o1 3 b (oA o1 3 b + 1)) K w (r + 1) := ⟨m1.1, RMk_k m1.2.1 (by omega), RMw_k0 m1.2.2.1 (by omega) (by omega), by rw [oA_sA, if_pos ⟨rfl, rfl⟩, m1.2.2.2, jI_p1]⟩
          have F2 : Fm b o1 (sA o1 3 b (oA o1 3 b + 1)) := ⟨fun j _ => by rw [oA_sA, if_neg (by omega)], fun j _ => by rw [oA_sA, if_neg (by omega)], fun j _ => by rw [oA_sA, if_neg (by omega)], fun j hj => by rw [oA_sA, if_neg (by omega)], fun k' h1 h2 => by funext j; rw [oA_sA, if_neg (by omega)], fun _ => rfl, fun _ => rfl⟩
          have A2 : Al (sA o1 3 b (oA o1 3 b + 1)) ins d1 := ⟨fun q hq => by rw [oA_sA, if_neg (by omega)]; exact A1.1 q hq, fun q hq => by rw [oA_sA, if_neg (by omega)]; exact A1.2 q hq⟩
          obtain ⟨o3, e3, m3, F3⟩ := ih F (k + 1) d1 _ K w (r + 1) n1 hal (by omega) (by omega) m2 A2
          refine ⟨o3, ?_, by rw [show r + (n1 + 1) = r + 1 + n1 from by omega]; exact m3, Fm_tr F1 (Fm_tr F2 F3)⟩
          rw [e1, b2_some, m1.1, if_pos (by rw [jI_inb (by omega) (by omega)]; omega), bc, lT_eq, lT_eq]
          exact e3
    · rw [if_neg c1] at h
      rw [if_neg (by rw [j_0, jI_eq (by omega) (by omega) (by omega) (by omega)]; omega), lT_eq]
      exact ih F (k + 1) d o K w r n h (by omega) (by omega) hm hA
end MA
/-- two fusings, place by place -/
theorem two_fuse {v : Wr} (h : Mt v) {P Q R S AP AQ AR AS : Port} (ap : v P = some AP) (aq : v Q = some AQ) (ar : v R = some AR) (as : v S = some AS) (d1 : P ≠ Q) (d2 : P ≠ R) (d3 : P ≠ S) (d4 : Q ≠ R) (d5 : Q ≠ S) (d6 : R ≠ S) : ∃ v1 BR BS, wf P Q v = v1 ∧ v1 R = some BR ∧ v1 S = some BS ∧ (∀ r, v1 r = if r = P ∨ r = Q then none else if v r = some P then some AQ else if v r = some Q then some AP else v r) ∧ ∀ r, wf R S v1 r = if r = R ∨ r = S then none else if v1 r = some R then some BS else if v1 r = some S then some BR else v1 r := by
  have q1 := fun r => wf_eq h ap aq d1 r
  have m1 := Mt_wf h ap aq d1
  have c1 : wf P Q v R ≠ none := by rw [q1]; grind
  have c2 : wf P Q v S ≠ none := by rw [q1]; grind
  obtain ⟨BR, h1⟩ := some_of c1
  obtain ⟨BS, h2⟩ := some_of c2
  exact ⟨_, BR, BS, rfl, h1, h2, q1, fun r => wf_eq m1 h1 h2 d6 r⟩
theorem alike_0_0 {v u : Wr} (h : Mt v) {P0 P1 P2 P3 A0 A1 A2 A3 : Port} (a0 : v P0 = some A0) (a1 : v P1 = some A1) (a2 : v P2 = some A2) (a3 : v P3 = some A3) (d01 : P0 ≠ P1) (d02 : P0 ≠ P2) (d03 : P0 ≠ P3) (d12 : P1 ≠ P2) (d13 : P1 ≠ P3) (d23 : P2 ≠ P3) (hu : ∀ r, u r = if r = P0 ∨ r = P1 ∨ r = P2 ∨ r = P3 then none else v r) (o00 : A0 ≠ P0) (o01 : A0 ≠ P1) (o02 : A0 ≠ P2) (o03 : A0 ≠ P3) (o10 : A1 ≠ P0) (o11 : A1 ≠ P1) (o12 : A1 ≠ P2) (o13 : A1 ≠ P3) (o20 : A2 ≠ P0) (o21 : A2 ≠ P1) (o22 : A2 ≠ P2) (o23 : A2 ≠ P3) (o30 : A3 ≠ P0) (o31 : A3 ≠ P1) (o32 : A3 ≠ P2) (o33 : A3 ≠ P3) : (wl A1 A3 (wl A0 A2 u)) = wf P1 P3 (wf P0 P2 v) ∧ ∀ r : Nat, r + 0 = rf P1 P3 (wf P0 P2 v) (rf P0 P2 v r) := by
  obtain ⟨v1, BR, BS, e1, e2, e3, e4, e5⟩ := two_fuse (P := P0) (Q := P2) (R := P1) (S := P3) h a0 a2 a1 a3 d02 d01 d03 d12.symm d23 d13
  have b0 := h _ _ a0
  have b1 := h _ _ a1
  have b2 := h _ _ a2
  have b3 := h _ _ a3
  have f1 := e4 P1
  have f2 := e4 P3
  rw [e1]
  refine ⟨?_, fun r => ?_⟩
  · funext r
    have hr := hu r
    have g1 := e4 r
    have g2 := e5 r
    clear hu e4 e5 e1
    try unfold wl
    cases hv : v r with
    | none => grind (splits := 30)
    | some s =>
      have hs := h _ _ hv
      grind (splits := 30)
  · clear hu e4 e5 e1
    unfold rf
    grind
theorem alG_0_0 : alG 0 (in4 (-1) (-1) (-1) (-1)) = some ([(0, 2), (1, 3)], 0) := by decide
theorem alike_0_1 {v u : Wr} (h : Mt v) {P0 P1 P2 P3 A0 A1 A2 A3 : Port} (a0 : v P0 = some A0) (a1 : v P1 = some A1) (a2 : v P2 = some A2) (a3 : v P3 = some A3) (d01 : P0 ≠ P1) (d02 : P0 ≠ P2) (d03 : P0 ≠ P3) (d12 : P1 ≠ P2) (d13 : P1 ≠ P3) (d23 : P2 ≠ P3) (hu : ∀ r, u r = if r = P0 ∨ r = P1 ∨ r = P2 ∨ r = P3 then none else v r) (i0 : A0 = P1) (i1 : A1 = P0) (o20 : A2 ≠ P0) (o21 : A2 ≠ P1) (o22 : A2 ≠ P2) (o23 : A2 ≠ P3) (o30 : A3 ≠ P0) (o31 : A3 ≠ P1) (o32 : A3 ≠ P2) (o33 : A3 ≠ P3) : (wl A2 A3 u) = wf P1 P3 (wf P0 P2 v) ∧ ∀ r : Nat, r + 0 = rf P1 P3 (wf P0 P2 v) (rf P0 P2 v r) := by
  obtain ⟨v1, BR, BS, e1, e2, e3, e4, e5⟩ := two_fuse (P := P0) (Q := P2) (R := P1) (S := P3) h a0 a2 a1 a3 d02 d01 d03 d12.symm d23 d13
  have b0 := h _ _ a0
  have b1 := h _ _ a1
  have b2 := h _ _ a2
  have b3 := h _ _ a3
  have f1 := e4 P1
  have f2 := e4 P3
  rw [e1]
  refine ⟨?_, fun r => ?_⟩
  · funext r
    have hr := hu r
    have g1 := e4 r
    have g2 := e5 r
    clear hu e4 e5 e1
    try unfold wl
    cases hv : v r with
    | none => grind (splits := 30)
    | some s =>
      have hs := h _ _ hv
      grind (splits := 30)
  · clear hu e4 e5 e1
    unfold rf
    grind
theorem alG_0_1 : alG 0 (in4 (1) (0) (-1) (-1)) = some ([(2, 3)], 0) := by decide
theorem alike_0_2 {v u : Wr} (h : Mt v) {P0 P1 P2 P3 A0 A1 A2 A3 : Port} (a0 : v P0 = some A0) (a1 : v P1 = some A1) (a2 : v P2 = some A2) (a3 : v P3 = some A3) (d01 : P0 ≠ P1) (d02 : P0 ≠ P2) (d03 : P0 ≠ P3) (d12 : P1 ≠ P2) (d13 : P1 ≠ P3) (d23 : P2 ≠ P3) (hu : ∀ r, u r = if r = P0 ∨ r = P1 ∨ r = P2 ∨ r = P3 then none else v r) (i0 : A0 = P1) (i1 : A1 = P0) (i2 : A2 = P3) (i3 : A3 = P2) : u = wf P1 P3 (wf P0 P2 v) ∧ ∀ r : Nat, r + 1 = rf P1 P3 (wf P0 P2 v) (rf P0 P2 v r) := by
  obtain ⟨v1, BR, BS, e1, e2, e3, e4, e5⟩ := two_fuse (P := P0) (Q := P2) (R := P1) (S := P3) h a0 a2 a1 a3 d02 d01 d03 d12.symm d23 d13
  have b0 := h _ _ a0
  have b1 := h _ _ a1
  have b2 := h _ _ a2
  have b3 := h _ _ a3
  have f1 := e4 P1
  have f2 := e4 P3
  rw [e1]
  refine ⟨?_, fun r => ?_⟩
  · funext r
    have hr := hu r
    have g1 := e4 r
    have g2 := e5 r
    clear hu e4 e5 e1
    try unfold wl
    cases hv : v r with
    | none => grind (splits := 30)
    | some s =>
      have hs := h _ _ hv
      grind (splits := 30)
  · clear hu e4 e5 e1
    unfold rf
    grind
theorem alG_0_2 : alG 0 (in4 (1) (0) (3) (2)) = some ([], 1) := by decide
theorem alike_0_3 {v u : Wr} (h : Mt v) {P0 P1 P2 P3 A0 A1 A2 A3 : Port} (a0 : v P0 = some A0) (a1 : v P1 = some A1) (a2 : v P2 = some A2) (a3 : v P3 = some A3) (d01 : P0 ≠ P1) (d02 : P0 ≠ P2) (d03 : P0 ≠ P3) (d12 : P1 ≠ P2) (d13 : P1 ≠ P3) (d23 : P2 ≠ P3) (hu : ∀ r, u r = if r = P0 ∨ r = P1 ∨ r = P2 ∨ r = P3 then none else v r) (i0 : A0 = P2) (o10 : A1 ≠ P0) (o11 : A1 ≠ P1) (o12 : A1 ≠ P2) (o13 : A1 ≠ P3) (i2 : A2 = P0) (o30 : A3 ≠ P0) (o31 : A3 ≠ P1) (o32 : A3 ≠ P2) (o33 : A3 ≠ P3) : (wl A1 A3 u) = wf P1 P3 (wf P0 P2 v) ∧ ∀ r : Nat, r + 1 = rf P1 P3 (wf P0 P2 v) (rf P0 P2 v r) := by
  obtain ⟨v1, BR, BS, e1, e2, e3, e4, e5⟩ := two_fuse (P := P0) (Q := P2) (R := P1) (S := P3) h a0 a2 a1 a3 d02 d01 d03 d12.symm d23 d13
  have b0 := h _ _ a0
  have b1 := h _ _ a1
  have b2 := h _ _ a2
  have b3 := h _ _ a3
  have f1 := e4 P1
  have f2 := e4 P3
  rw [e1]
  refine ⟨?_, fun r => ?_⟩
  · funext r
    have hr := hu r
    have g1 := e4 r
    have g2 := e5 r
    clear hu e4 e5 e1
    try unfold wl
    cases hv : v r with
    | none => grind (splits := 30)
    | some s =>
      have hs := h _ _ hv
      grind (splits := 30)
  · clear hu e4 e5 e1
    unfold rf
    grind
theorem alG_0_3 : alG 0 (in4 (2) (-1) (0) (-1)) = some ([(1, 3)], 1) := by decide
theorem alike_0_4 {v u : Wr} (h : Mt v) {P0 P1 P2 P3 A0 A1 A2 A3 : Port} (a0 : v P0 = some A0) (a1 : v P1 = some A1) (a2 : v P2 = some A2) (a3 : v P3 = some A3) (d01 : P0 ≠ P1) (d02 : P0 ≠ P2) (d03 : P0 ≠ P3) (d12 : P1 ≠ P2) (d13 : P1 ≠ P3) (d23 : P2 ≠ P3) (hu : ∀ r, u r = if r = P0 ∨ r = P1 ∨ r = P2 ∨ r = P3 then none else v r) (i0 : A0 = P2) (i1 : A1 = P3) (i2 : A2 = P0) (i3 : A3 = P1) : u = wf P1 P3 (wf P0 P2 v) ∧ ∀ r : Nat, r + 2 = rf P1 P3 (wf P0 P2 v) (rf P0 P2 v r) := by
  obtain ⟨v1, BR, BS, e1, e2, e3, e4, e5⟩ := two_fuse (P := P0) (Q := P2) (R := P1) (S := P3) h a0 a2 a1 a3 d02 d01 d03 d12.symm d23 d13
  have b0 := h _ _ a0
  have b1 := h _ _ a1
  have b2 := h _ _ a2
  have b3 := h _ _ a3
  have f1 := e4 P1
  have f2 := e4 P3
  rw [e1]
  refine ⟨?_, fun r => ?_⟩
  · funext r
    have hr := hu r
    have g1 := e4 r
    have g2 := e5 r
    clear hu e4 e5 e1
    try unfold wl
    cases hv : v r with
    | none => grind (splits := 30)
    | some s =>
      have hs := h _ _ hv
      grind (splits := 30)
  · clear hu e4 e5 e1
    unfold rf
    grind
theorem alG_0_4 : alG 0 (in4 (2) (3) (0) (1)) = some ([], 2) := by decide
theorem alike_0_5 {v u : Wr} (h : Mt v) {P0 P1 P2 P3 A0 A1 A2 A3 : Port} (a0 : v P0 = some A0) (a1 : v P1 = some A1) (a2 : v P2 = some A2) (a3 : v P3 = some A3) (d01 : P0 ≠ P1) (d02 : P0 ≠ P2) (d03 : P0 ≠ P3) (d12 : P1 ≠ P2) (d13 : P1 ≠ P3) (d23 : P2 ≠ P3) (hu : ∀ r, u r = if r = P0 ∨ r = P1 ∨ r = P2 ∨ r = P3 then none else v r) (i0 : A0 = P3) (o10 : A1 ≠ P0) (o11 : A1 ≠ P1) (o12 : A1 ≠ P2) (o13 : A1 ≠ P3) (o20 : A2 ≠ P0) (o21 : A2 ≠ P1) (o22 : A2 ≠ P2) (o23 : A2 ≠ P3) (i3 : A3 = P0) : (wl A1 A2 u) = wf P1 P3 (wf P0 P2 v) ∧ ∀ r : Nat, r + 0 = rf P1 P3 (wf P0 P2 v) (rf P0 P2 v r) := by
  obtain ⟨v1, BR, BS, e1, e2, e3, e4, e5⟩ := two_fuse (P := P0) (Q := P2) (R := P1) (S := P3) h a0 a2 a1 a3 d02 d01 d03 d12.symm d23 d13
  have b0 := h _ _ a0
  have b1 := h _ _ a1
  have b2 := h _ _ a2
  have b3 := h _ _ a3
  have f1 := e4 P1
  have f2 := e4 P3
  rw [e1]
  refine ⟨?_, fun r => ?_⟩
  · funext r
    have hr := hu r
    have g1 := e4 r
    have g2 := e5 r
    clear hu e4 e5 e1
    try unfold wl
    cases hv : v r with
    | none => grind (splits := 30)
    | some s =>
      have hs := h _ _ hv
      grind (splits := 30)
  · clear hu e4 e5 e1
    unfold rf
    grind
theorem alG_0_5 : alG 0 (in4 (3) (-1) (-1) (0)) = some ([(1, 2)], 0) := by decide
theorem alike_0_6 {v u : Wr} (h : Mt v) {P0 P1 P2 P3 A0 A1 A2 A3 : Port} (a0 : v P0 = some A0) (a1 : v P1 = some A1) (a2 : v P2 = some A2) (a3 : v P3 = some A3) (d01 : P0 ≠ P1) (d02 : P0 ≠ P2) (d03 : P0 ≠ P3) (d12 : P1 ≠ P2) (d13 : P1 ≠ P3) (d23 : P2 ≠ P3) (hu : ∀ r, u r = if r = P0 ∨ r = P1 ∨ r = P2 ∨ r = P3 then none else v r) (i0 : A0 = P3) (i1 : A1 = P2) (i2 : A2 = P1) (i3 : A3 = P0) : u = wf P1 P3 (wf P0 P2 v) ∧ ∀ r : Nat, r + 1 = rf P1 P3 (wf P0 P2 v) (rf P0 P2 v r) := by
  obtain ⟨v1, BR, BS, e1, e2, e3, e4, e5⟩ := two_fuse (P := P0) (Q := P2) (R := P1) (S := P3) h a0 a2 a1 a3 d02 d01 d03 d12.symm d23 d13
  have b0 := h _ _ a0
  have b1 := h _ _ a1
  have b2 := h _ _ a2
  have b3 := h _ _ a3
  have f1 := e4 P1
  have f2 := e4 P3
  rw [e1]
  refine ⟨?_, fun r => ?_⟩
  · funext r
    have hr := hu r
    have g1 := e4 r
    have g2 := e5 r
    clear hu e4 e5 e1
    try unfold wl
    cases hv : v r with
    | none => grind (splits := 30)
    | some s =>
      have hs := h _ _ hv
      grind (splits := 30)
  · clear hu e4 e5 e1
    unfold rf
    grind
theorem alG_0_6 : alG 0 (in4 (3) (2) (1) (0)) = some ([], 1) := by decide
theorem alike_0_7 {v u : Wr} (h : Mt v) {P0 P1 P2 P3 A0 A1 A2 A3 : Port} (a0 : v P0 = some A0) (a1 : v P1 = some A1) (a2 : v P2 = some A2) (a3 : v P3 = some A3) (d01 : P0 ≠ P1) (d02 : P0 ≠ P2) (d03 : P0 ≠ P3) (d12 : P1 ≠ P2) (d13 : P1 ≠ P3) (d23 : P2 ≠ P3) (hu : ∀ r, u r = if r = P0 ∨ r = P1 ∨ r = P2 ∨ r = P3 then none else v r) (o00 : A0 ≠ P0) (o01 : A0 ≠ P1) (o02 : A0 ≠ P2) (o03 : A0 ≠ P3) (i1 : A1 = P2) (i2 : A2 = P1) (o30 : A3 ≠ P0) (o31 : A3 ≠ P1) (o32 : A3 ≠ P2) (o33 : A3 ≠ P3) : (wl A0 A3 u) = wf P1 P3 (wf P0 P2 v) ∧ ∀ r : Nat, r + 0 = rf P1 P3 (wf P0 P2 v) (rf P0 P2 v r) := by
  obtain ⟨v1, BR, BS, e1, e2, e3, e4, e5⟩ := two_fuse (P := P0) (Q := P2) (R := P1) (S := P3) h a0 a2 a1 a3 d02 d01 d03 d12.symm d23 d13
  have b0 := h _ _ a0
  have b1 := h _ _ a1
  have b2 := h _ _ a2
  have b3 := h _ _ a3
  have f1 := e4 P1
  have f2 := e4 P3
  rw [e1]
  refine ⟨?_, fun r => ?_⟩
  · funext r
    have hr := hu r
    have g1 := e4 r
    have g2 := e5 r
    clear hu e4 e5 e1
    try unfold wl
    cases hv : v r with
    | none => grind (splits := 30)
    | some s =>
      have hs := h _ _ hv
      grind (splits := 30)
  · clear hu e4 e5 e1
    unfold rf
    grind
theorem alG_0_7 : alG 0 (in4 (-1) (2) (1) (-1)) = some ([(0, 3)], 0) := by decide
theorem alike_0_8 {v u : Wr} (h : Mt v) {P0 P1 P2 P3 A0 A1 A2 A3 : Port} (a0 : v P0 = some A0) (a1 : v P1 = some A1) (a2 : v P2 = some A2) (a3 : v P3 = some A3) (d01 : P0 ≠ P1) (d02 : P0 ≠ P2) (d03 : P0 ≠ P3) (d12 : P1 ≠ P2) (d13 : P1 ≠ P3) (d23 : P2 ≠ P3) (hu : ∀ r, u r = if r = P0 ∨ r = P1 ∨ r = P2 ∨ r = P3 then none else v r) (o00 : A0 ≠ P0) (o01 : A0 ≠ P1) (o02 : A0 ≠ P2) (o03 : A0 ≠ P3) (i1 : A1 = P3) (o20 : A2 ≠ P0) (o21 : A2 ≠ P1) (o22 : A2 ≠ P2) (o23 : A2 ≠ P3) (i3 : A3 = P1) : (wl A0 A2 u) = wf P1 P3 (wf P0 P2 v) ∧ ∀ r : Nat, r + 1 = rf P1 P3 (wf P0 P2 v) (rf P0 P2 v r) := by
  obtain ⟨v1, BR, BS, e1, e2, e3, e4, e5⟩ := two_fuse (P := P0) (Q := P2) (R := P1) (S := P3) h a0 a2 a1 a3 d02 d01 d03 d12.symm d23 d13
  have b0 := h _ _ a0
  have b1 := h _ _ a1
  have b2 := h _ _ a2
  have b3 := h _ _ a3
  have f1 := e4 P1
  have f2 := e4 P3
  rw [e1]
  refine ⟨?_, fun r => ?_⟩
  · funext r
    have hr := hu r
    have g1 := e4 r
    have g2 := e5 r
    clear hu e4 e5 e1
    try unfold wl
    cases hv : v r with
    | none => grind (splits := 30)
    | some s =>
      have hs := h _ _ hv
      grind (splits := 30)
  · clear hu e4 e5 e1
    unfold rf
    grind
theorem alG_0_8 : alG 0 (in4 (-1) (3) (-1) (1)) = some ([(0, 2)], 1) := by decide
theorem alike_0_9 {v u : Wr} (h : Mt v) {P0 P1 P2 P3 A0 A1 A2 A3 : Port} (a0 : v P0 = some A0) (a1 : v P1 = some A1) (a2 : v P2 = some A2) (a3 : v P3 = some A3) (d01 : P0 ≠ P1) (d02 : P0 ≠ P2) (d03 : P0 ≠ P3) (d12 : P1 ≠ P2) (d13 : P1 ≠ P3) (d23 : P2 ≠ P3) (hu : ∀ r, u r = if r = P0 ∨ r = P1 ∨ r = P2 ∨ r = P3 then none else v r) (o00 : A0 ≠ P0) (o01 : A0 ≠ P1) (o02 : A0 ≠ P2) (o03 : A0 ≠ P3) (o10 : A1 ≠ P0) (o11 : A1 ≠ P1) (o12 : A1 ≠ P2) (o13 : A1 ≠ P3) (i2 : A2 = P3) (i3 : A3 = P2) : (wl A0 A1 u) = wf P1 P3 (wf P0 P2 v) ∧ ∀ r : Nat, r + 0 = rf P1 P3 (wf P0 P2 v) (rf P0 P2 v r) := by
  obtain ⟨v1, BR, BS, e1, e2, e3, e4, e5⟩ := two_fuse (P := P0) (Q := P2) (R := P1) (S := P3) h a0 a2 a1 a3 d02 d01 d03 d12.symm d23 d13
  have b0 := h _ _ a0
  have b1 := h _ _ a1
  have b2 := h _ _ a2
  have b3 := h _ _ a3
  have f1 := e4 P1
  have f2 := e4 P3
  rw [e1]
  refine ⟨?_, fun r => ?_⟩
  · funext r
    have hr := hu r
    have g1 := e4 r
    have g2 := e5 r
    clear hu e4 e5 e1
    try unfold wl
    cases hv : v r with
    | none => grind (splits := 30)
    | some s =>
      have hs := h _ _ hv
      grind (splits := 30)
  · clear hu e4 e5 e1
    unfold rf
    grind
theorem alG_0_9 : alG 0 (in4 (-1) (-1) (3) (2)) = some ([(0, 1)], 0) := by decide
theorem alike_1_0 {v u : Wr} (h : Mt v) {P0 P1 P2 P3 A0 A1 A2 A3 : Port} (a0 : v P0 = some A0) (a1 : v P1 = some A1) (a2 : v P2 = some A2) (a3 : v P3 = some A3) (d01 : P0 ≠ P1) (d02 : P0 ≠ P2) (d03 : P0 ≠ P3) (d12 : P1 ≠ P2) (d13 : P1 ≠ P3) (d23 : P2 ≠ P3) (hu : ∀ r, u r = if r = P0 ∨ r = P1 ∨ r = P2 ∨ r = P3 then none else v r) (o00 : A0 ≠ P0) (o01 : A0 ≠ P1) (o02 : A0 ≠ P2) (o03 : A0 ≠ P3) (o10 : A1 ≠ P0) (o11 : A1 ≠ P1) (o12 : A1 ≠ P2) (o13 : A1 ≠ P3) (o20 : A2 ≠ P0) (o21 : A2 ≠ P1) (o22 : A2 ≠ P2) (o23 : A2 ≠ P3) (o30 : A3 ≠ P0) (o31 : A3 ≠ P1) (o32 : A3 ≠ P2) (o33 : A3 ≠ P3) : (wl A1 A2 (wl A0 A3 u)) = wf P1 P2 (wf P0 P3 v) ∧ ∀ r : Nat, r + 0 = rf P1 P2 (wf P0 P3 v) (rf P0 P3 v r) := by
  obtain ⟨v1, BR, BS, e1, e2, e3, e4, e5⟩ := two_fuse (P := P0) (Q := P3) (R := P1) (S := P2) h a0 a3 a1 a2 d03 d01 d02 d13.symm d23.symm d12
  have b0 := h _ _ a0
  have b1 := h _ _ a1
  have b2 := h _ _ a2
  have b3 := h _ _ a3
  have f1 := e4 P1
  have f2 := e4 P2
  rw [e1]
  refine ⟨?_, fun r => ?_⟩
  · funext r
    have hr := hu r
    have g1 := e4 r
    have g2 := e5 r
    clear hu e4 e5 e1
    try unfold wl
    cases hv : v r with
    | none => grind (splits := 30)
    | some s =>
      have hs := h _ _ hv
      grind (splits := 30)
  · clear hu e4 e5 e1
    unfold rf
    grind
theorem alG_1_0 : alG 1 (in4 (-1) (-1) (-1) (-1)) = some ([(0, 3), (1, 2)], 0) := by decide
theorem alike_1_1 {v u : Wr} (h : Mt v) {P0 P1 P2 P3 A0 A1 A2 A3 : Port} (a0 : v P0 = some A0) (a1 : v P1 = some A1) (a2 : v P2 = some A2) (a3 : v P3 = some A3) (d01 : P0 ≠ P1) (d02 : P0 ≠ P2) (d03 : P0 ≠ P3) (d12 : P1 ≠ P2) (d13 : P1 ≠ P3) (d23 : P2 ≠ P3) (hu : ∀ r, u r = if r = P0 ∨ r = P1 ∨ r = P2 ∨ r = P3 then none else v r) (i0 : A0 = P1) (i1 : A1 = P0) (o20 : A2 ≠ P0) (o21 : A2 ≠ P1) (o22 : A2 ≠ P2) (o23 : A2 ≠ P3) (o30 : A3 ≠ P0) (o31 : A3 ≠ P1) (o32 : A3 ≠ P2) (o33 : A3 ≠ P3) : (wl A2 A3 u) = wf P1 P2 (wf P0 P3 v) ∧ ∀ r : Nat, r + 0 = rf P1 P2 (wf P0 P3 v) (rf P0 P3 v r) := by
  obtain ⟨v1, BR, BS, e1, e2, e3, e4, e5⟩ := two_fuse (P := P0) (Q := P3) (R := P1) (S := P2) h a0 a3 a1 a2 d03 d01 d02 d13.symm d23.symm d12
  have b0 := h _ _ a0
  have b1 := h _ _ a1
  have b2 := h _ _ a2
  have b3 := h _ _ a3
  have f1 := e4 P1
  have f2 := e4 P2
  rw [e1]
  refine ⟨?_, fun r => ?_⟩
  · funext r
    have hr := hu r
    have g1 := e4 r
    have g2 := e5 r
    clear hu e4 e5 e1
    try unfold wl
    cases hv : v r with
    | none => grind (splits := 30)
    | some s =>
      have hs := h _ _ hv
      grind (splits := 30)
  · clear hu e4 e5 e1
    unfold rf
    grind
theorem alG_1_1 : alG 1 (in4 (1) (0) (-1) (-1)) = some ([(2, 3)], 0) := by decide
theorem alike_1_2 {v u : Wr} (h : Mt v) {P0 P1 P2 P3 A0 A1 A2 A3 : Port} (a0 : v P0 = some A0) (a1 : v P1 = some A1) (a2 : v P2 = some A2) (a3 : v P3 = some A3) (d01 : P0 ≠ P1) (d02 : P0 ≠ P2) (d03 : P0 ≠ P3) (d12 : P1 ≠ P2) (d13 : P1 ≠ P3) (d23 : P2 ≠ P3) (hu : ∀ r, u r = if r = P0 ∨ r = P1 ∨ r = P2 ∨ r = P3 then none else v r) (i0 : A0 = P1) (i1 : A1 = P0) (i2 : A2 = P3) (i3 : A3 = P2) : u = wf P1 P2 (wf P0 P3 v) ∧ ∀ r : Nat, r + 1 = rf P1 P2 (wf P0 P3 v) (rf P0 P3 v r) := by
  obtain ⟨v1, BR, BS, e1, e2, e3, e4, e5⟩ := two_fuse (P := P0) (Q := P3) (R := P1) (S := P2) h a0 a3 a1 a2 d03 d01 d02 d13.symm d23.symm d12
  have b0 := h _ _ a0
  have b1 := h _ _ a1
  have b2 := h _ _ a2
  have b3 := h _ _ a3
  have f1 := e4 P1
  have f2 := e4 P2
  rw [e1]
  refine ⟨?_, fun r => ?_⟩
  · funext r
    have hr := hu r
    have g1 := e4 r
    have g2 := e5 r
    clear hu e4 e5 e1
    try unfold wl
    cases hv : v r with
    | none => grind (splits := 30)
    | some s =>
      have hs := h _ _ hv
      grind (splits := 30)
  · clear hu e4 e5 e1
    unfold rf
    grind
theorem alG_1_2 : alG 1 (in4 (1) (0) (3) (2)) = some ([], 1) := by decide
theorem alike_1_3 {v u : Wr} (h : Mt v) {P0 P1 P2 P3 A0 A1 A2 A3 : Port} (a0 : v P0 = some A0) (a1 : v P1 = some A1) (a2 : v P2 = some A2) (a3 : v P3 = some A3) (d01 : P0 ≠ P1) (d02 : P0 ≠ P2) (d03 : P0 ≠ P3) (d12 : P1 ≠ P2) (d13 : P1 ≠ P3) (d23 : P2 ≠ P3) (hu : ∀ r, u r = if r = P0 ∨ r = P1 ∨ r = P2 ∨ r = P3 then none else v r) (i0 : A0 = P2) (o10 : A1 ≠ P0) (o11 : A1 ≠ P1) (o12 : A1 ≠ P2) (o13 : A1 ≠ P3) (i2 : A2 = P0) (o30 : A3 ≠ P0) (o31 : A3 ≠ P1) (o32 : A3 ≠ P2) (o33 : A3 ≠ P3) : (wl A1 A3 u) = wf P1 P2 (wf P0 P3 v) ∧ ∀ r : Nat, r + 0 = rf P1 P2 (wf P0 P3 v) (rf P0 P3 v r) := by
  obtain ⟨v1, BR, BS, e1, e2, e3, e4, e5⟩ := two_fuse (P := P0) (Q := P3) (R := P1) (S := P2) h a0 a3 a1 a2 d03 d01 d02 d13.symm d23.symm d12
  have b0 := h _ _ a0
  have b1 := h _ _ a1
  have b2 := h _ _ a2
  have b3 := h _ _ a3
  have f1 := e4 P1
  have f2 := e4 P2
  rw [e1]
  refine ⟨?_, fun r => ?_⟩
  · funext r
    have hr := hu r
    have g1 := e4 r
    have g2 := e5 r
    clear hu e4 e5 e1
    try unfold wl
    cases hv : v r with
    | none => grind (splits := 30)
    | some s =>
      have hs := h _ _ hv
      grind (splits := 30)
  · clear hu e4 e5 e1
    unfold rf
    grind
theorem alG_1_3 : alG 1 (in4 (2) (-1) (0) (-1)) = some ([(1, 3)], 0) := by decide
theorem alike_1_4 {v u : Wr} (h : Mt v) {P0 P1 P2 P3 A0 A1 A2 A3 : Port} (a0 : v P0 = some A0) (a1 : v P1 = some A1) (a2 : v P2 = some A2) (a3 : v P3 = some A3) (d01 : P0 ≠ P1) (d02 : P0 ≠ P2) (d03 : P0 ≠ P3) (d12 : P1 ≠ P2) (d13 : P1 ≠ P3) (d23 : P2 ≠ P3) (hu : ∀ r, u r = if r = P0 ∨ r = P1 ∨ r = P2 ∨ r = P3 then none else v r) (i0 : A0 = P2) (i1 : A1 = P3) (i2 : A2 = P0) (i3 : A3 = P1) : u = wf P1 P2 (wf P0 P3 v) ∧ ∀ r : Nat, r + 1 = rf P1 P2 (wf P0 P3 v) (rf P0 P3 v r) := by
  obtain ⟨v1, BR, BS, e1, e2, e3, e4, e5⟩ := two_fuse (P := P0) (Q := P3) (R := P1) (S := P2) h a0 a3 a1 a2 d03 d01 d02 d13.symm d23.symm d12
  have b0 := h _ _ a0
  have b1 := h _ _ a1
  have b2 := h _ _ a2
  have b3 := h _ _ a3
  have f1 := e4 P1
  have f2 := e4 P2
  rw [e1]
  refine ⟨?_, fun r => ?_⟩
  · funext r
    have hr := hu r
    have g1 := e4 r
    have g2 := e5 r
    clear hu e4 e5 e1
    try unfold wl
    cases hv : v r with
    | none => grind (splits := 30)
    | some s =>
      have hs := h _ _ hv
      grind (splits := 30)
  · clear hu e4 e5 e1
    unfold rf
    grind
theorem alG_1_4 : alG 1 (in4 (2) (3) (0) (1)) = some ([], 1) := by decide
theorem alike_1_5 {v u : Wr} (h : Mt v) {P0 P1 P2 P3 A0 A1 A2 A3 : Port} (a0 : v P0 = some A0) (a1 : v P1 = some A1) (a2 : v P2 = some A2) (a3 : v P3 = some A3) (d01 : P0 ≠ P1) (d02 : P0 ≠ P2) (d03 : P0 ≠ P3) (d12 : P1 ≠ P2) (d13 : P1 ≠ P3) (d23 : P2 ≠ P3) (hu : ∀ r, u r = if r = P0 ∨ r = P1 ∨ r = P2 ∨ r = P3 then none else v r) (i0 : A0 = P3) (o10 : A1 ≠ P0) (o11 : A1 ≠ P1) (o12 : A1 ≠ P2) (o13 : A1 ≠ P3) (o20 : A2 ≠ P0) (o21 : A2 ≠ P1) (o22 : A2 ≠ P2) (o23 : A2 ≠ P3) (i3 : A3 = P0) : (wl A1 A2 u) = wf P1 P2 (wf P0 P3 v) ∧ ∀ r : Nat, r + 1 = rf P1 P2 (wf P0 P3 v) (rf P0 P3 v r) := by
  obtain ⟨v1, BR, BS, e1, e2, e3, e4, e5⟩ := two_fuse (P := P0) (Q := P3) (R := P1) (S := P2) h a0 a3 a1 a2 d03 d01 d02 d13.symm d23.symm d12
  have b0 := h _ _ a0
  have b1 := h _ _ a1
  have b2 := h _ _ a2
  have b3 := h _ _ a3
  have f1 := e4 P1
  have f2 := e4 P2
  rw [e1]
  refine ⟨?_, fun r => ?_⟩
  · funext r
    have hr := hu r
    have g1 := e4 r
    have g2 := e5 r
    clear hu e4 e5 e1
    try unfold wl
    cases hv : v r with
    | none => grind (splits := 30)
    | some s =>
      have hs := h _ _ hv
      grind (splits := 30)
  · clear hu e4 e5 e1
    unfold rf
    grind
theorem alG_1_5 : alG 1 (in4 (3) (-1) (-1) (0)) = some ([(1, 2)], 1) := by decide
theorem alike_1_6 {v u : Wr} (h : Mt v) {P0 P1 P2 P3 A0 A1 A2 A3 : Port} (a0 : v P0 = some A0) (a1 : v P1 = some A1) (a2 : v P2 = some A2) (a3 : v P3 = some A3) (d01 : P0 ≠ P1) (d02 : P0 ≠ P2) (d03 : P0 ≠ P3) (d12 : P1 ≠ P2) (d13 : P1 ≠ P3) (d23 : P2 ≠ P3) (hu : ∀ r, u r = if r = P0 ∨ r = P1 ∨ r = P2 ∨ r = P3 then none else v r) (i0 : A0 = P3) (i1 : A1 = P2) (i2 : A2 = P1) (i3 : A3 = P0) : u = wf P1 P2 (wf P0 P3 v) ∧ ∀ r : Nat, r + 2 = rf P1 P2 (wf P0 P3 v) (rf P0 P3 v r) := by
  obtain ⟨v1, BR, BS, e1, e2, e3, e4, e5⟩ := two_fuse (P := P0) (Q := P3) (R := P1) (S := P2) h a0 a3 a1 a2 d03 d01 d02 d13.symm d23.symm d12
  have b0 := h _ _ a0
  have b1 := h _ _ a1
  have b2 := h _ _ a2
  have b3 := h _ _ a3
  have f1 := e4 P1
  have f2 := e4 P2
  rw [e1]
  refine ⟨?_, fun r => ?_⟩
  · funext r
    have hr := hu r
    have g1 := e4 r
    have g2 := e5 r
    clear hu e4 e5 e1
    try unfold wl
    cases hv : v r with
    | none => grind (splits := 30)
    | some s =>
      have hs := h _ _ hv
      grind (splits := 30)
  · clear hu e4 e5 e1
    unfold rf
    grind
theorem alG_1_6 : alG 1 (in4 (3) (2) (1) (0)) = some ([], 2) := by decide
theorem alike_1_7 {v u : Wr} (h : Mt v) {P0 P1 P2 P3 A0 A1 A2 A3 : Port} (a0 : v P0 = some A0) (a1 : v P1 = some A1) (a2 : v P2 = some A2) (a3 : v P3 = some A3) (d01 : P0 ≠ P1) (d02 : P0 ≠ P2) (d03 : P0 ≠ P3) (d12 : P1 ≠ P2) (d13 : P1 ≠ P3) (d23 : P2 ≠ P3) (hu : ∀ r, u r = if r = P0 ∨ r = P1 ∨ r = P2 ∨ r = P3 then none else v r) (o00 : A0 ≠ P0) (o01 : A0 ≠ P1) (o02 : A0 ≠ P2) (o03 : A0 ≠ P3) (i1 : A1 = P2) (i2 : A2 = P1) (o30 : A3 ≠ P0) (o31 : A3 ≠ P1) (o32 : A3 ≠ P2) (o33 : A3 ≠ P3) : (wl A0 A3 u) = wf P1 P2 (wf P0 P3 v) ∧ ∀ r : Nat, r + 1 = rf P1 P2 (wf P0 P3 v) (rf P0 P3 v r) := by
  obtain ⟨v1, BR, BS, e1, e2, e3, e4, e5⟩ := two_fuse (P := P0) (Q := P3) (R := P1) (S := P2) h a0 a3 a1 a2 d03 d01 d02 d13.symm d23.symm d12
  have b0 := h _ _ a0
  have b1 := h _ _ a1
  have b2 := h _ _ a2
  have b3 := h _ _ a3
  have f1 := e4 P1
  have f2 := e4 P2
  rw [e1]
  refine ⟨?_, fun r => ?_⟩
  · funext r
    have hr := hu r
    have g1 := e4 r
    have g2 := e5 r
    clear hu e4 e5 e1
    try unfold wl
    cases hv : v r with
    | none => grind (splits := 30)
    | some s =>
      have hs := h _ _ hv
      grind (splits := 30)
  · clear hu e4 e5 e1
    unfold rf
    grind
theorem alG_1_7 : alG 1 (in4 (-1) (2) (1) (-1)) = some ([(0, 3)], 1) := by decide
theorem alike_1_8 {v u : Wr} (h : Mt v) {P0 P1 P2 P3 A0 A1 A2 A3 : Port} (a0 : v P0 = some A0) (a1 : v P1 = some A1) (a2 : v P2 = some A2) (a3 : v P3 = some A3) (d01 : P0 ≠ P1) (d02 : P0 ≠ P2) (d03 : P0 ≠ P3) (d12 : P1 ≠ P2) (d13 : P1 ≠ P3) (d23 : P2 ≠ P3) (hu : ∀ r, u r = if r = P0 ∨ r = P1 ∨ r = P2 ∨ r = P3 then none else v r) (o00 : A0 ≠ P0) (o01 : A0 ≠ P1) (o02 : A0 ≠ P2) (o03 : A0 ≠ P3) (i1 : A1 = P3) (o20 : A2 ≠ P0) (o21 : A2 ≠ P1) (o22 : A2 ≠ P2) (o23 : A2 ≠ P3) (i3 : A3 = P1) : (wl A0 A2 u) = wf P1 P2 (wf P0 P3 v) ∧ ∀ r : Nat, r + 0 = rf P1 P2 (wf P0 P3 v) (rf P0 P3 v r) := by
  obtain ⟨v1, BR, BS, e1, e2, e3, e4, e5⟩ := two_fuse (P := P0) (Q := P3) (R := P1) (S := P2) h a0 a3 a1 a2 d03 d01 d02 d13.symm d23.symm d12
  have b0 := h _ _ a0
  have b1 := h _ _ a1
  have b2 := h _ _ a2
  have b3 := h _ _ a3
  have f1 := e4 P1
  have f2 := e4 P2
  rw [e1]
  refine ⟨?_, fun r => ?_⟩
  · funext r
    have hr := hu r
    have g1 := e4 r
    have g2 := e5 r
    clear hu e4 e5 e1
    try unfold wl
    cases hv : v r with
    | none => grind (splits := 30)
    | some s =>
      have hs := h _ _ hv
      grind (splits := 30)
  · clear hu e4 e5 e1
    unfold rf
    grind
theorem alG_1_8 : alG 1 (in4 (-1) (3) (-1) (1)) = some ([(0, 2)], 0) := by decide
theorem alike_1_9 {v u : Wr} (h : Mt v) {P0 P1 P2 P3 A0 A1 A2 A3 : Port} (a0 : v P0 = some A0) (a1 : v P1 = some A1) (a2 : v P2 = some A2) (a3 : v P3 = some A3) (d01 : P0 ≠ P1) (d02 : P0 ≠ P2) (d03 : P0 ≠ P3) (d12 : P1 ≠ P2) (d13 : P1 ≠ P3) (d23 : P2 ≠ P3) (hu : ∀ r, u r = if r = P0 ∨ r = P1 ∨ r = P2 ∨ r = P3 then none else v r) (o00 : A0 ≠ P0) (o01 : A0 ≠ P1) (o02 : A0 ≠ P2) (o03 : A0 ≠ P3) (o10 : A1 ≠ P0) (o11 : A1 ≠ P1) (o12 : A1 ≠ P2) (o13 : A1 ≠ P3) (i2 : A2 = P3) (i3 : A3 = P2) : (wl A0 A1 u) = wf P1 P2 (wf P0 P3 v) ∧ ∀ r : Nat, r + 0 = rf P1 P2 (wf P0 P3 v) (rf P0 P3 v r) := by
  obtain ⟨v1, BR, BS, e1, e2, e3, e4, e5⟩ := two_fuse (P := P0) (Q := P3) (R := P1) (S := P2) h a0 a3 a1 a2 d03 d01 d02 d13.symm d23.symm d12
  have b0 := h _ _ a0
  have b1 := h _ _ a1
  have b2 := h _ _ a2
  have b3 := h _ _ a3
  have f1 := e4 P1
  have f2 := e4 P2
  rw [e1]
  refine ⟨?_, fun r => ?_⟩
  · funext r
    have hr := hu r
    have g1 := e4 r
    have g2 := e5 r
    clear hu e4 e5 e1
    try unfold wl
    cases hv : v r with
    | none => grind (splits := 30)
    | some s =>
      have hs := h _ _ hv
      grind (splits := 30)
  · clear hu e4 e5 e1
    unfold rf
    grind
theorem alG_1_9 : alG 1 (in4 (-1) (-1) (3) (2)) = some ([(0, 1)], 0) := by decide
