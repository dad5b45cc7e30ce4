/-! the class's perform, all of it -/
theorem wm_some {w : Wr} (h : Mt w) {p q a : Port} (hp : w p = some a) (hq : w q = none) {r : Port} (hr : r ≠ p) (hs : w r ≠ none) : wm p q w r ≠ none := by
  rw [wm_eq h hp hq]
  by_cases e1 : r = q
  · rw [if_pos e1]; exact fun z => by cases z
  · rw [if_neg e1, if_neg hr]
    by_cases e2 : r = a
    · rw [if_pos e2]; exact fun z => by cases z
    · rw [if_neg e2]; exact hs
theorem wm_none {w : Wr} (h : Mt w) {p q a : Port} (hp : w p = some a) (hq : w q = none) {r : Port} (hr : r ≠ q) (hs : w r = none ∨ r = p) : wm p q w r = none := by
  rw [wm_eq h hp hq, if_neg hr]
  by_cases e1 : r = p
  · rw [if_pos e1]
  · rw [if_neg e1]
    rcases hs with hs | hs
    · rw [if_neg (fun z => by rw [z, (h p a hp).1] at hs; cases hs)]
      exact hs
    · exact absurd hs e1
theorem wl_none {w : Wr} {p q r : Port} (h1 : r ≠ p) (h2 : r ≠ q) (hs : w r = none) : wl p q w r = none := by
  unfold wl
  rw [if_neg h2, if_neg h1]
  exact hs
theorem some_of {α : Type} {x : Option α} (h : x ≠ none) : ∃ a, x = some a := by
  cases x with
  | none => exact absurd rfl h
  | some a => exact ⟨a, rfl⟩
def BG (N : Nat) (g0 g : Ob) (w : Wr) : Prop := RW N g w ∧ (∀ K T, RK N g0 K T → RK N g K T) ∧ (∀ k, oV g k = oV g0 k) ∧ ∀ k, k ≠ 1 → oA g k = oA g0 k
section GB
variable {N : Nat} {g0 g : Ob} {w : Wr}
theorem BG_rf (h : RW N g w) : BG N g g w := ⟨h, fun _ _ h => h, fun _ => rfl, fun _ _ => rfl⟩
theorem b_move (hN : N ≤ 1000) (h : BG N g0 g w) (hM : Mt w) {p q a : Port} (hp : w p = some a) (hq : vp N q) (hqn : w q = none) : ∃ g', FX2_move N (jI (cp p)) (jI (cp q)) g = some g' ∧ BG N g0 g' (wm p q w) ∧ Mt (wm p q w) := by
  have haq : a ≠ q := fun z => by have := (hM p a hp).1; rw [z, hqn] at this; cases this
  obtain ⟨g', h1, h2, h3, h4, h5⟩ := s_move hN h.1 hp hq haq
  exact ⟨g', h1, ⟨h2, fun K T hK => h3 K T (h.2.1 K T hK), fun k => (h4 k).trans (h.2.2.1 k), fun k hk => (h5 k hk).trans (h.2.2.2 k hk)⟩, Mt_wm hM hp hqn⟩
theorem b_link (hN : N ≤ 1000) (h : BG N g0 g w) (hM : Mt w) {p q : Port} (hp : vp N p) (hq : vp N q) (hpq : p ≠ q) (h1 : w p = none) (h2 : w q = none) : ∃ g', FX2_link N (jI (cp p)) (jI (cp q)) g = some g' ∧ BG N g0 g' (wl p q w) ∧ Mt (wl p q w) := by
  refine ⟨_, s_link hN hp hq, ⟨RW_wl h.1 hp hq hpq, fun K T hK => RK_sA1 (RK_sA1 (h.2.1 K T hK) _ _) _ _, fun k => h.2.2.1 k, fun k hk => ?_⟩, Mt_wl hM h1 h2 hpq⟩
  rw [← h.2.2.2 k hk]
  funext i
  rw [oA_sA, if_neg (fun z => hk z.1), oA_sA, if_neg (fun z => hk z.1)]
end GB
theorem vpn {N n s : Nat} (hn : n < N) (hs : s < 3) : vp N (n, s) := Or.inl ⟨hs, hn⟩
theorem K00_none {K : Kd} {x y n : Nat} (h : K00 K x y n = none) : n = x ∨ n = y ∨ K n = none := by
  unfold K00 ku at h
  by_cases e1 : n = y
  · exact Or.inr (Or.inl e1)
  · rw [if_neg e1] at h
    by_cases e2 : n = x
    · exact Or.inl e2
    · rw [if_neg e2] at h
      exact Or.inr (Or.inr h)
theorem ku_none {K : Kd} {a n : Nat} {v : Nat} (h : ku K a (some v) n = none) : n ≠ a ∧ K n = none := by
  unfold ku at h
  by_cases e : n = a
  · rw [if_pos e] at h; cases h
  · rw [if_neg e] at h; exact ⟨e, h⟩
/-- the wires of free numbers, when both heads have gone -/
theorem wA0_none {K : Kd} {w : Wr} (h : WF K w) {x y n : Nat} (hn : K00 K x y n = none) {s : Nat} (hs : s < 3) (hxy : n ≠ x ∧ n ≠ y ∨ s = 0) : wA0 x y w (n, s) = none := by
  unfold wA0 wv
  by_cases e1 : (n, s) = (y, 0)
  · rw [if_pos e1]
  · rw [if_neg e1]
    by_cases e2 : (n, s) = (x, 0)
    · rw [if_pos e2]
    · rw [if_neg e2]
      have hk : K n = none := by
        rcases K00_none hn with e | e | e
        · rcases hxy with c | c
          · exact absurd e c.1
          · exact absurd (by rw [e, c]) e2
        · rcases hxy with c | c
          · exact absurd e c.2
          · exact absurd (by rw [e, c]) e1
        · exact e
      by_cases z : w (n, s) = none
      · exact z
      · exfalso
        rcases (h.2.1 n s hs).mp z with ⟨-, c⟩ | ⟨-, k, c⟩
        · exact c hk
        · rw [hk] at c; cases c
theorem wA0_same {w : Wr} {x y : Nat} {r : Port} (h1 : r ≠ (x, 0)) (h2 : r ≠ (y, 0)) : wA0 x y w r = w r := by
  unfold wA0 wv
  rw [if_neg h2, if_neg h1]
theorem aux_some {K : Kd} {w : Wr} (h : WF K w) {x y n k : Nat} (hn : K n = some k) (hk : k ≠ 0) {s : Nat} (hs : s = 1 ∨ s = 2) : wA0 x y w (n, s) ≠ none := by
  rw [wA0_same (by intro z; have := congrArg Prod.snd z; simp at this; omega) (by intro z; have := congrArg Prod.snd z; simp at this; omega)]
  refine (h.2.1 n s (by omega)).mpr (Or.inr ⟨by omega, k - 1, ?_⟩)
  rw [hn]
  congr 1
  omega
theorem pne {a b c d : Nat} (h : a ≠ c ∨ b ≠ d) : (a, b) ≠ (c, d) := by
  intro z
  cases z
  rcases h with h | h <;> exact h rfl
section GQ
variable {N : Nat} {g : Ob} {K : Kd} {T : Nat} {w : Wr}
theorem s_eat {x y : Nat} (hN : N ≤ 1000) (h : RK N g (K00 K x y) T) (hW : RW N g (wA0 x y w)) (hF : WF K w) (hM : Mt (wA0 x y w)) {t z k a b : Nat} (ht : oV g 5 = jI t) (htk : t ≤ a) (hz : K z = some k) (hk : k ≠ 0) (ha : lf (K00 K x y) a) (hb : lf (ku (K00 K x y) a (some 0)) b) (haN : a < N) (hbN : b < N) (hzN : z < N) : ∃ g' T', FX2_eat N (jI z) g = some g' ∧ RK N g' (ku (ku (K00 K x y) a (some 0)) b (some 0)) T' ∧ RW N g' (wm (z, 2) (b, 0) (wm (z, 1) (a, 0) (wA0 x y w))) ∧ oV g' 5 = jI (b + 1) ∧ oV g' 6 = oV g 6 + 1 + 1 ∧ (∀ j, j ≠ 4 → j ≠ 5 → j ≠ 6 → oV g' j = oV g j) ∧ ∀ j, j ≠ 0 → j ≠ 1 → oA g' j = oA g j := by
  have hab : a < b := by
    rcases Nat.lt_trichotomy a b with c | c | c
    · exact c
    · exact absurd c (fun e => (ku_none hb.1).1 e.symm)
    · exact absurd (ku_none hb.1).2 (ha.2 b c)
  obtain ⟨g1, e1, r1, v1, v2, v3, v4⟩ := s_addNode (k := 0) hN h ht haN ha htk (by omega)
  obtain ⟨g2, e2, r2, v5, v6, v7, v8⟩ := s_addNode (k := 0) (t := a + 1) hN r1 v1 hbN hb (by omega) (by omega)
  have hW2 : RW N g2 (wA0 x y w) := by
    refine ⟨fun p q hp => ?_, fun i hi hp => ?_⟩
    · rw [v8 1 (by omega), v4 1 (by omega)]; exact hW.1 p q hp
    · rw [v8 1 (by omega), v4 1 (by omega)]; exact hW.2 i hi hp
  obtain ⟨c1, hc1⟩ := some_of (aux_some (x := x) (y := y) hF hz hk (s := 1) (Or.inl rfl))
  have n1 : wA0 x y w (a, 0) = none := wA0_none hF ha.1 (by omega) (Or.inr rfl)
  have n2 : wA0 x y w (b, 0) = none := wA0_none hF (ku_none hb.1).2 (by omega) (Or.inr rfl)
  obtain ⟨g3, e3, b3, m3⟩ := b_move hN (BG_rf hW2) hM hc1 (vpn haN (by omega)) n1
  obtain ⟨c2, hc2⟩ := some_of (wm_some hM hc1 n1 (r := (z, 2)) (pne (Or.inr (by omega))) (aux_some hF hz hk (Or.inr rfl)))
  have n3 : wm (z, 1) (a, 0) (wA0 x y w) (b, 0) = none := wm_none hM hc1 n1 (pne (Or.inl (by omega))) (Or.inl n2)
  obtain ⟨g4, e4, b4, m4⟩ := b_move hN b3 m3 hc2 (vpn hbN (by omega)) n3
  refine ⟨g4, _, ?_, b4.2.1 _ _ r2, b4.1, ?_, ?_, fun j h4 h5 h6 => ?_, fun j h0 h1 => ?_⟩
  · have e1' : FX2_addNode N (jI 0) g = some (jI a, g1) := e1
    have e2' : FX2_addNode N (jI 0) g1 = some (jI b, g2) := e2
    unfold FX2_eat
    rw [j_0, j_1, j_2, e1', b2_some, e2', b2_some, s_port1, b1_some, s_port0, b1_some, e3, b1_some, s_port2, b1_some, s_port0, b1_some, e4, b1_some]
  · rw [b4.2.2.1]; exact v5
  · rw [b4.2.2.1, v6, v2]
  · rw [b4.2.2.1, v7 j h4 h5 h6, v3 j h4 h5 h6]
  · rw [b4.2.2.2 j h1, v8 j h0, v4 j h0]
end GQ
