/-! NETS: kinds by number, wires between places, rings; what a Graph of the class holds of one -/
abbrev Port : Type := Nat × Nat
abbrev Kd : Type := Nat → Option Nat
abbrev Wr : Type := Port → Option Port
/-- a place's number in the class: 0 to 15 letters (side 3), then three for each node -/
def cp (p : Port) : Nat := if p.2 = 3 then p.1 else 16 + 3 * p.1 + p.2
def vp (N : Nat) (p : Port) : Prop := (p.2 < 3 ∧ p.1 < N) ∨ (p.2 = 3 ∧ p.1 < 16)
def kI (k : Option Nat) : Int := match k with
  | none => -1
  | some k => k
def wv (p : Port) (w : Wr) : Wr := fun r => if r = p then none else w r
def wl (p q : Port) (w : Wr) : Wr := fun r => if r = q then some p else if r = p then some q else w r
theorem cp_lt {N : Nat} {p : Port} (h : vp N p) : cp p < 16 + 3 * N := by
  unfold cp
  rcases h with ⟨h1, h2⟩ | ⟨h1, h2⟩
  · rw [if_neg (by omega)]; omega
  · rw [if_pos h1]; omega
theorem cp_inj {N : Nat} {p q : Port} (h : vp N p) (h' : vp N q) (e : cp p = cp q) : p = q := by
  obtain ⟨a, b⟩ := p
  obtain ⟨c, d⟩ := q
  unfold cp at e
  unfold vp at h h'
  simp only at e h h'
  have : a = c ∧ b = d := by
    by_cases h1 : b = 3 <;> by_cases h2 : d = 3
    · simp only [h1, h2, if_true] at e; omega
    · simp only [h1, h2, if_true, if_false] at e; omega
    · simp only [h1, h2, if_true, if_false] at e; omega
    · simp only [h1, h2, if_false] at e; omega
  rw [this.1, this.2]
/-- the kinds -/
def RK (N : Nat) (g : Ob) (K : Kd) (T : Nat) : Prop := oV g 4 = jI T ∧ T ≤ N ∧ (∀ n, n < T → oA g 0 n = jI (kI (K n))) ∧ (∀ n, T ≤ n → K n = none) ∧ ∀ n k, K n = some k → k ≤ 3
/-- the wires -/
def RW (N : Nat) (g : Ob) (w : Wr) : Prop := (∀ p q, w p = some q → vp N p ∧ vp N q ∧ oA g 1 (cp p) = jI (cp q)) ∧ ∀ i, i < 16 → w (i, 3) = none → oA g 1 i = jI (-1)
theorem kI_range {N : Nat} {g : Ob} {K : Kd} {T : Nat} (h : RK N g K T) (n : Nat) : -1 ≤ kI (K n) ∧ kI (K n) ≤ 3 := by
  cases hk : K n with
  | none => exact ⟨by decide, by decide⟩
  | some k => have := h.2.2.2.2 n k hk; unfold kI; exact ⟨by simp only; omega, by simp only; omega⟩
section GR
variable {N : Nat} {g : Ob} {K : Kd} {T : Nat} {w : Wr} (hN : N ≤ 1000)
theorem s_port (a b : Int) : FX2_port (jI a) (jI b) = some (jI (16 + 3 * a + b)) := by
  unfold FX2_port
  simp only [j_16, j_3, jI_add, jI_mul]
theorem s_port_cp {n s : Nat} (hs : s < 3) : FX2_port (jI n) (jI s) = some (jI (cp (n, s))) := by
  rw [s_port]
  unfold cp
  rw [if_neg (by simp only; omega)]
  simp
theorem s_kindOf (hN : N ≤ 1000) (h : RK N g K T) (n : Nat) (hn : n < 100000) : FX2_kindOf N (jI n) g = some (jI (kI (K n))) := by
  obtain ⟨h1, h2, h3, h4, -⟩ := h
  unfold FX2_kindOf
  rw [h1]
  by_cases c : n < T
  · simp (disch := omega) only [j_0, j_m1, jI_ofNat, jI_lt, jI_le, jI_inb, jI_cl, if_pos, if_neg, Int.toNat_natCast, h3]
  · rw [h4 n (by omega)]
    simp (disch := omega) only [j_0, j_m1, jI_ofNat, jI_lt, jI_le, if_pos, if_neg]
    rfl
theorem s_kindOf_neg : FX2_kindOf N (jI (-1)) g = some (jI (-1)) := by
  unfold FX2_kindOf
  simp (disch := omega) only [j_0, jI_lt, if_pos]
  rfl
theorem s_across (hN : N ≤ 1000) (h : RW N g w) {p q : Port} (hp : w p = some q) : FX2_across N (jI (cp p)) g = some (jI (cp q)) := by
  obtain ⟨h1, h2, h3⟩ := h.1 p q hp
  have := cp_lt h1
  unfold FX2_across
  simp (disch := omega) only [j_0, j_m1, jI_ofNat, jI_lt, jI_le, jI_inb, jI_cl, if_pos, if_neg, Int.toNat_natCast, h3]
theorem s_across_none (hN : N ≤ 1000) (h : RW N g w) {i : Nat} (hi : i < 16) (hp : w (i, 3) = none) : FX2_across N (jI i) g = some (jI (-1)) := by
  have h3 := h.2 i hi hp
  unfold FX2_across
  simp (disch := omega) only [j_0, j_m1, jI_ofNat, jI_lt, jI_le, jI_inb, jI_cl, if_pos, if_neg, Int.toNat_natCast, h3]
theorem s_vacate (hN : N ≤ 1000) {p : Port} (hp : vp N p) : FX2_vacate N (jI (cp p)) g = some (sA g 1 (cp p) (jI (-1))) := by
  have := cp_lt hp
  unfold FX2_vacate
  simp (disch := omega) only [j_0, j_m1, jI_ofNat, jI_lt, jI_le, jI_inb, jI_cl, if_pos, if_neg, Int.toNat_natCast, lT_eq]
theorem s_link (hN : N ≤ 1000) {p q : Port} (hp : vp N p) (hq : vp N q) : FX2_link N (jI (cp p)) (jI (cp q)) g = some (sA (sA g 1 (cp p) (jI (cp q))) 1 (cp q) (jI (cp p))) := by
  have := cp_lt hp
  have := cp_lt hq
  unfold FX2_link
  simp (disch := omega) only [j_0, j_m1, jI_ofNat, jI_lt, jI_le, jI_inb, jI_cl, if_pos, if_neg, Int.toNat_natCast, lT_eq]
/-- what is written to the wires leaves the kinds -/
theorem RK_sA1 (h : RK N g K T) (i : Nat) (x : Int32) : RK N (sA g 1 i x) K T := by
  obtain ⟨h1, h2, h3, h4, h5⟩ := h
  refine ⟨h1, h2, fun n hn => ?_, h4, h5⟩
  rw [oA_sA, if_neg (by omega)]
  exact h3 n hn
theorem RW_wv (h : RW N g w) {p : Port} (hp : vp N p) : RW N (sA g 1 (cp p) (jI (-1))) (wv p w) := by
  refine ⟨fun r q hr => ?_, fun i hi hr => ?_⟩
  · unfold wv at hr
    by_cases e : r = p
    · rw [if_pos e] at hr; cases hr
    · rw [if_neg e] at hr
      obtain ⟨h1, h2, h3⟩ := h.1 r q hr
      refine ⟨h1, h2, ?_⟩
      rw [oA_sA, if_neg (fun z => e (cp_inj h1 hp z.2))]
      exact h3
  · rw [oA_sA]
    by_cases e : i = cp p
    · rw [if_pos ⟨rfl, e⟩]
    · rw [if_neg (fun z => e z.2)]
      refine h.2 i hi ?_
      unfold wv at hr
      rw [if_neg] at hr
      · exact hr
      · intro z
        apply e
        rw [← z]
        rfl
theorem RW_wl (h : RW N g w) {p q : Port} (hp : vp N p) (hq : vp N q) (hpq : p ≠ q) : RW N (sA (sA g 1 (cp p) (jI (cp q))) 1 (cp q) (jI (cp p))) (wl p q w) := by
  refine ⟨fun r s hr => ?_, fun i hi hr => ?_⟩
  · unfold wl at hr
    by_cases e : r = q
    · subst e
      rw [if_pos rfl] at hr
      cases hr
      refine ⟨hq, hp, ?_⟩
      rw [oA_sA, if_pos ⟨rfl, rfl⟩]
    · rw [if_neg e] at hr
      by_cases e2 : r = p
      · subst e2
        rw [if_pos rfl] at hr
        cases hr
        refine ⟨hp, hq, ?_⟩
        rw [oA_sA, if_neg (fun z => e (cp_inj hp hq z.2)), oA_sA, if_pos ⟨rfl, rfl⟩]
      · rw [if_neg e2] at hr
        obtain ⟨h1, h2, h3⟩ := h.1 r s hr
        refine ⟨h1, h2, ?_⟩
        rw [oA_sA, if_neg (fun z => e (cp_inj h1 hq z.2)), oA_sA, if_neg (fun z => e2 (cp_inj h1 hp z.2))]
        exact h3
  · unfold wl at hr
    by_cases e : (i, 3) = q
    · rw [if_pos e] at hr; cases hr
    · rw [if_neg e] at hr
      by_cases e2 : (i, 3) = p
      · rw [if_pos e2] at hr; cases hr
      · rw [if_neg e2] at hr
        have hv : vp N (i, 3) := Or.inr ⟨rfl, hi⟩
        have hc : cp (i, 3) = i := rfl
        rw [oA_sA, if_neg (fun z => e (cp_inj hv hq (hc.trans z.2))), oA_sA, if_neg (fun z => e2 (cp_inj hv hp (hc.trans z.2)))]
        exact h.2 i hi hr
/-- the wire at p ends at q now -/
def wm (p q : Port) (w : Wr) : Wr := match w p with
  | none => wv p w
  | some a => wl a q (wv p w)
/-- two places go, and their wires become one -/
def wf (p q : Port) (w : Wr) : Wr := if w p = some q then wv q (wv p w) else match w p, w q with
  | some a, some b => wv q (wv p (wl a b w))
  | _, _ => w
def rf (p q : Port) (w : Wr) (r : Nat) : Nat := if w p = some q then r + 1 else r
theorem RW_ints (h : RW N g w) (k : Nat) (x : Int32) : RW N (sV g k x) w := h
theorem s_move (hN : N ≤ 1000) (h : RW N g w) {p q a : Port} (hp : w p = some a) (hq : vp N q) (haq : a ≠ q) : ∃ g', FX2_move N (jI (cp p)) (jI (cp q)) g = some g' ∧ RW N g' (wm p q w) ∧ (∀ K T, RK N g K T → RK N g' K T) ∧ (∀ k, oV g' k = oV g k) ∧ ∀ k, k ≠ 1 → oA g' k = oA g k := by
  obtain ⟨h1, h2, h3⟩ := h.1 p a hp
  refine ⟨sA (sA (sA g 1 (cp p) (jI (-1))) 1 (cp a) (jI (cp q))) 1 (cp q) (jI (cp a)), ?_, ?_, ?_, ?_, ?_⟩
  · unfold FX2_move
    rw [s_across hN h hp, b1_some, s_vacate hN h1, b1_some, s_link hN h2 hq, b1_some]
  · unfold wm
    rw [hp]
    exact RW_wl (RW_wv h h1) h2 hq haq
  · intro K T hK
    exact RK_sA1 (RK_sA1 (RK_sA1 hK _ _) _ _) _ _
  · intro k; rfl
  · intro k hk
    funext i
    rw [oA_sA, if_neg (fun z => hk z.1), oA_sA, if_neg (fun z => hk z.1), oA_sA, if_neg (fun z => hk z.1)]
theorem s_fuse (hN : N ≤ 1000) (h : RW N g w) {p q a b : Port} (hp : w p = some a) (hq : w q = some b) (hab : a ≠ b) (hpa : w a = some p) (r : Nat) (hr : oV g 7 = jI r) : ∃ g', FX2_fuse N (jI (cp p)) (jI (cp q)) g = some g' ∧ RW N g' (wf p q w) ∧ (∀ K T, RK N g K T → RK N g' K T) ∧ oV g' 7 = jI (rf p q w r) ∧ (∀ k, k ≠ 7 → oV g' k = oV g k) ∧ ∀ k, k ≠ 1 → oA g' k = oA g k := by
  obtain ⟨h1, h2, h3⟩ := h.1 p a hp
  obtain ⟨h4, h5, h6⟩ := h.1 q b hq
  have l1 := cp_lt h1
  have l2 := cp_lt h2
  have l4 := cp_lt h4
  have l5 := cp_lt h5
  by_cases e : a = q
  · subst e
    refine ⟨sA (sA (sV g 7 (oV g 7 + 1)) 1 (cp p) (jI (-1))) 1 (cp a) (jI (-1)), ?_, ?_, ?_, ?_, ?_, ?_⟩
    · unfold FX2_fuse
      rw [s_across hN h hp, b1_some, if_pos rfl, lT_eq, s_vacate hN h1, b1_some, s_vacate hN h2, b1_some]
    · unfold wf
      rw [if_pos hp]
      exact RW_wv (RW_wv (RW_ints h _ _) h1) h2
    · intro K T hK
      exact RK_sA1 (RK_sA1 (show RK N (sV g 7 _) K T from hK) _ _) _ _
    · rw [oV_sA, oV_sA, oV_sV, if_pos rfl, hr, j_1, jI_add]
      unfold rf
      rw [if_pos hp]
      rfl
    · intro k hk
      rw [oV_sA, oV_sA, oV_sV, if_neg hk]
    · intro k hk
      funext i
      rw [oA_sA, if_neg (fun z => hk z.1), oA_sA, if_neg (fun z => hk z.1)]
      rfl
  · have e1 : ¬ w p = some q := fun z => e (Option.some.inj (hp.symm.trans z))
    refine ⟨sA (sA (sA (sA g 1 (cp a) (jI (cp b))) 1 (cp b) (jI (cp a))) 1 (cp p) (jI (-1))) 1 (cp q) (jI (-1)), ?_, ?_, ?_, ?_, ?_, ?_⟩
    · unfold FX2_fuse
      rw [s_across hN h hp, b1_some, if_neg (by rw [jI_eq (by omega) (by omega) (by omega) (by omega)]; exact fun z => e (cp_inj h2 h4 (by omega))), b1_some, s_across hN h hq, b1_some, s_link hN h2 h5, b1_some, s_vacate hN h1, b1_some, s_vacate hN h4, b1_some]
    · unfold wf
      rw [if_neg e1, hp, hq]
      exact RW_wv (RW_wv (RW_wl h h2 h5 hab) h1) h4
    · intro K T hK
      exact RK_sA1 (RK_sA1 (RK_sA1 (RK_sA1 hK _ _) _ _) _ _) _ _
    · unfold rf
      rw [if_neg e1]
      exact hr
    · intro k hk; rfl
    · intro k hk
      funext i
      rw [oA_sA, if_neg (fun z => hk z.1), oA_sA, if_neg (fun z => hk z.1), oA_sA, if_neg (fun z => hk z.1), oA_sA, if_neg (fun z => hk z.1)]
end GR
