/-! one meeting, in the class -/
def ku (K : Kd) (n : Nat) (v : Option Nat) : Kd := fun m => if m = n then v else K m
/-- the least number that is free -/
def lf (K : Kd) (n : Nat) : Prop := K n = none ∧ ∀ m, m < n → K m ≠ none
theorem lf_unique {K : Kd} {n m : Nat} (h : lf K n) (h' : lf K m) : n = m := by
  rcases Nat.lt_trichotomy n m with c | c | c
  · exact absurd h.1 (h'.2 n c)
  · exact c
  · exact absurd h'.1 (h.2 m c)
theorem kI_ne {k : Option Nat} (h : k ≠ none) : 0 ≤ kI k := by
  cases k with
  | none => exact absurd rfl h
  | some k => unfold kI; simp only; omega
theorem fu_eq : fu = 4000 + 1000 := rfl
theorem s_port0 (n : Nat) : FX2_port (jI n) (jI 0) = some (jI (cp (n, 0))) := s_port_cp (n := n) (s := 0) (by omega)
theorem s_port1 (n : Nat) : FX2_port (jI n) (jI 1) = some (jI (cp (n, 1))) := s_port_cp (n := n) (s := 1) (by omega)
theorem s_port2 (n : Nat) : FX2_port (jI n) (jI 2) = some (jI (cp (n, 2))) := s_port_cp (n := n) (s := 2) (by omega)
section GP
variable {N : Nat} {g : Ob} {K : Kd} {T : Nat} {w : Wr}
theorem s_addLoop (hN : N ≤ 1000) (h : RK N g K T) (x1 : Int32) (E : Int32 → Option (Int32 × Ob)) {n0 : Nat} (hn : n0 < N) (hl : lf K n0) : ∀ (d i f : Nat), i + d = n0 → d < f → LX2_addNode_5 N x1 g E f (jI i) = E (jI n0) := by
  intro d
  induction d with
  | zero =>
    intro i f hi hf
    have e : i = n0 := by omega
    subst e
    obtain ⟨f, rfl⟩ : ∃ f', f = f' + 1 := ⟨f - 1, by omega⟩
    rw [LX2_addNode_5.eq_2, h.1]
    by_cases c : T ≤ i
    · have := h.2.1
      simp (disch := omega) only [jI_le, if_pos]
    · have := h.2.1
      simp (disch := omega) only [jI_le, if_neg]
      rw [s_kindOf hN h i (by omega), b1_some, hl.1]
      exact if_pos rfl
  | succ d ih =>
    intro i f hi hf
    obtain ⟨f, rfl⟩ : ∃ f', f = f' + 1 := ⟨f - 1, by omega⟩
    have hk := hl.2 i (by omega)
    have hT : i < T := by
      rcases Nat.lt_or_ge i T with c | c
      · exact c
      · exact absurd (h.2.2.2.1 i c) hk
    have := h.2.1
    have k0 := kI_ne hk
    have k1 := (kI_range h i).2
    rw [LX2_addNode_5.eq_2, h.1]
    simp (disch := omega) only [jI_le, if_neg]
    rw [s_kindOf hN h i (by omega), b1_some, if_neg (by rw [j_m1, jI_eq (by omega) (by omega) (by omega) (by omega)]; omega), lT_eq, j_1, jI_add]
    exact ih (i + 1) f (by omega) (by omega)
theorem s_addNode (hN : N ≤ 1000) (h : RK N g K T) {t n0 k : Nat} (ht : oV g 5 = jI t) (hn : n0 < N) (hl : lf K n0) (htk : t ≤ n0) (hk : k ≤ 3) : ∃ g', FX2_addNode N (jI k) g = some (jI n0, g') ∧ RK N g' (ku K n0 (some k)) (max T (n0 + 1)) ∧ oV g' 5 = jI (n0 + 1) ∧ oV g' 6 = oV g 6 + 1 ∧ (∀ j, j ≠ 4 → j ≠ 5 → j ≠ 6 → oV g' j = oV g j) ∧ ∀ j, j ≠ 0 → oA g' j = oA g j := by
  have hTN := h.2.1
  refine ⟨sV (sA (sV (sV g 5 (jI (n0 + 1))) 4 (jI ((max T (n0 + 1) : Nat)))) 0 n0 (jI k)) 6 (oV g 6 + 1), ?_, ⟨?_, by omega, ?_, ?_, ?_⟩, ?_, ?_, ?_, ?_⟩
  · unfold FX2_addNode
    rw [lT_eq, ht, s_addLoop hN h _ _ hn hl (n0 - t) t fu (by omega) (by rw [fu_eq]; omega)]
    unfold BX2_addNode_28
    simp (disch := omega) only [j_0, j_1, j_2, j_3, j_4, j_5, j_6, j_7, j_8, j_10, j_16, j_31, j_32, j_39, j_60, j_80, j_126, j_180, j_539, j_540, j_900, j_999, j_1000, j_2000, jI_neg, jI_ofNat, jI_add, jI_sub, jI_mul, jI_lt, jI_le, jI_eq, jI_inb, jI_cl, Int.toNat_natCast, if_pos, if_neg, lT_eq, b1_some, b2_some, b3_some]
    have e : (if oV (sV g 5 (jI (↑n0 + 1))) 4 < oV (sV g 5 (jI (↑n0 + 1))) 5 then oV (sV g 5 (jI (↑n0 + 1))) 5 else oV (sV g 5 (jI (↑n0 + 1))) 4) = jI (max T (n0 + 1) : Nat) := by
      simp only [oV_sV, if_true, if_false, Nat.reduceEqDiff]
      rw [h.1]
      by_cases c : T < n0 + 1
      · simp (disch := omega) only [jI_lt, if_pos]
        congr 1
        omega
      · simp (disch := omega) only [jI_lt, if_neg]
        congr 1
        omega
    rw [e]
    rfl
  · rw [oV_sV, if_neg (by decide), oV_sA, oV_sV, if_pos rfl]
  · intro n hn2
    rw [oA_sV, oA_sA]
    unfold ku
    by_cases c : n = n0
    · subst c
      rw [if_pos ⟨rfl, rfl⟩, if_pos rfl]
      rfl
    · rw [if_neg (fun z => c z.2), if_neg c, oA_sV, oA_sV]
      rcases Nat.lt_or_ge n T with c2 | c2
      · exact h.2.2.1 n c2
      · exfalso
        have := hl.2 n (by omega)
        exact this (h.2.2.2.1 n c2)
  · intro n hn2
    unfold ku
    rw [if_neg (by omega)]
    exact h.2.2.2.1 n (by omega)
  · intro n k' hk'
    unfold ku at hk'
    by_cases c : n = n0
    · rw [if_pos c] at hk'
      cases hk'
      exact hk
    · rw [if_neg c] at hk'
      exact h.2.2.2.2 n k' hk'
  · rw [oV_sV, if_neg (by decide), oV_sA, oV_sV, if_neg (by decide), oV_sV, if_pos rfl]
  · rw [oV_sV, if_pos rfl]
  · intro j h4 h5 h6
    rw [oV_sV, if_neg h6, oV_sA, oV_sV, if_neg h4, oV_sV, if_neg h5]
  · intro j hj
    funext i
    rw [oA_sV, oA_sA, if_neg (fun z => hj z.1)]
    rfl
theorem s_remove (hN : N ≤ 1000) (h : RK N g K T) {t n k : Nat} (ht : oV g 5 = jI t) (ht2 : t ≤ 1000) (hn : K n = some k) : ∃ g', FX2_remove N (jI n) g = some g' ∧ RK N g' (ku K n none) T ∧ oV g' 5 = jI (min n t : Nat) ∧ oV g' 6 = oV g 6 - 1 ∧ (∀ j, j ≠ 5 → j ≠ 6 → oV g' j = oV g j) ∧ ∀ j, j ≠ 0 → oA g' j = oA g j := by
  have hTN := h.2.1
  have hT : n < T := by
    rcases Nat.lt_or_ge n T with c | c
    · exact c
    · rw [h.2.2.2.1 n c] at hn; cases hn
  have hk3 := h.2.2.2.2 n k hn
  refine ⟨sV (sV (sA g 0 n (jI (-1))) 5 (jI (min n t : Nat))) 6 (oV g 6 - 1), ?_, ⟨?_, by omega, ?_, ?_, ?_⟩, ?_, ?_, ?_, ?_⟩
  · unfold FX2_remove FX2_setKind
    rw [s_kindOf hN h n (by omega), b1_some, hn]
    simp (disch := omega) only [kI, j_0, j_1, j_2, j_3, j_4, j_5, j_6, j_7, j_8, j_10, j_16, j_31, j_32, j_39, j_60, j_80, j_126, j_180, j_539, j_540, j_900, j_999, j_1000, j_2000, jI_neg, jI_ofNat, jI_add, jI_sub, jI_mul, jI_lt, jI_le, jI_eq, jI_inb, jI_cl, Int.toNat_natCast, if_pos, if_neg, lT_eq, b1_some, b2_some, b3_some]
    have e : (if jI ↑n < oV (sA g 0 n (jI (-1))) 5 then jI ↑n else oV (sA g 0 n (jI (-1))) 5) = jI (min n t : Nat) := by
      rw [oV_sA, ht]
      by_cases c : n < t
      · simp (disch := omega) only [jI_lt, if_pos]
        congr 1
        omega
      · simp (disch := omega) only [jI_lt, if_neg]
        congr 1
        omega
    rw [e]
    rfl
  · rw [oV_sV, if_neg (by decide), oV_sV, if_neg (by decide), oV_sA]
    exact h.1
  · intro m hm
    rw [oA_sV, oA_sV, oA_sA]
    unfold ku
    by_cases c : m = n
    · subst c
      rw [if_pos ⟨rfl, rfl⟩, if_pos rfl]
      rfl
    · rw [if_neg (fun z => c z.2), if_neg c]
      exact h.2.2.1 m hm
  · intro m hm
    unfold ku
    rw [if_neg (by omega)]
    exact h.2.2.2.1 m hm
  · intro m k' hk'
    unfold ku at hk'
    by_cases c : m = n
    · rw [if_pos c] at hk'; cases hk'
    · rw [if_neg c] at hk'
      exact h.2.2.2.2 m k' hk'
  · rw [oV_sV, if_neg (by decide), oV_sV, if_pos rfl]
  · rw [oV_sV, if_pos rfl]
  · intro j h5 h6
    rw [oV_sV, if_neg h6, oV_sV, if_neg h5, oV_sA]
  · intro j hj
    funext i
    rw [oA_sV, oA_sV, oA_sA, if_neg (fun z => hj z.1)]
theorem s_headAt {q : Port} (hq : vp 1000 q) : FX2_headAt N (jI (cp q)) g = some (jI (if q.2 = 0 then (q.1 : Int) else -1)) := by
  have hl := cp_lt hq
  obtain ⟨n, s⟩ := q
  unfold FX2_headAt FX2_sideOf FX2_ownerOf
  rcases hq with ⟨h1, h2⟩ | ⟨h1, h2⟩
  · simp only at h1 h2
    have e : cp (n, s) = 16 + 3 * n + s := by
      unfold cp
      rw [if_neg (by simp only; omega)]
    rw [e] at hl ⊢
    simp (disch := omega) only [jI_rem3, jI_div3, j_0, j_1, j_2, j_3, j_4, j_5, j_6, j_7, j_8, j_10, j_16, j_31, j_32, j_39, j_60, j_80, j_126, j_180, j_539, j_540, j_900, j_999, j_1000, j_2000, jI_neg, jI_ofNat, jI_add, jI_sub, jI_mul, jI_lt, jI_le, jI_eq, jI_inb, jI_cl, Int.toNat_natCast, if_pos, if_neg, lT_eq, b1_some, b2_some, b3_some]
    by_cases c : s = 0
    · subst c
      simp (disch := omega) only [if_pos]
      rw [show (((16 + 3 * n + 0 : Nat) : Int) - 16) / 3 = (n : Int) from by omega]
      simp
    · simp (disch := omega) only [if_neg]
  · simp only at h1 h2
    subst h1
    have e : cp (n, 3) = n := rfl
    rw [e] at hl ⊢
    simp (disch := omega) only [j_0, j_1, j_2, j_3, j_4, j_5, j_6, j_7, j_8, j_10, j_16, j_31, j_32, j_39, j_60, j_80, j_126, j_180, j_539, j_540, j_900, j_999, j_1000, j_2000, jI_neg, jI_ofNat, jI_add, jI_sub, jI_mul, jI_lt, jI_le, jI_eq, jI_inb, jI_cl, Int.toNat_natCast, if_pos, if_neg, lT_eq, b1_some, b2_some, b3_some]
theorem vp_mono {N M : Nat} (h : N ≤ M) {p : Port} (hp : vp N p) : vp M p := by
  rcases hp with ⟨h1, h2⟩ | ⟨h1, h2⟩
  · exact Or.inl ⟨h1, by omega⟩
  · exact Or.inr ⟨h1, h2⟩
theorem s_partnerOf (hN : N ≤ 1000) (h : RK N g K T) (hw : RW N g w) {n : Nat} {q : Port} (hn : K n ≠ none) (hn2 : n < 1000) (hq : w (n, 0) = some q) : FX2_partnerOf N (jI n) g = some (jI (if q.2 = 0 then (q.1 : Int) else -1)) := by
  have k0 := kI_ne hn
  have k1 := (kI_range h n).2
  unfold FX2_partnerOf
  rw [s_kindOf hN h n (by omega), b1_some, if_neg (by rw [j_m1, jI_eq (by omega) (by omega) (by omega) (by omega)]; omega), j_0, s_port0, b1_some, s_across hN hw hq, b1_some, s_headAt (vp_mono hN (hw.1 _ _ hq).2.1), b1_some]
def sortS (kx ky : Nat) : Nat := if kx = ky then 1 else if kx = 0 ∨ ky = 0 then 3 else 2
theorem s_sortOf {kx ky : Nat} (a : kx < 1000) (b : ky < 1000) : FX2_sortOf (jI kx) (jI ky) = some (jI (sortS kx ky)) := by
  unfold FX2_sortOf sortS
  simp (disch := omega) only [j_0, j_1, j_2, j_3, j_4, j_5, j_6, j_7, j_8, j_10, j_16, j_31, j_32, j_39, j_60, j_80, j_126, j_180, j_539, j_540, j_900, j_999, j_1000, j_2000, jI_neg, jI_ofNat, jI_add, jI_sub, jI_mul, jI_lt, jI_le, jI_eq, jI_inb, jI_cl, Int.toNat_natCast, if_pos, if_neg, lT_eq, b1_some, b2_some, b3_some]
  by_cases c1 : kx = ky
  · rw [if_pos (by omega), if_pos c1]; rfl
  · rw [if_neg (by omega), if_neg c1]
    by_cases c2 : kx = 0
    · rw [if_pos (by omega), if_pos (Or.inl c2)]; rfl
    · rw [if_neg (by omega)]
      by_cases c3 : ky = 0
      · rw [if_pos (by omega), if_pos (Or.inr c3)]; rfl
      · rw [if_neg (by omega), if_neg (by omega)]; rfl
end GP
