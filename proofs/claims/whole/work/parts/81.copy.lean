/-! copies of nets: in the reference, in the class -/
/-- slot b holds this net -/
def Sl (b : Nat) (o : Ob) (K : Kd) (w : Wr) (r : Nat) : Prop := RMk b o K ∧ RMw b o w ∧ oA o 3 b = jI r
theorem MS_of {b : Nat} {o : Ob} {K : Kd} {w : Wr} {r : Nat} (h4 : oV o 4 = jI b) (h : Sl b o K w r) : MS b o K w r := ⟨h4, h⟩
/-- row k, Z places from Z * t on, is as it was from Z * f on -/
def Cq (k Z t f i : Nat) (o u : Ob) : Prop := (∀ j, oA u k j = if Z * t ≤ j ∧ j < Z * t + i then oA o k (Z * f + (j - Z * t)) else oA o k j) ∧ (∀ k', k' ≠ k → oA u k' = oA o k') ∧ (∀ k', oV u k' = oV o k') ∧ ∀ k', oL u k' = oL o k'
theorem Cq_0 (k Z t f : Nat) (o : Ob) : Cq k Z t f 0 o o := ⟨fun j => by rw [if_neg (by omega)], fun _ _ => rfl, fun _ => rfl, fun _ => rfl⟩
theorem Cq_s {k Z t f i : Nat} {o u : Ob} (h : Cq k Z t f i o u) (hi : i < Z) (hd : Z * f + Z ≤ Z * t ∨ Z * t + Z ≤ Z * f) : Cq k Z t f (i + 1) o (sA u k (Z * t + i) (oA u k (Z * f + i))) := by
  obtain ⟨h1, h2, h3, h4⟩ := h
  refine ⟨fun j => ?_, fun k' hk' => ?_, h3, h4⟩
  · rw [oA_sA]
    by_cases c : j = Z * t + i
    · rw [if_pos ⟨rfl, c⟩, if_pos (by omega), h1, if_neg (by omega)]
      congr 1
      omega
    · rw [if_neg (fun z => c z.2), h1]
      by_cases c2 : Z * t ≤ j ∧ j < Z * t + i
      · rw [if_pos c2, if_pos (by omega)]
      · rw [if_neg c2, if_neg (by omega)]
  · rw [← h2 k' hk']
    funext j
    rw [oA_sA, if_neg (fun z => hk' z.1)]
theorem slots {t f Z : Nat} (h : t ≠ f) : Z * f + Z ≤ Z * t ∨ Z * t + Z ≤ Z * f := by
  rcases Nat.lt_or_ge f t with c | c
  · left
    calc Z * f + Z = Z * (f + 1) := by rw [Nat.mul_add, Nat.mul_one]
      _ ≤ Z * t := Nat.mul_le_mul_left Z c
  · right
    have c' : t + 1 ≤ f := by omega
    calc Z * t + Z = Z * (t + 1) := by rw [Nat.mul_add, Nat.mul_one]
      _ ≤ Z * f := Nat.mul_le_mul_left Z c'
theorem m_copy_2 {t f : Nat} (ht : t < 4) (hf : f < 4) (hne : t ≠ f) (E : Ob → Option Ob) (o : Ob) : ∀ (d i n : Nat) (u : Ob), i + d = 180 → d < n → Cq 0 180 t f i o u → ∃ u', LX7_copy_2 (jI t) (jI f) E n (jI i) u = E u' ∧ Cq 0 180 t f 180 o u' := by
  intro d
  induction d with
  | zero =>
    intro i n u hi hn hc
    obtain ⟨n, rfl⟩ : ∃ n', n = n' + 1 := ⟨n - 1, by omega⟩
    have e : i = 180 := by omega
    subst e
    exact ⟨u, by rw [LX7_copy_2.eq_2, if_pos (by rw [j_180, jI_le (by omega) (by omega) (by omega) (by omega)]; omega)], hc⟩
  | succ d ih =>
    intro i n u hi hn hc
    obtain ⟨n, rfl⟩ : ∃ n', n = n' + 1 := ⟨n - 1, by omega⟩
    have e1 : ((180 : Int32) * jI t) + jI i = jI ((180 * t + i : Nat)) := by rw [j_180, jI_mul, jI_add]; rfl
    have e2 : ((180 : Int32) * jI f) + jI i = jI ((180 * f + i : Nat)) := by rw [j_180, jI_mul, jI_add]; rfl
    have nx : jI (i : Int) + 1 = jI ((i + 1 : Nat)) := jI_p1 i
    obtain ⟨u', h1, h2⟩ := ih (i + 1) n _ (by omega) (by omega) (Cq_s hc (by omega) (slots hne))
    refine ⟨u', ?_, h2⟩
    rw [LX7_copy_2.eq_2, if_neg (by rw [j_180, jI_le (by omega) (by omega) (by omega) (by omega)]; omega), e1, e2, if_pos (by rw [jI_inb (by omega) (by omega)]; omega), if_pos (by rw [jI_inb (by omega) (by omega)]; omega), lT_eq, lT_eq, nx, jI_cl (by omega) (by omega), jI_cl (by omega) (by omega), Int.toNat_natCast, Int.toNat_natCast]
    exact h1
theorem m_copy_41 {t f : Nat} (ht : t < 4) (hf : f < 4) (hne : t ≠ f) (E : Ob → Option Ob) (o : Ob) : ∀ (d i n : Nat) (u : Ob), i + d = 540 → d < n → Cq 1 540 t f i o u → ∃ u', LX7_copy_41 (jI t) (jI f) E n (jI i) u = E u' ∧ Cq 1 540 t f 540 o u' := by
  intro d
  induction d with
  | zero =>
    intro i n u hi hn hc
    obtain ⟨n, rfl⟩ : ∃ n', n = n' + 1 := ⟨n - 1, by omega⟩
    have e : i = 540 := by omega
    subst e
    exact ⟨u, by rw [LX7_copy_41.eq_2, if_pos (by rw [j_540, jI_le (by omega) (by omega) (by omega) (by omega)]; omega)], hc⟩
  | succ d ih =>
    intro i n u hi hn hc
    obtain ⟨n, rfl⟩ : ∃ n', n = n' + 1 := ⟨n - 1, by omega⟩
    have e1 : ((540 : Int32) * jI t) + jI i = jI ((540 * t + i : Nat)) := by rw [j_540, jI_mul, jI_add]; rfl
    have e2 : ((540 : Int32) * jI f) + jI i = jI ((540 * f + i : Nat)) := by rw [j_540, jI_mul, jI_add]; rfl
    have nx : jI (i : Int) + 1 = jI ((i + 1 : Nat)) := jI_p1 i
    obtain ⟨u', h1, h2⟩ := ih (i + 1) n _ (by omega) (by omega) (Cq_s hc (by omega) (slots hne))
    refine ⟨u', ?_, h2⟩
    rw [LX7_copy_41.eq_2, if_neg (by rw [j_540, jI_le (by omega) (by omega) (by omega) (by omega)]; omega), e1, e2, if_pos (by rw [jI_inb (by omega) (by omega)]; omega), if_pos (by rw [jI_inb (by omega) (by omega)]; omega), lT_eq, lT_eq, nx, jI_cl (by omega) (by omega), jI_cl (by omega) (by omega), Int.toNat_natCast, Int.toNat_natCast]
    exact h1
theorem m_copy_80 {t f : Nat} (ht : t < 4) (hf : f < 4) (hne : t ≠ f) (E : Ob → Option Ob) (o : Ob) : ∀ (d i n : Nat) (u : Ob), i + d = 8 → d < n → Cq 2 8 t f i o u → ∃ u', LX7_copy_80 (jI t) (jI f) E n (jI i) u = E u' ∧ Cq 2 8 t f 8 o u' := by
  intro d
  induction d with
  | zero =>
    intro i n u hi hn hc
    obtain ⟨n, rfl⟩ : ∃ n', n = n' + 1 := ⟨n - 1, by omega⟩
    have e : i = 8 := by omega
    subst e
    exact ⟨u, by rw [LX7_copy_80.eq_2, if_pos (by rw [j_8, jI_le (by omega) (by omega) (by omega) (by omega)]; omega)], hc⟩
  | succ d ih =>
    intro i n u hi hn hc
    obtain ⟨n, rfl⟩ : ∃ n', n = n' + 1 := ⟨n - 1, by omega⟩
    have e1 : ((8 : Int32) * jI t) + jI i = jI ((8 * t + i : Nat)) := by rw [j_8, jI_mul, jI_add]; rfl
    have e2 : ((8 : Int32) * jI f) + jI i = jI ((8 * f + i : Nat)) := by rw [j_8, jI_mul, jI_add]; rfl
    have nx : jI (i : Int) + 1 = jI ((i + 1 : Nat)) := jI_p1 i
    obtain ⟨u', h1, h2⟩ := ih (i + 1) n _ (by omega) (by omega) (Cq_s hc (by omega) (slots hne))
    refine ⟨u', ?_, h2⟩
    rw [LX7_copy_80.eq_2, if_neg (by rw [j_8, jI_le (by omega) (by omega) (by omega) (by omega)]; omega), e1, e2, if_pos (by rw [jI_inb (by omega) (by omega)]; omega), if_pos (by rw [jI_inb (by omega) (by omega)]; omega), lT_eq, lT_eq, nx, jI_cl (by omega) (by omega), jI_cl (by omega) (by omega), Int.toNat_natCast, Int.toNat_natCast]
    exact h1
theorem Cq_in {k Z t f : Nat} {o u : Ob} (h : Cq k Z t f Z o u) {i : Nat} (hi : i < Z) : oA u k (Z * t + i) = oA o k (Z * f + i) := by
  rw [h.1, if_pos (by omega)]
  congr 1
  omega
theorem Cq_out {k Z t f : Nat} {o u : Ob} (h : Cq k Z t f Z o u) {j : Nat} (hj : ¬ (Z * t ≤ j ∧ j < Z * t + Z)) : oA u k j = oA o k j := by
  rw [h.1, if_neg hj]
theorem m_copy {t f : Nat} (ht : t < 4) (hf : f < 4) (hne : t ≠ f) (o : Ob) : ∃ o', FX7_copy (jI t) (jI f) o = some o' ∧ (∀ i, i < 180 → oA o' 0 (180 * t + i) = oA o 0 (180 * f + i)) ∧ (∀ i, i < 540 → oA o' 1 (540 * t + i) = oA o 1 (540 * f + i)) ∧ (∀ i, i < 8 → oA o' 2 (8 * t + i) = oA o 2 (8 * f + i)) ∧ oA o' 3 t = oA o 3 f ∧ Fm t o o' ∧ ∀ k, 3 < k → oA o' k = oA o k := by
  obtain ⟨o1, q1, h1⟩ := m_copy_2 ht hf hne (fun o0_8 => LX7_copy_41 (jI t) (jI f) (fun o0_16 => LX7_copy_80 (jI t) (jI f) (fun o0_24 => if inb (jI (f : Int)) 4 then if inb (jI (t : Int)) 4 then lT (sA o0_24 3 (jI (t : Int)).toNatClampNeg (oA o0_24 3 (jI (f : Int)).toNatClampNeg)) fun o0_28 => some o0_28 else none else none) fu (0 : Int32) o0_16) fu (0 : Int32) o0_8) o 180 0 fu o (by omega) (by rw [fu_eq]; omega) (Cq_0 _ _ _ _ _)
  obtain ⟨o2, q2, h2⟩ := m_copy_41 ht hf hne (fun o0_16 => LX7_copy_80 (jI t) (jI f) (fun o0_24 => if inb (jI (f : Int)) 4 then if inb (jI (t : Int)) 4 then lT (sA o0_24 3 (jI (t : Int)).toNatClampNeg (oA o0_24 3 (jI (f : Int)).toNatClampNeg)) fun o0_28 => some o0_28 else none else none) fu (0 : Int32) o0_16) o1 540 0 fu o1 (by omega) (by rw [fu_eq]; omega) (Cq_0 _ _ _ _ _)
  obtain ⟨o3, q3, h3⟩ := m_copy_80 ht hf hne (fun o0_24 => if inb (jI (f : Int)) 4 then if inb (jI (t : Int)) 4 then lT (sA o0_24 3 (jI (t : Int)).toNatClampNeg (oA o0_24 3 (jI (f : Int)).toNatClampNeg)) fun o0_28 => some o0_28 else none else none) o2 8 0 fu o2 (by omega) (by rw [fu_eq]; omega) (Cq_0 _ _ _ _ _)
  have tc : (jI (t : Int)).toNatClampNeg = t := by rw [jI_cl (by omega) (by omega), Int.toNat_natCast]
  have fc : (jI (f : Int)).toNatClampNeg = f := by rw [jI_cl (by omega) (by omega), Int.toNat_natCast]
  have r3 : ∀ k, k ≠ 3 → oA (sA o3 3 t (oA o3 3 f)) k = oA o3 k := fun k hk => by funext j; rw [oA_sA, if_neg (fun z => hk z.1)]
  refine ⟨sA o3 3 t (oA o3 3 f), ?_, fun i hi => ?_, fun i hi => ?_, fun i hi => ?_, ?_, ⟨fun i hi => ?_, fun i hi => ?_, fun i hi => ?_, fun i hi => ?_, fun k h1' h2' => ?_, fun k => ?_, fun k => ?_⟩, fun k hk => ?_⟩
  · unfold FX7_copy
    rw [show (0 : Int32) = jI ((0 : Nat) : Int) from rfl] at q1 q2 ⊢
    rw [q1, q2, q3, if_pos (by rw [jI_inb (by omega) (by omega)]; omega), if_pos (by rw [jI_inb (by omega) (by omega)]; omega), lT_eq, tc, fc]
  · rw [r3 0 (by omega), h3.2.1 0 (by omega), h2.2.1 0 (by omega)]; exact Cq_in h1 hi
  · rw [r3 1 (by omega), h3.2.1 1 (by omega), Cq_in h2 hi, h1.2.1 1 (by omega)]
  · rw [r3 2 (by omega), Cq_in h3 hi, h2.2.1 2 (by omega), h1.2.1 2 (by omega)]
  · rw [oA_sA, if_pos ⟨rfl, rfl⟩, h3.2.1 3 (by omega), h2.2.1 3 (by omega), h1.2.1 3 (by omega)]
  · rw [r3 0 (by omega), h3.2.1 0 (by omega), h2.2.1 0 (by omega)]; exact Cq_out h1 hi
  · rw [r3 1 (by omega), h3.2.1 1 (by omega), Cq_out h2 hi, h1.2.1 1 (by omega)]
  · rw [r3 2 (by omega), Cq_out h3 hi, h2.2.1 2 (by omega), h1.2.1 2 (by omega)]
  · rw [oA_sA, if_neg (fun z => hi z.2), h3.2.1 3 (by omega), h2.2.1 3 (by omega), h1.2.1 3 (by omega)]
  · rw [r3 k (by omega), h3.2.1 k (by omega), h2.2.1 k (by omega), h1.2.1 k (by omega)]
  · rw [oV_sA, h3.2.2.1, h2.2.2.1, h1.2.2.1]
  · show oL o3 k = _
    rw [h3.2.2.2, h2.2.2.2, h1.2.2.2]
  · rw [r3 k (by omega), h3.2.1 k (by omega), h2.2.1 k (by omega), h1.2.1 k (by omega)]
section CO
variable {K : Kd} {w : Wr} {r : Nat}
theorem Sl_copy {t f : Nat} (ht : t < 4) (hf : f < 4) (hne : t ≠ f) {o : Ob} (h : Sl f o K w r) : ∃ o', FX7_copy (jI t) (jI f) o = some o' ∧ Sl t o' K w r ∧ Fm t o o' ∧ ∀ k, 3 < k → oA o' k = oA o k := by
  obtain ⟨o', h1, h2, h3, h4, h5, h6, h7⟩ := m_copy ht hf hne o
  refine ⟨o', h1, ⟨⟨fun n hn => ?_, h.1.2⟩, ⟨fun p q hp => ?_, fun i hi hp => ?_⟩, ?_⟩, h6, h7⟩
  · rw [h2 n hn]; exact h.1.1 n hn
  · obtain ⟨a, b, c⟩ := h.2.1.1 p q hp
    refine ⟨a, b, ?_⟩
    rw [← c]
    unfold ma
    rcases a with ⟨a1, a2⟩ | ⟨a1, a2⟩
    · rw [if_neg (by omega), if_neg (by omega), Nat.add_assoc, Nat.add_assoc]
      exact h3 _ (by omega)
    · rw [if_pos a1, if_pos a1]
      exact h4 _ a2
  · rw [h4 i hi]; exact h.2.1.2 i hi hp
  · rw [h5]; exact h.2.2
/-- the other slots stay -/
theorem Sl_Fm {b c : Nat} {o o' : Ob} (hbc : c ≠ b) (h : Sl c o K w r) (hf : Fm b o o') : Sl c o' K w r := by
  obtain ⟨f0, f1, f2, f3, -⟩ := hf
  refine ⟨⟨fun n hn => ?_, h.1.2⟩, ⟨fun p q hp => ?_, fun i hi hp => ?_⟩, ?_⟩
  · rw [f0 _ (by omega)]; exact h.1.1 n hn
  · obtain ⟨a, b', d⟩ := h.2.1.1 p q hp
    refine ⟨a, b', ?_⟩
    rw [← d]
    unfold ma
    rcases a with ⟨a1, a2⟩ | ⟨a1, a2⟩
    · rw [if_neg (by omega), if_neg (by omega)]
      exact f1 _ (by omega)
    · rw [if_pos a1, if_pos a1]
      exact f2 _ (by omega)
  · rw [f2 _ (by omega)]; exact h.2.1.2 i hi hp
  · rw [f3 c hbc]; exact h.2.2
theorem cnt_ext {N : Nat} : ∀ {M : Nat}, N ≤ M → (∀ n, N ≤ n → K n = none) → cnt K M = cnt K N := by
  intro M
  induction M with
  | zero => intro h _; rw [show N = 0 from by omega]
  | succ M ih =>
    intro h hk
    by_cases c : N = M + 1
    · rw [c]
    · show cnt K M + _ = _
      rw [ih (by omega) hk, if_pos (hk M (by omega))]
      rfl
theorem s_copyFrom {N N' : Nat} (hN : N ≤ 1000) (hN' : N' ≤ 1000) (hF : WF K w) {g g0 : Ob} (h : RGr N' g K w r) (hk : ∀ n, N ≤ n → K n = none) : ∃ g', FX2_copyFrom N N' g0 g = some g' ∧ RGr N g' K w r ∧ (∀ j, j < 4 → oA g' 3 j = oA g 3 j) ∧ oA g' 2 = oA g0 2 ∧ oV g' 8 = oV g0 8 ∧ oV g' 9 = oV g0 9 := by
  obtain ⟨T, t, hK, hW, hr, ht, htk, hc⟩ := h
  have hT := hK.2.1
  have hm : (if (Int32.ofNat N) < (oV g 4) then Int32.ofNat N else oV g 4) = jI ((min T N : Nat)) := by
    rw [hK.1, jI_ofNat]
    by_cases c : N < T
    · rw [if_pos (by rw [jI_lt (by omega) (by omega) (by omega) (by omega)]; omega)]
      congr 2
      omega
    · rw [if_neg (by rw [jI_lt (by omega) (by omega) (by omega) (by omega)]; omega)]
      congr 2
      omega
  have tc : (jI ((min T N : Nat) : Int)).toNatClampNeg = min T N := by rw [jI_cl (by omega) (by omega), Int.toNat_natCast]
  have e16 : (16 : Int32) + (3 : Int32) * jI ((min T N : Nat)) = jI ((16 + 3 * min T N : Nat)) := by rw [j_16, j_3, jI_mul, jI_add]; rfl
  have ec : (jI ((16 + 3 * min T N : Nat) : Int)).toNatClampNeg = 16 + 3 * min T N := by rw [jI_cl (by omega) (by omega), Int.toNat_natCast]
  have z0 : (0 : Int32).toNatClampNeg = 0 := rfl
  have z4 : (4 : Int32).toNatClampNeg = 4 := rfl
  have al : ∀ n, K n ≠ none → n < min T N := fun n hn => by
    rcases Nat.lt_or_ge n (min T N) with c | c
    · exact c
    · exfalso
      rcases Nat.lt_or_ge n N with c2 | c2
      · exact hn (hK.2.2.2.1 n (by omega))
      · exact hn (hk n c2)
  let g1 : Ob := sV g0 4 (jI ((min T N : Nat)))
  let g2 : Ob := sR g1 0 (va_cpy (oA g 0) (oA g1 0) 0 0 (min T N))
  let g3 : Ob := sR g2 1 (va_cpy (oA g 1) (oA g2 1) 0 0 (16 + 3 * min T N))
  let g4 : Ob := sR g3 3 (va_cpy (oA g 3) (oA g3 3) 0 0 4)
  let g5 : Ob := sV (sV (sV g4 5 (oV g 5)) 6 (oV g 6)) 7 (oV g 7)
  have r0 : oA g5 0 = va_cpy (oA g 0) (oA g1 0) 0 0 (min T N) := rfl
  have r1 : oA g5 1 = va_cpy (oA g 1) (oA g2 1) 0 0 (16 + 3 * min T N) := rfl
  have r3 : oA g5 3 = va_cpy (oA g 3) (oA g3 3) 0 0 4 := rfl
  refine ⟨g5, ?_, ⟨min T N, t, ⟨rfl, by omega, fun n hn => ?_, fun n hn => ?_, hK.2.2.2.2⟩, ⟨fun p q hp => ?_, fun i hi hp => ?_⟩, hr, ht, htk, ?_⟩, fun j hj => ?_, rfl, rfl, rfl⟩
  · unfold FX2_copyFrom
    rw [lT_eq, hm]
    have c1 : cpok (0 : Int32) (0 : Int32) (jI ((min T N : Nat))) N' N := ⟨by decide, by decide, by rw [j_0, jI_lt (by omega) (by omega) (by omega) (by omega)]; omega, by rw [z0, tc]; omega, by rw [z0, tc]; omega⟩
    have c2 : cpok (0 : Int32) (0 : Int32) ((16 : Int32) + (3 : Int32) * jI ((min T N : Nat))) (16 + 3 * N') (16 + 3 * N) := by
      rw [e16]
      exact ⟨by decide, by decide, by rw [j_0, jI_lt (by omega) (by omega) (by omega) (by omega)]; omega, by rw [z0, ec]; omega, by rw [z0, ec]; omega⟩
    have c3 : cpok (0 : Int32) (0 : Int32) (4 : Int32) 4 4 := ⟨by decide, by decide, by decide, by decide, by decide⟩
    refine (if_pos c1).trans ?_
    refine (if_pos c2).trans ?_
    have e5 : g5 = sV (sV (sV (sR (sR (sR g1 0 (va_cpy (oA g 0) (oA g1 0) (0 : Int32).toNatClampNeg (0 : Int32).toNatClampNeg (jI ((min T N : Nat) : Int)).toNatClampNeg)) 1 (va_cpy (oA g 1) (oA g1 1) (0 : Int32).toNatClampNeg (0 : Int32).toNatClampNeg ((16 : Int32) + (3 : Int32) * jI ((min T N : Nat))).toNatClampNeg)) 3 (va_cpy (oA g 3) (oA g1 3) (0 : Int32).toNatClampNeg (0 : Int32).toNatClampNeg (4 : Int32).toNatClampNeg)) 5 (oV g 5)) 6 (oV g 6)) 7 (oV g 7) := by
      rw [e16, ec, tc, z0, z4]
      rfl
    rw [e5]
    rfl
  · rw [r0, pk_cpy_in (by omega) (by omega), hK.2.2.1 _ (by omega)]
    congr 3
    omega
  · rcases Nat.lt_or_ge n N with c2 | c2
    · exact hK.2.2.2.1 n (by omega)
    · exact hk n c2
  · obtain ⟨a, b, c⟩ := hW.1 p q hp
    have vv : ∀ p, vp N' p → w p ≠ none → vp N p ∧ cp p < 16 + 3 * min T N := by
      intro p hv hw
      rcases hv with ⟨v1, v2⟩ | ⟨v1, v2⟩
      · have hn := al p.1 (alive_of hF v1 hw)
        refine ⟨Or.inl ⟨v1, by omega⟩, ?_⟩
        unfold cp
        rw [if_neg (by omega)]
        omega
      · refine ⟨Or.inr ⟨v1, v2⟩, ?_⟩
        unfold cp
        rw [if_pos v1]
        omega
    have vp1 := vv p a (by rw [hp]; exact fun z => by cases z)
    have vq1 := vv q b (by rw [(hF.1 _ _ hp).1]; exact fun z => by cases z)
    refine ⟨vp1.1, vq1.1, ?_⟩
    rw [r1, pk_cpy_in (by omega) (by have := vp1.2; omega), ← c]
    congr 1
    omega
  · rw [r1, pk_cpy_in (by omega) (by omega), ← hW.2 i hi hp]
    congr 1
    omega
  · show oV g 6 = _
    rw [hc]
    congr 2
    rcases Nat.lt_or_ge N N' with c | c
    · exact cnt_ext (by omega) hk
    · exact (cnt_ext c (fun n hn => hK.2.2.2.1 n (by omega))).symm
  · rw [r3, pk_cpy_in (by omega) (by omega)]
    congr 1
    omega
end CO
