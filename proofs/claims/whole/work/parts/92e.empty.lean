/-! an empty slot of the reference -/
def Ez (k Z b i : Nat) (o v : Ob) : Prop := (∀ j, oA v k j = if Z * b ≤ j ∧ j < Z * b + i then jI (-1) else oA o k j) ∧ (∀ k', k' ≠ k → oA v k' = oA o k') ∧ (∀ k', oV v k' = oV o k') ∧ ∀ k', oL v k' = oL o k'
theorem Ez_0 (k Z b : Nat) (o : Ob) : Ez k Z b 0 o o := ⟨fun j => by rw [if_neg (by omega)], fun _ _ => rfl, fun _ => rfl, fun _ => rfl⟩
theorem Ez_s {k Z b i : Nat} {o v : Ob} (h : Ez k Z b i o v) : Ez k Z b (i + 1) o (sA v k (Z * b + i) (-1)) := by
  obtain ⟨h1, h2, h3, h4⟩ := h
  refine ⟨fun j => ?_, fun k' hk => by rw [sA_ne _ _ _ hk]; exact h2 k' hk, fun k' => h3 k', fun k' => h4 k'⟩
  rw [sA_rw, h1]
  by_cases c : j = Z * b + i
  · rw [if_pos c, if_pos (by omega)]; rfl
  · rw [if_neg c]
    by_cases c2 : Z * b ≤ j ∧ j < Z * b + i
    · rw [if_pos c2, if_pos (by omega)]
    · rw [if_neg c2, if_neg (by omega)]
theorem m_empty_2 {b : Nat} (hb : b < 4) (E : Ob → Option Ob) (o : Ob) (h4 : oV o 4 = jI b) : ∀ (d i F : Nat) (v : Ob), i + d = 180 → d < F → Ez 0 180 b i o v → ∃ v', LX7_empty_2 E F (jI i) v = E v' ∧ Ez 0 180 b 180 o v' := by
  intro d
  induction d with
  | zero =>
    intro i F v hi hF h
    obtain ⟨F, rfl⟩ : ∃ f', F = f' + 1 := ⟨F - 1, by omega⟩
    have e : i = 180 := by omega
    subst e
    exact ⟨v, by rw [LX7_empty_2.eq_2, j_180, if_pos (by rw [jI_le (by omega) (by omega) (by omega) (by omega)]; omega)], h⟩
  | succ d ih =>
    intro i F v hi hF h
    obtain ⟨F, rfl⟩ : ∃ f', F = f' + 1 := ⟨F - 1, by omega⟩
    obtain ⟨v', q1, q2⟩ := ih (i + 1) F _ (by omega) (by omega) (Ez_s h)
    refine ⟨v', ?_, q2⟩
    have e1 : ((180 : Int32) * jI b) + jI i = jI ((180 * b + i : Nat)) := by rw [j_180, jI_mul, jI_add]; rfl
    rw [LX7_empty_2.eq_2, if_neg (by rw [j_180, jI_le (by omega) (by omega) (by omega) (by omega)]; omega), h.2.2.1 4, h4, e1, if_pos (by rw [jI_inb (by omega) (by omega)]; omega), lT_eq, lT_eq, jI_p1, jc _ (by omega)]
    exact q1
theorem m_empty_33 {b : Nat} (hb : b < 4) (E : Ob → Option Ob) (o : Ob) (h4 : oV o 4 = jI b) : ∀ (d i F : Nat) (v : Ob), i + d = 540 → d < F → Ez 1 540 b i o v → ∃ v', LX7_empty_33 E F (jI i) v = E v' ∧ Ez 1 540 b 540 o v' := by
  intro d
  induction d with
  | zero =>
    intro i F v hi hF h
    obtain ⟨F, rfl⟩ : ∃ f', F = f' + 1 := ⟨F - 1, by omega⟩
    have e : i = 540 := by omega
    subst e
    exact ⟨v, by rw [LX7_empty_33.eq_2, j_540, if_pos (by rw [jI_le (by omega) (by omega) (by omega) (by omega)]; omega)], h⟩
  | succ d ih =>
    intro i F v hi hF h
    obtain ⟨F, rfl⟩ : ∃ f', F = f' + 1 := ⟨F - 1, by omega⟩
    obtain ⟨v', q1, q2⟩ := ih (i + 1) F _ (by omega) (by omega) (Ez_s h)
    refine ⟨v', ?_, q2⟩
    have e1 : ((540 : Int32) * jI b) + jI i = jI ((540 * b + i : Nat)) := by rw [j_540, jI_mul, jI_add]; rfl
    rw [LX7_empty_33.eq_2, if_neg (by rw [j_540, jI_le (by omega) (by omega) (by omega) (by omega)]; omega), h.2.2.1 4, h4, e1, if_pos (by rw [jI_inb (by omega) (by omega)]; omega), lT_eq, lT_eq, jI_p1, jc _ (by omega)]
    exact q1
theorem m_empty_64 {b : Nat} (hb : b < 4) (E : Ob → Option Ob) (o : Ob) (h4 : oV o 4 = jI b) : ∀ (d i F : Nat) (v : Ob), i + d = 8 → d < F → Ez 2 8 b i o v → ∃ v', LX7_empty_64 E F (jI i) v = E v' ∧ Ez 2 8 b 8 o v' := by
  intro d
  induction d with
  | zero =>
    intro i F v hi hF h
    obtain ⟨F, rfl⟩ : ∃ f', F = f' + 1 := ⟨F - 1, by omega⟩
    have e : i = 8 := by omega
    subst e
    exact ⟨v, by rw [LX7_empty_64.eq_2, j_8, if_pos (by rw [jI_le (by omega) (by omega) (by omega) (by omega)]; omega)], h⟩
  | succ d ih =>
    intro i F v hi hF h
    obtain ⟨F, rfl⟩ : ∃ f', F = f' + 1 := ⟨F - 1, by omega⟩
    obtain ⟨v', q1, q2⟩ := ih (i + 1) F _ (by omega) (by omega) (Ez_s h)
    refine ⟨v', ?_, q2⟩
    have e1 : ((8 : Int32) * jI b) + jI i = jI ((8 * b + i : Nat)) := by rw [j_8, jI_mul, jI_add]; rfl
    rw [LX7_empty_64.eq_2, if_neg (by rw [j_8, jI_le (by omega) (by omega) (by omega) (by omega)]; omega), h.2.2.1 4, h4, e1, if_pos (by rw [jI_inb (by omega) (by omega)]; omega), lT_eq, lT_eq, jI_p1, jc _ (by omega)]
    exact q1
theorem Sl_empty {b : Nat} {o : Ob} (h0 : ∀ i, i < 180 → oA o 0 (180 * b + i) = jI (-1)) (h2 : ∀ i, i < 8 → oA o 2 (8 * b + i) = jI (-1)) (h3 : oA o 3 b = 0) : Sl b o (fun _ => none) (fun _ => none) 0 :=
  ⟨⟨fun n hn => h0 n hn, fun _ _ => rfl, fun n k hk => by cases hk⟩, ⟨fun p q hp => (by cases hp), fun i hi _ => h2 i hi⟩, h3⟩
theorem m_empty {b : Nat} (hb : b < 4) {o : Ob} (h4 : oV o 4 = jI b) : ∃ o', FX7_empty o = some o' ∧ (∀ i, i < 180 → oA o' 0 (180 * b + i) = jI (-1)) ∧ (∀ i, i < 540 → oA o' 1 (540 * b + i) = jI (-1)) ∧ (∀ i, i < 8 → oA o' 2 (8 * b + i) = jI (-1)) ∧ oA o' 3 b = 0 ∧ Fm b o o' ∧ ∀ k, 3 < k → oA o' k = oA o k := by
  obtain ⟨o1, q1, h1⟩ := m_empty_2 hb (fun o0_7 => LX7_empty_33 (fun o0_14 => LX7_empty_64 (fun o0_21 => if inb (oV o0_21 4) 4 then lT (sA o0_21 3 (oV o0_21 4).toNatClampNeg (0 : Int32)) fun o0_24 => some o0_24 else none) fu (0 : Int32) o0_14) fu (0 : Int32) o0_7) o h4 180 0 fu o (by omega) (by rw [fu_eq]; omega) (Ez_0 _ _ _ _)
  obtain ⟨o2, q2, h2⟩ := m_empty_33 hb (fun o0_14 => LX7_empty_64 (fun o0_21 => if inb (oV o0_21 4) 4 then lT (sA o0_21 3 (oV o0_21 4).toNatClampNeg (0 : Int32)) fun o0_24 => some o0_24 else none) fu (0 : Int32) o0_14) o1 (by rw [h1.2.2.1]; exact h4) 540 0 fu o1 (by omega) (by rw [fu_eq]; omega) (Ez_0 _ _ _ _)
  obtain ⟨o3, q3, h3⟩ := m_empty_64 hb (fun o0_21 => if inb (oV o0_21 4) 4 then lT (sA o0_21 3 (oV o0_21 4).toNatClampNeg (0 : Int32)) fun o0_24 => some o0_24 else none) o2 (by rw [h2.2.2.1, h1.2.2.1]; exact h4) 8 0 fu o2 (by omega) (by rw [fu_eq]; omega) (Ez_0 _ _ _ _)
  have v3 : oV o3 4 = jI b := by rw [h3.2.2.1, h2.2.2.1, h1.2.2.1]; exact h4
  have r3 : ∀ k, k ≠ 3 → oA (sA o3 3 b 0) k = oA o3 k := fun k hk => sA_ne _ _ _ hk
  refine ⟨sA o3 3 b 0, ?_, fun i hi => ?_, fun i hi => ?_, fun i hi => ?_, by rw [sA_rw, if_pos rfl], ⟨fun i hi => ?_, fun i hi => ?_, fun i hi => ?_, fun i hi => ?_, fun k h1' h2' => ?_, fun k => ?_, fun k => ?_⟩, fun k hk => ?_⟩
  · unfold FX7_empty
    refine q1.trans (q2.trans (q3.trans ?_))
    rw [v3, if_pos (by rw [jI_inb (by omega) (by omega)]; omega), lT_eq, jc _ (by omega)]
  · rw [r3 0 (by omega), h3.2.1 0 (by omega), h2.2.1 0 (by omega), h1.1, if_pos (by omega)]
  · rw [r3 1 (by omega), h3.2.1 1 (by omega), h2.1, if_pos (by omega)]
  · rw [r3 2 (by omega), h3.1, if_pos (by omega)]
  · rw [r3 0 (by omega), h3.2.1 0 (by omega), h2.2.1 0 (by omega), h1.1, if_neg hi]
  · rw [r3 1 (by omega), h3.2.1 1 (by omega), h2.1, if_neg hi, h1.2.1 1 (by omega)]
  · rw [r3 2 (by omega), h3.1, if_neg hi, h2.2.1 2 (by omega), h1.2.1 2 (by omega)]
  · rw [sA_rw, if_neg hi, h3.2.1 3 (by omega), h2.2.1 3 (by omega), h1.2.1 3 (by omega)]
  · rw [r3 k (by omega), h3.2.1 k (by omega), h2.2.1 k (by omega), h1.2.1 k (by omega)]
  · rw [oV_sA, h3.2.2.1, h2.2.2.1, h1.2.2.1]
  · show oL o3 k = _
    rw [h3.2.2.2, h2.2.2.2, h1.2.2.2]
  · rw [r3 k (by omega), h3.2.1 k (by omega), h2.2.1 k (by omega), h1.2.1 k (by omega)]
