/-! an image, counts, what is told of a node -/
section C8
variable {n : Nat} {M : Nat → Ob} {o : Ob}
theorem m_image_31 (E : Ob → Option (Int32 × Ob)) (o : Ob) : ∀ (e i F : Nat) (u : Ob), i + e = 4 → e < F → (∀ j, j < i → oA u 45 j = oA o 6 j) → (∀ k, k ≠ 45 → oA u k = oA o k) → (∀ k, oV u k = oV o k) → ∃ u', LX7_image_31 E F (jI i) u = E u' ∧ (∀ j, j < 4 → oA u' 45 j = oA o 6 j) ∧ (∀ k, k ≠ 45 → oA u' k = oA o k) ∧ ∀ k, oV u' k = oV o k := by
  intro e
  induction e with
  | zero =>
    intro i F u hi hF h1 h2 h3
    obtain ⟨F, rfl⟩ : ∃ f', F = f' + 1 := ⟨F - 1, by omega⟩
    exact ⟨u, by rw [LX7_image_31.eq_2, if_pos (by rw [j_4, jI_le (by omega) (by omega) (by omega) (by omega)]; omega)], fun j hj => h1 j (by omega), h2, h3⟩
  | succ e ih =>
    intro i F u hi hF h1 h2 h3
    obtain ⟨F, rfl⟩ : ∃ f', F = f' + 1 := ⟨F - 1, by omega⟩
    obtain ⟨u', q1, q2, q3, q4⟩ := ih (i + 1) F (sA u 45 i (oA u 6 i)) (by omega) (by omega) (fun j hj => by
      rw [sA_rw]
      by_cases c : j = i
      · rw [if_pos c, h2 6 (by omega), c]
      · rw [if_neg c]; exact h1 j (by omega)) (fun k hk => by rw [sA_ne _ _ _ hk]; exact h2 k hk) h3
    refine ⟨u', ?_, q2, q3, q4⟩
    rw [LX7_image_31.eq_2, if_neg (by rw [j_4, jI_le (by omega) (by omega) (by omega) (by omega)]; omega), if_pos (by rw [jI_inb (by omega) (by omega)]; omega), lT_eq, lT_eq, jI_p1, jc _ (by omega)]
    exact q1
theorem m_restore_29 (E : Ob → Option (Int32 × Ob)) (o : Ob) : ∀ (e i F : Nat) (u : Ob), i + e = 4 → e < F → (∀ j, j < i → oA u 6 j = oA o 45 j) → (∀ k, k ≠ 6 → oA u k = oA o k) → (∀ k, oV u k = oV o k) → ∃ u', LX7_restore_29 E F (jI i) u = E u' ∧ (∀ j, j < 4 → oA u' 6 j = oA o 45 j) ∧ (∀ k, k ≠ 6 → oA u' k = oA o k) ∧ ∀ k, oV u' k = oV o k := by
  intro e
  induction e with
  | zero =>
    intro i F u hi hF h1 h2 h3
    obtain ⟨F, rfl⟩ : ∃ f', F = f' + 1 := ⟨F - 1, by omega⟩
    exact ⟨u, by rw [LX7_restore_29.eq_2, if_pos (by rw [j_4, jI_le (by omega) (by omega) (by omega) (by omega)]; omega)], fun j hj => h1 j (by omega), h2, h3⟩
  | succ e ih =>
    intro i F u hi hF h1 h2 h3
    obtain ⟨F, rfl⟩ : ∃ f', F = f' + 1 := ⟨F - 1, by omega⟩
    obtain ⟨u', q1, q2, q3, q4⟩ := ih (i + 1) F (sA u 6 i (oA u 45 i)) (by omega) (by omega) (fun j hj => by
      rw [sA_rw]
      by_cases c : j = i
      · rw [if_pos c, h2 45 (by omega), c]
      · rw [if_neg c]; exact h1 j (by omega)) (fun k hk => by rw [sA_ne _ _ _ hk]; exact h2 k hk) h3
    refine ⟨u', ?_, q2, q3, q4⟩
    rw [LX7_restore_29.eq_2, if_neg (by rw [j_4, jI_le (by omega) (by omega) (by omega) (by omega)]; omega), if_pos (by rw [jI_inb (by omega) (by omega)]; omega), lT_eq, lT_eq, jI_p1, jc _ (by omega)]
    exact q1
theorem m_image_64 (E : Ob → Option (Int32 × Ob)) (o : Ob) : ∀ (e i F : Nat) (u : Ob), i + e = 6 → e < F → (∀ j, j < i → oA u 46 j = oA o 8 j ∧ oA u 47 j = oA o 9 j ∧ oA u 48 j = oA o 10 j) → (∀ k, k ≠ 46 → k ≠ 47 → k ≠ 48 → oA u k = oA o k) → (∀ k, oV u k = oV o k) → ∃ u', LX7_image_64 E F (jI i) u = E u' ∧ (∀ j, j < 6 → oA u' 46 j = oA o 8 j ∧ oA u' 47 j = oA o 9 j ∧ oA u' 48 j = oA o 10 j) ∧ (∀ k, k ≠ 46 → k ≠ 47 → k ≠ 48 → oA u' k = oA o k) ∧ ∀ k, oV u' k = oV o k := by
  intro e
  induction e with
  | zero =>
    intro i F u hi hF h1 h2 h3
    obtain ⟨F, rfl⟩ : ∃ f', F = f' + 1 := ⟨F - 1, by omega⟩
    exact ⟨u, by rw [LX7_image_64.eq_2, if_pos (by rw [j_6, jI_le (by omega) (by omega) (by omega) (by omega)]; omega)], fun j hj => h1 j (by omega), h2, h3⟩
  | succ e ih =>
    intro i F u hi hF h1 h2 h3
    obtain ⟨F, rfl⟩ : ∃ f', F = f' + 1 := ⟨F - 1, by omega⟩
    have x2 : oA (sA u 46 i (oA u 8 i)) 9 i = oA u 9 i := by rw [sA_ne _ _ _ (by omega)]
    have x3 : oA (sA (sA u 46 i (oA u 8 i)) 47 i (oA u 9 i)) 10 i = oA u 10 i := by rw [sA_ne _ _ _ (by omega), sA_ne _ _ _ (by omega)]
    obtain ⟨u', q1, q2, q3, q4⟩ := ih (i + 1) F (sA (sA (sA u 46 i (oA u 8 i)) 47 i (oA u 9 i)) 48 i (oA u 10 i)) (by omega) (by omega) (fun j hj => by
      rw [sA_rw, sA_ne _ _ _ (by omega), sA_ne _ _ _ (by omega), sA_rw, sA_ne _ _ _ (by omega), sA_rw, sA_ne _ _ _ (by omega), sA_ne _ _ _ (by omega)]
      by_cases c : j = i
      · rw [if_pos c, if_pos c, if_pos c, h2 8 (by omega) (by omega) (by omega), h2 9 (by omega) (by omega) (by omega), h2 10 (by omega) (by omega) (by omega), c]
        exact ⟨rfl, rfl, rfl⟩
      · rw [if_neg c, if_neg c, if_neg c]; exact h1 j (by omega)) (fun k k1 k2 k3 => by rw [sA_ne _ _ _ k3, sA_ne _ _ _ k2, sA_ne _ _ _ k1]; exact h2 k k1 k2 k3) h3
    refine ⟨u', ?_, q2, q3, q4⟩
    rw [LX7_image_64.eq_2, if_neg (by rw [j_6, jI_le (by omega) (by omega) (by omega) (by omega)]; omega), if_pos (by rw [jI_inb (by omega) (by omega)]; omega), lT_eq, lT_eq, lT_eq, lT_eq, jI_p1, jc _ (by omega), x2, x3]
    exact q1
theorem m_restore_62 (E : Ob → Option (Int32 × Ob)) (o : Ob) : ∀ (e i F : Nat) (u : Ob), i + e = 6 → e < F → (∀ j, j < i → oA u 8 j = oA o 46 j ∧ oA u 9 j = oA o 47 j ∧ oA u 10 j = oA o 48 j) → (∀ k, k ≠ 8 → k ≠ 9 → k ≠ 10 → oA u k = oA o k) → (∀ k, oV u k = oV o k) → ∃ u', LX7_restore_62 E F (jI i) u = E u' ∧ (∀ j, j < 6 → oA u' 8 j = oA o 46 j ∧ oA u' 9 j = oA o 47 j ∧ oA u' 10 j = oA o 48 j) ∧ (∀ k, k ≠ 8 → k ≠ 9 → k ≠ 10 → oA u' k = oA o k) ∧ ∀ k, oV u' k = oV o k := by
  intro e
  induction e with
  | zero =>
    intro i F u hi hF h1 h2 h3
    obtain ⟨F, rfl⟩ : ∃ f', F = f' + 1 := ⟨F - 1, by omega⟩
    exact ⟨u, by rw [LX7_restore_62.eq_2, if_pos (by rw [j_6, jI_le (by omega) (by omega) (by omega) (by omega)]; omega)], fun j hj => h1 j (by omega), h2, h3⟩
  | succ e ih =>
    intro i F u hi hF h1 h2 h3
    obtain ⟨F, rfl⟩ : ∃ f', F = f' + 1 := ⟨F - 1, by omega⟩
    have x2 : oA (sA u 8 i (oA u 46 i)) 47 i = oA u 47 i := by rw [sA_ne _ _ _ (by omega)]
    have x3 : oA (sA (sA u 8 i (oA u 46 i)) 9 i (oA u 47 i)) 48 i = oA u 48 i := by rw [sA_ne _ _ _ (by omega), sA_ne _ _ _ (by omega)]
    obtain ⟨u', q1, q2, q3, q4⟩ := ih (i + 1) F (sA (sA (sA u 8 i (oA u 46 i)) 9 i (oA u 47 i)) 10 i (oA u 48 i)) (by omega) (by omega) (fun j hj => by
      rw [sA_rw, sA_ne _ _ _ (by omega), sA_ne _ _ _ (by omega), sA_rw, sA_ne _ _ _ (by omega), sA_rw, sA_ne _ _ _ (by omega), sA_ne _ _ _ (by omega)]
      by_cases c : j = i
      · rw [if_pos c, if_pos c, if_pos c, h2 46 (by omega) (by omega) (by omega), h2 47 (by omega) (by omega) (by omega), h2 48 (by omega) (by omega) (by omega), c]
        exact ⟨rfl, rfl, rfl⟩
      · rw [if_neg c, if_neg c, if_neg c]; exact h1 j (by omega)) (fun k k1 k2 k3 => by rw [sA_ne _ _ _ k3, sA_ne _ _ _ k2, sA_ne _ _ _ k1]; exact h2 k k1 k2 k3) h3
    refine ⟨u', ?_, q2, q3, q4⟩
    rw [LX7_restore_62.eq_2, if_neg (by rw [j_6, jI_le (by omega) (by omega) (by omega) (by omega)]; omega), if_pos (by rw [jI_inb (by omega) (by omega)]; omega), lT_eq, lT_eq, lT_eq, lT_eq, jI_p1, jc _ (by omega), x2, x3]
    exact q1
theorem c_seenCopy (x y : Ob) : ∃ x', FX4_copyFrom x y = some x' ∧ (∀ i, i < 6 → oA x' 0 i = oA y 0 i ∧ oA x' 1 i = oA y 1 i ∧ oA x' 2 i = oA y 2 i) ∧ oV x' 3 = oV y 3 := by
  have c3 : cpok (0 : Int32) (0 : Int32) (6 : Int32) 6 6 := ⟨by decide, by decide, by decide, by decide, by decide⟩
  have z0 : (0 : Int32).toNatClampNeg = 0 := rfl
  have z6 : (6 : Int32).toNatClampNeg = 6 := rfl
  refine ⟨sV (sR (sR (sR x 0 (va_cpy (oA y 0) (oA x 0) 0 0 6)) 1 (va_cpy (oA y 1) (oA x 1) 0 0 6)) 2 (va_cpy (oA y 2) (oA x 2) 0 0 6)) 3 (oV y 3), ?_, fun i hi => ⟨?_, ?_, ?_⟩, ?_⟩
  · unfold FX4_copyFrom
    simp only [lT_eq, if_pos c3]
    rfl
  · show va_cpy (oA y 0) (oA x 0) 0 0 6 i = _
    rw [pk_cpy_in (by omega) (by omega)]
    congr 1
    omega
  · show va_cpy (oA y 1) (oA x 1) 0 0 6 i = _
    rw [pk_cpy_in (by omega) (by omega)]
    congr 1
    omega
  · show va_cpy (oA y 2) (oA x 2) 0 0 6 i = _
    rw [pk_cpy_in (by omega) (by omega)]
    congr 1
    omega
  · rfl
theorem ok_image (hn : n < 64) (hb : Bd n M o) : ∃ (r : Int32) (M' : Nat → Ob) (o' : Ob), FX6_image M = some (r, M') ∧ FX7_image o = some (r, o') ∧ Bd (n + 1) M' o' := by
  obtain ⟨N, N', t, hi, s, s', l, cs, h⟩ := hb
  obtain ⟨n0, n1, n2⟩ := isNet_t h.2.2.1 h.2.2.2.1 (by omega)
  by_cases t0 : t = 0
  · refine ⟨-103, M, o, ?_, ?_, Bq_up h⟩
    · unfold FX6_image
      rw [if_pos (n2.mpr t0)]
    · unfold FX7_image
      rw [n0 t0, b1_some, if_pos rfl]
  · obtain ⟨a1, a2, a3, a4, a5, a6, a7, a8, a9⟩ := h
    have hbd := RGr_bd a1.2.1
    obtain ⟨g4, c1, c2, c3, -⟩ := s_copyFrom (N := 60) (N' := 60) (by omega) (by omega) a1.1.1 a1.2.1 (g0 := M 4) hbd
    obtain ⟨x7, d1, d2, d3⟩ := c_seenCopy (M 7) (M 6)
    let oa := sV (sV o 42 1) 43 (oV o 5)
    obtain ⟨ob, e1, e2, e3, e4⟩ := Sl_copy (t := 1) (f := 0) (by omega) (by omega) (by omega) (show Sl 0 oa N.1 N.2.1 N.2.2 from a1.2.2.1)
    obtain ⟨oc, f1, f2, f3, f4⟩ := m_image_31 (fun o0_15 => lT (sV o0_15 44 (oV o0_15 7)) fun o0_17 => LX7_image_64 (fun o0_28 => b1 (FX7_doneAll o0_28) fun r_29 => some (r_29, o0_28)) fu (0 : Int32) o0_17) ob 4 0 fu ob (by omega) (by rw [fu_eq]; omega) (fun j hj => by omega) (fun _ _ => rfl) (fun _ => rfl)
    let od := sV oc 44 (oV oc 7)
    obtain ⟨oe, g1, g2, g3, g5⟩ := m_image_64 (fun o0_28 => b1 (FX7_doneAll o0_28) fun r_29 => some (r_29, o0_28)) od 6 0 fu od (by omega) (by rw [fu_eq]; omega) (fun j hj => by omega) (fun _ _ _ _ => rfl) (fun _ => rfl)
    -- rows of the reference behind all
    have rA : ∀ k, 3 < k → k ≠ 45 → k ≠ 46 → k ≠ 47 → k ≠ 48 → oA oe k = oA o k := fun k h3 h45 h46 h47 h48 => by
      rw [g3 k h46 h47 h48]
      show oA oc k = _
      rw [f3 k h45, e4 k h3]
      rfl
    have rV : ∀ k, k ≠ 42 → k ≠ 43 → k ≠ 44 → oV oe k = oV o k := fun k h42 h43 h44 => by
      rw [g5]
      show oV (sV oc 44 _) k = _
      rw [oV_sV, if_neg h44, f4, e3.2.2.2.2.2.1 k]
      show oV (sV (sV o 42 1) 43 _) k = _
      rw [oV_sV, if_neg h43, oV_sV, if_neg h42]
    have v42 : oV oe 42 = 1 := by
      rw [g5]
      show oV (sV oc 44 _) 42 = _
      rw [oV_sV, if_neg (by omega), f4, e3.2.2.2.2.2.1 42]
      rfl
    have v43 : oV oe 43 = oV o 5 := by
      rw [g5]
      show oV (sV oc 44 _) 43 = _
      rw [oV_sV, if_neg (by omega), f4, e3.2.2.2.2.2.1 43]
      rfl
    have v44 : oV oe 44 = oV o 7 := by
      rw [g5]
      show oV (sV oc 44 (oV oc 7)) 44 = _
      rw [oV_sV, if_pos rfl, f4, e3.2.2.2.2.2.1 7]
      rfl
    have r45 : ∀ j, j < 4 → oA oe 45 j = oA o 6 j := fun j hj => by
      rw [g3 45 (by omega) (by omega) (by omega)]
      show oA oc 45 j = _
      rw [f2 j hj, e4 6 (by omega)]
      rfl
    have r123 : ∀ j, j < 6 → oA oe 46 j = oA o 8 j ∧ oA oe 47 j = oA o 9 j ∧ oA oe 48 j = oA o 10 j := fun j hj => by
      obtain ⟨y1, y2, y3⟩ := g2 j hj
      rw [y1, y2, y3]
      show oA oc 8 j = _ ∧ oA oc 9 j = _ ∧ oA oc 10 j = _
      rw [f3 8 (by omega), f3 9 (by omega), f3 10 (by omega), e4 8 (by omega), e4 9 (by omega), e4 10 (by omega)]
      exact ⟨rfl, rfl, rfl⟩
    have low : ∀ k, k ≤ 3 → oA oe k = oA ob k := fun k hk => by
      rw [g3 k (by omega) (by omega) (by omega)]
      show oA oc k = _
      rw [f3 k (by omega)]
    have s1 : Sl 1 oe N.1 N.2.1 N.2.2 := Sl_o e2 (low 0 (by omega)) (low 1 (by omega)) (low 2 (by omega)) (low 3 (by omega))
    have s0 : Sl 0 oe N.1 N.2.1 N.2.2 := Sl_o (Sl_Fm (by omega) (show Sl 0 oa N.1 N.2.1 N.2.2 from a1.2.2.1) e3) (low 0 (by omega)) (low 1 (by omega)) (low 2 (by omega)) (low 3 (by omega))
    have r6 := rA 6 (by omega) (by omega) (by omega) (by omega) (by omega)
    let M' := sM (sM (sM M 4 g4) 7 x7) 0 (sV (M 0) 11 1)
    refine ⟨oA o 6 1 + oA o 6 2 + oA o 6 3, M', oe, ?_, ?_, N, N, t, 1, s, s, l, cs, ⟨a1.1, a1.2.1, s0, by rw [r6]; exact a1.2.2.2.1, by rw [r6]; exact a1.2.2.2.2⟩, by rw [rV 4 (by omega) (by omega) (by omega)]; exact a2, ⟨a3.1, rfl, a3.2.2.1, by rw [rV 5 (by omega) (by omega) (by omega)]; exact a3.2.2.2.1, by omega, fun _ => ⟨by omega, v42, by rw [v43]; exact a3.2.2.2.1⟩, fun z => by omega⟩, by omega, a5, fun _ => ⟨a1.1, c2, s1, fun j h1 h2 => ?_, ?_⟩, ?_, ?_, PgB_v a9 (rV 11 (by omega) (by omega) (by omega)) (rA 12 (by omega) (by omega) (by omega) (by omega) (by omega))⟩
    · unfold FX6_image
      rw [if_neg (fun z => t0 (n2.mp z)), c1, b1_some, lT_eq]
      show b1 (FX4_copyFrom (M 7) (M 6)) _ = _
      rw [d1, b1_some, lT_eq, lT_eq]
      show b1 (FX2_done 60 (0 : Int32) g4) _ = _
      unfold FX2_done
      rw [if_neg (by decide), if_neg (by decide), if_pos (by decide), b1_some, show (0 : Int32).toNatClampNeg = 0 from rfl, c3 0 (by omega), a1.2.2.2.2]
      rfl
    · unfold FX7_image
      rw [n1 t0, b1_some, if_neg (by decide), lT_eq, lT_eq]
      have e1' : FX7_copy (1 : Int32) (0 : Int32) oa = some ob := e1
      show b1 (FX7_copy (1 : Int32) (0 : Int32) oa) _ = _
      rw [e1', b1_some]
      refine f1.trans ?_
      rw [lT_eq]
      refine g1.trans ?_
      unfold FX7_doneAll
      rw [b1_some, r6]
      rfl
    · show oA g4 3 j = oA oe 45 j
      rw [c3 j (by omega), r45 j h2]; exact a1.2.2.2.1 j h1 h2
    · show oA g4 3 0 = oA oe 45 1 + oA oe 45 2 + oA oe 45 3
      rw [c3 0 (by omega), r45 1 (by omega), r45 2 (by omega), r45 3 (by omega)]; exact a1.2.2.2.2
    · obtain ⟨b1', b2', b3', b4', b5'⟩ := a7
      exact ⟨b1', b2', by rw [rV 7 (by omega) (by omega) (by omega)]; exact b3', by rw [rA 8 (by omega) (by omega) (by omega) (by omega) (by omega), rA 9 (by omega) (by omega) (by omega) (by omega) (by omega), rA 10 (by omega) (by omega) (by omega) (by omega) (by omega)]; exact b4', b5'⟩
    · obtain ⟨b1', b2', b3', b4', b5'⟩ := a7
      refine ⟨b1', ?_, by rw [v44]; exact b3', fun i hi => ?_, fun i hi => ?_⟩
      · show oV x7 3 = _
        rw [d3]; exact b2'
      · show oA x7 0 i = _ ∧ oA x7 1 i = _ ∧ oA x7 2 i = _
        rw [(d2 i hi).1, (d2 i hi).2.1, (d2 i hi).2.2, (r123 i hi).1, (r123 i hi).2.1, (r123 i hi).2.2]
        exact b4' i hi
      · show ∃ v : Nat, v < 4 ∧ oA x7 1 i = jI v
        rw [(d2 i (by omega)).2.1]; exact b5' i hi
theorem ok_restore (hn : n < 64) (hb : Bd n M o) : ∃ (r : Int32) (M' : Nat → Ob) (o' : Ob), FX6_restore M = some (r, M') ∧ FX7_restore o = some (r, o') ∧ Bd (n + 1) M' o' := by
  obtain ⟨N, N', t, hi, s, s', l, cs, h⟩ := hb
  have ht := h.2.2.2.1
  obtain ⟨f1, f2, f3, f4, f5, f6, f7⟩ := h.2.2.1
  rcases (show hi = 0 ∨ hi = 1 by omega) with hi0 | hi1
  · refine ⟨-103, M, o, ?_, ?_, Bq_up h⟩
    · unfold FX6_restore
      rw [f2, if_pos (by rw [hi0]; rfl)]
    · unfold FX7_restore
      rcases f7 hi0 with y | ⟨t', y1, y2⟩
      · rw [if_pos y]
      · by_cases c42 : oV o 42 = 0
        · rw [if_pos c42]
        · rw [if_neg c42, y2, f4, if_neg (by rw [jI_eq (by omega) (by omega) (by omega) (by omega)]; omega)]
  · obtain ⟨tp, x42, x43⟩ := f6 hi1
    obtain ⟨a1, a2, a3, a4, a5, a6, a7, a8, a9⟩ := h
    have aK := a6 hi1
    have hbd := RGr_bd aK.2.1
    obtain ⟨g4, c1, c2, c3, -⟩ := s_copyFrom (N := 60) (N' := 60) (by omega) (by omega) aK.1.1 aK.2.1 (g0 := M 3) hbd
    obtain ⟨x7, d1, d2, d3⟩ := c_seenCopy (M 6) (M 7)
    obtain ⟨ob, e1, e2, e3, e4⟩ := Sl_copy (t := 0) (f := 1) (by omega) (by omega) (by omega) aK.2.2.1
    obtain ⟨oc, q1, q2, q3, q4⟩ := m_restore_29 (fun o0_9 => lT (sV o0_9 7 (oV o0_9 44)) fun o0_11 => LX7_restore_62 (fun o0_22 => b1 (FX7_doneAll o0_22) fun r_23 => some (r_23, o0_22)) fu (0 : Int32) o0_11) ob 4 0 fu ob (by omega) (by rw [fu_eq]; omega) (fun j hj => by omega) (fun _ _ => rfl) (fun _ => rfl)
    let od := sV oc 7 (oV oc 44)
    obtain ⟨oe, g1, g2, g3, g5⟩ := m_restore_62 (fun o0_22 => b1 (FX7_doneAll o0_22) fun r_23 => some (r_23, o0_22)) od 6 0 fu od (by omega) (by rw [fu_eq]; omega) (fun j hj => by omega) (fun _ _ _ _ => rfl) (fun _ => rfl)
    have rA : ∀ k, 3 < k → k ≠ 6 → k ≠ 8 → k ≠ 9 → k ≠ 10 → oA oe k = oA o k := fun k h3 h45 h46 h47 h48 => by
      rw [g3 k h46 h47 h48]
      show oA oc k = _
      rw [q3 k h45, e4 k h3]
    have rV : ∀ k, k ≠ 7 → oV oe k = oV o k := fun k h44 => by
      rw [g5]
      show oV (sV oc 7 _) k = _
      rw [oV_sV, if_neg h44, q4, e3.2.2.2.2.2.1 k]
    have v7 : oV oe 7 = oV o 44 := by
      rw [g5]
      show oV (sV oc 7 (oV oc 44)) 7 = _
      rw [oV_sV, if_pos rfl, q4, e3.2.2.2.2.2.1 44]
    have r6 : ∀ j, j < 4 → oA oe 6 j = oA o 45 j := fun j hj => by
      rw [g3 6 (by omega) (by omega) (by omega)]
      show oA oc 6 j = _
      rw [q2 j hj, e4 45 (by omega)]
    have r123 : ∀ j, j < 6 → oA oe 8 j = oA o 46 j ∧ oA oe 9 j = oA o 47 j ∧ oA oe 10 j = oA o 48 j := fun j hj => by
      obtain ⟨y1, y2, y3⟩ := g2 j hj
      rw [y1, y2, y3]
      show oA oc 46 j = _ ∧ oA oc 47 j = _ ∧ oA oc 48 j = _
      rw [q3 46 (by omega), q3 47 (by omega), q3 48 (by omega), e4 46 (by omega), e4 47 (by omega), e4 48 (by omega)]
      exact ⟨rfl, rfl, rfl⟩
    have low : ∀ k, k ≤ 3 → oA oe k = oA ob k := fun k hk => by
      rw [g3 k (by omega) (by omega) (by omega)]
      show oA oc k = _
      rw [q3 k (by omega)]
    have s0 : Sl 0 oe N'.1 N'.2.1 N'.2.2 := Sl_o e2 (low 0 (by omega)) (low 1 (by omega)) (low 2 (by omega)) (low 3 (by omega))
    have s1 : Sl 1 oe N'.1 N'.2.1 N'.2.2 := Sl_o (Sl_Fm (by omega) aK.2.2.1 e3) (low 0 (by omega)) (low 1 (by omega)) (low 2 (by omega)) (low 3 (by omega))
    have r45 := rA 45 (by omega) (by omega) (by omega) (by omega) (by omega)
    let M' := sM (sM M 3 g4) 6 x7
    refine ⟨oA o 45 1 + oA o 45 2 + oA o 45 3, M', oe, ?_, ?_, N', N', t, hi, s', s', l, cs, ⟨aK.1, c2, s0, fun j h1 h2 => ?_, ?_⟩, by rw [rV 4 (by omega)]; exact a2, FB_v a3 (rV 5 (by omega)) (rV 42 (by omega)) (rV 43 (by omega)), by omega, fun z => by omega, fun _ => ⟨aK.1, aK.2.1, s1, by rw [r45]; exact aK.2.2.2.1, by rw [r45]; exact aK.2.2.2.2⟩, ?_, ?_, PgB_v a9 (rV 11 (by omega)) (rA 12 (by omega) (by omega) (by omega) (by omega) (by omega))⟩
    · unfold FX6_restore
      rw [f2, if_neg (by rw [hi1]; decide), c1, b1_some, lT_eq]
      show b1 (FX4_copyFrom (M 6) (M 7)) _ = _
      rw [d1, b1_some, lT_eq]
      show b1 (FX2_done 60 (0 : Int32) g4) _ = _
      unfold FX2_done
      rw [if_neg (by decide), if_neg (by decide), if_pos (by decide), b1_some, show (0 : Int32).toNatClampNeg = 0 from rfl, c3 0 (by omega), aK.2.2.2.2]
    · unfold FX7_restore
      rw [x42, if_neg (by decide), x43, f4, if_pos rfl]
      have e1' : FX7_copy (0 : Int32) (1 : Int32) o = some ob := e1
      rw [e1', b1_some]
      refine q1.trans ?_
      rw [lT_eq]
      refine g1.trans ?_
      unfold FX7_doneAll
      rw [b1_some]
      show some (oA oe 6 1 + oA oe 6 2 + oA oe 6 3, oe) = _
      rw [r6 1 (by omega), r6 2 (by omega), r6 3 (by omega)]
    · show oA g4 3 j = oA oe 6 j
      rw [c3 j (by omega), r6 j h2]; exact aK.2.2.2.1 j h1 h2
    · show oA g4 3 0 = oA oe 6 1 + oA oe 6 2 + oA oe 6 3
      rw [c3 0 (by omega), r6 1 (by omega), r6 2 (by omega), r6 3 (by omega)]; exact aK.2.2.2.2
    · obtain ⟨b1', b2', b3', b4', b5'⟩ := a8
      refine ⟨b1', ?_, by rw [v7]; exact b3', fun i hi => ?_, fun i hi => ?_⟩
      · show oV x7 3 = _
        rw [d3]; exact b2'
      · show oA x7 0 i = _ ∧ oA x7 1 i = _ ∧ oA x7 2 i = _
        rw [(d2 i hi).1, (d2 i hi).2.1, (d2 i hi).2.2, (r123 i hi).1, (r123 i hi).2.1, (r123 i hi).2.2]
        exact b4' i hi
      · show ∃ v : Nat, v < 4 ∧ oA x7 1 i = jI v
        rw [(d2 i (by omega)).2.1]; exact b5' i hi
    · obtain ⟨b1', b2', b3', b4', b5'⟩ := a8
      exact ⟨b1', b2', by rw [rV 44 (by omega)]; exact b3', by rw [rA 46 (by omega) (by omega) (by omega) (by omega) (by omega), rA 47 (by omega) (by omega) (by omega) (by omega) (by omega), rA 48 (by omega) (by omega) (by omega) (by omega) (by omega)]; exact b4', b5'⟩
def ctk (K : Kd) (k : Nat) : Nat → Nat
  | 0 => 0
  | m + 1 => ctk K k m + (if K m = some k then 1 else 0)
theorem ctk_le (K : Kd) (k : Nat) : ∀ m, ctk K k m ≤ m := by
  intro m
  induction m with
  | zero => exact Nat.le_refl 0
  | succ m ih => show ctk K k m + _ ≤ _; split <;> omega
theorem ctk_ext {K : Kd} {k T : Nat} : ∀ {m : Nat}, T ≤ m → (∀ j, T ≤ j → K j = none) → ctk K k m = ctk K k T := by
  intro m
  induction m with
  | zero => intro h _; rw [show T = 0 by omega]
  | succ m ih =>
    intro h hk
    by_cases c : T = m + 1
    · rw [c]
    · show ctk K k m + _ = _
      rw [ih (by omega) hk, if_neg (by rw [hk m (by omega)]; simp)]
      rfl
theorem kind_is {K : Kd} {k m : Nat} (h : ∀ n k, K n = some k → k ≤ 3) (hk : k ≤ 3) : (jI (kI (K m)) = jI k) ↔ K m = some k := by
  cases hm : K m with
  | none =>
    rw [kI_n, jI_eq (by omega) (by omega) (by omega) (by omega)]
    constructor
    · intro z; omega
    · intro z; cases z
  | some j =>
    have := h m j hm
    rw [kI_s, jI_eq (by omega) (by omega) (by omega) (by omega)]
    constructor
    · intro z; congr 1; omega
    · intro z; cases z; rfl
theorem c_ofKind {g : Ob} {K : Kd} {T k : Nat} (hK : RK 60 g K T) (hk : k ≤ 3) : ∀ (e i F : Nat), i + e = T → e < F → LX2_nodesOfKind_4 60 (jI k) g F (jI (ctk K k i)) (jI i) = some (jI (ctk K k T)) := by
  have hT := hK.2.1
  intro e
  induction e with
  | zero =>
    intro i F hi hF
    obtain ⟨F, rfl⟩ : ∃ f', F = f' + 1 := ⟨F - 1, by omega⟩
    have e1 : i = T := by omega
    subst e1
    rw [LX2_nodesOfKind_4.eq_2, hK.1, if_pos (by rw [jI_le (by omega) (by omega) (by omega) (by omega)]; omega)]
  | succ e ih =>
    intro i F hi hF
    obtain ⟨F, rfl⟩ : ∃ f', F = f' + 1 := ⟨F - 1, by omega⟩
    have ih' := ih (i + 1) F (by omega) (by omega)
    have es : ctk K k (i + 1) = ctk K k i + (if K i = some k then 1 else 0) := rfl
    rw [LX2_nodesOfKind_4.eq_2, hK.1, if_neg (by rw [jI_le (by omega) (by omega) (by omega) (by omega)]; omega), s_kindOf (by omega) hK i (by omega), b1_some, lT_eq, lT_eq, lT_eq, lT_eq, jI_p1]
    by_cases c : K i = some k
    · rw [if_pos ((kind_is hK.2.2.2.2 hk).mpr c), jI_p1]
      rw [es, if_pos c] at ih'
      exact ih'
    · rw [if_neg (fun z => c ((kind_is hK.2.2.2.2 hk).mp z)), Int32.add_zero, jI_p1]
      rw [es, if_neg c, Nat.add_zero] at ih'
      exact ih'
theorem m_ofKind {o : Ob} {K : Kd} {w : Wr} {r k : Nat} (h : MS 0 o K w r) (hk : k ≤ 3) : ∀ (e i F : Nat), i + e = 180 → e < F → LX7_ofKind_4 (jI k) o F (jI (ctk K k i)) (jI i) = some (jI (ctk K k 180)) := by
  intro e
  induction e with
  | zero =>
    intro i F hi hF
    obtain ⟨F, rfl⟩ : ∃ f', F = f' + 1 := ⟨F - 1, by omega⟩
    have e1 : i = 180 := by omega
    subst e1
    rw [LX7_ofKind_4.eq_2, if_pos (by rw [j_180, jI_le (by omega) (by omega) (by omega) (by omega)]; omega)]
  | succ e ih =>
    intro i F hi hF
    obtain ⟨F, rfl⟩ : ∃ f', F = f' + 1 := ⟨F - 1, by omega⟩
    have ih' := ih (i + 1) F (by omega) (by omega)
    have es : ctk K k (i + 1) = ctk K k i + (if K i = some k then 1 else 0) := rfl
    rw [LX7_ofKind_4.eq_2, if_neg (by rw [j_180, jI_le (by omega) (by omega) (by omega) (by omega)]; omega), m_kindOf (b := 0) (by omega) h.1 h.2.1 (by omega), b1_some, lT_eq, lT_eq, lT_eq, lT_eq, jI_p1]
    by_cases c : K i = some k
    · rw [if_pos ((kind_is h.2.1.2.2 hk).mpr c), jI_p1]
      rw [es, if_pos c] at ih'
      exact ih'
    · rw [if_neg (fun z => c ((kind_is h.2.1.2.2 hk).mp z)), Int32.add_zero, jI_p1]
      rw [es, if_neg c, Nat.add_zero] at ih'
      exact ih'
def opC (w : Wr) : Nat → Nat
  | 0 => 0
  | m + 1 => opC w m + (if w (m, 3) = none then 0 else 1)
theorem c_opC {g : Ob} {w : Wr} (hW : RW 60 g w) : ∀ (e i F : Nat), i + e = 8 → e < F → LX2_openWires_4 60 g F (jI (opC w i)) (jI i) = some (jI (opC w 8)) := by
  intro e
  induction e with
  | zero =>
    intro i F hi hF
    obtain ⟨F, rfl⟩ : ∃ f', F = f' + 1 := ⟨F - 1, by omega⟩
    have e1 : i = 8 := by omega
    subst e1
    rw [LX2_openWires_4.eq_2, if_pos (by rfl)]
  | succ e ih =>
    intro i F hi hF
    obtain ⟨F, rfl⟩ : ∃ f', F = f' + 1 := ⟨F - 1, by omega⟩
    have ih' := ih (i + 1) F (by omega) (by omega)
    have es : opC w (i + 1) = opC w i + (if w (i, 3) = none then 0 else 1) := rfl
    rw [LX2_openWires_4.eq_2, if_neg (by rw [j_8, jI_le (by omega) (by omega) (by omega) (by omega)]; omega), s_isOpen (by omega) hW (by omega), b1_some, lT_eq, lT_eq, lT_eq, lT_eq, jI_p1]
    by_cases c : w (i, 3) = none
    · rw [if_pos c] at es ⊢
      rw [if_pos rfl, Int32.add_zero]
      rw [es, Nat.add_zero] at ih'
      exact ih'
    · rw [if_neg c] at es ⊢
      rw [if_neg (by decide), jI_p1]
      rw [es] at ih'
      exact ih'
theorem m_opC {o : Ob} {K : Kd} {w : Wr} {r : Nat} (h : MS 0 o K w r) : ∀ (e i F : Nat), i + e = 8 → e < F → LX7_opens_4 o F (jI (opC w i)) (jI i) = some (jI (opC w 8)) := by
  intro e
  induction e with
  | zero =>
    intro i F hi hF
    obtain ⟨F, rfl⟩ : ∃ f', F = f' + 1 := ⟨F - 1, by omega⟩
    have e1 : i = 8 := by omega
    subst e1
    rw [LX7_opens_4.eq_2, if_pos (by rfl)]
  | succ e ih =>
    intro i F hi hF
    obtain ⟨F, rfl⟩ : ∃ f', F = f' + 1 := ⟨F - 1, by omega⟩
    have ih' := ih (i + 1) F (by omega) (by omega)
    have es : opC w (i + 1) = opC w i + (if w (i, 3) = none then 0 else 1) := rfl
    rw [LX7_opens_4.eq_2, if_neg (by rw [j_8, jI_le (by omega) (by omega) (by omega) (by omega)]; omega), m_isOpen (by omega) h (by omega), b1_some, lT_eq, lT_eq, lT_eq, lT_eq, jI_p1]
    by_cases c : w (i, 3) = none
    · rw [if_pos c] at es ⊢
      rw [if_pos rfl, Int32.add_zero]
      rw [es, Nat.add_zero] at ih'
      exact ih'
    · rw [if_neg c] at es ⊢
      rw [if_neg (by decide), jI_p1]
      rw [es] at ih'
      exact ih'
theorem count_val {N N' : Nt} {t hi s s' l : Nat} {cs : Nat → Nat} (h : Bq n M o N N' t hi s s' l cs) {v : Nat} (hv : v ≤ 14) : ∃ r M', FX6_count (jI v) M = some (r, M') ∧ FX7_howMany (jI v) o = some (r, o) ∧ Cls M M' := by
  have hs := sV_self h.2.1
  have hms := Bq_MS h
  have hbd := RGr_bd h.1.2.1
  have nd1 := RGr_6 h.1.2.1
  have nd2 := MS_nodes (b := 0) (by omega) hms
  rw [cnt_60 h.1.2.1] at nd2
  obtain ⟨g1, l1, l2, l3⟩ := s_list (N := 60) (by omega) h.1.1.1 h.1.2.1
  have m1 := MS_meetingsNow (b := 0) (by omega) hms h.1.1.1
  rw [mtg_60 hbd] at m1
  obtain ⟨T, t0, gK, gW, g3, -⟩ := h.1.2.1
  have hT := gK.2.1
  have kd1 : ∀ k : Nat, k ≤ 3 → FX2_nodesOfKind 60 (jI k) (M 3) = some (jI (ctk N.1 k T)) := fun k hk => c_ofKind gK hk T 0 fu (by omega) (by rw [fu_eq]; omega)
  have kd2 : ∀ k : Nat, k ≤ 3 → FX7_ofKind (jI k) o = some (jI (ctk N.1 k T)) := fun k hk => by
    rw [← ctk_ext (m := 180) (k := k) (by omega) gK.2.2.2.1]
    exact m_ofKind hms hk 180 0 fu (by omega) (by rw [fu_eq]; omega)
  have op1 : FX2_openWires 60 (M 3) = some (jI (opC N.2.1 8)) := c_opC gW 8 0 fu (by omega) (by rw [fu_eq]; omega)
  have op2 : FX7_opens o = some (jI (opC N.2.1 8)) := m_opC hms 8 0 fu (by omega) (by rw [fu_eq]; omega)
  have d1 := h.1.2.2.2.1
  have d0 := h.1.2.2.2.2
  have r3 := hms.2.2.2
  obtain ⟨f1, f2, f3, f4, -⟩ := h.2.2.1
  obtain ⟨-, s2, s3, -⟩ := h.2.2.2.2.2.2.1
  obtain ⟨-, p2, p3, -⟩ := h.2.2.2.2.2.2.2.2
  rcases (show v = 0 ∨ v = 1 ∨ v = 2 ∨ v = 3 ∨ v = 4 ∨ v = 5 ∨ v = 6 ∨ v = 7 ∨ v = 8 ∨ v = 9 ∨ v = 10 ∨ v = 11 ∨ v = 12 ∨ v = 13 ∨ v = 14 by omega) with rfl | rfl | rfl | rfl | rfl | rfl | rfl | rfl | rfl | rfl | rfl | rfl | rfl | rfl | rfl
  · refine ⟨jI (cnt N.1 60), M, ?_, ?_, Cls_rf M⟩
    · unfold FX6_count
      rw [if_pos (by rfl), nd1, b1_some]
    · unfold FX7_howMany
      rw [lT_eq, hs, if_pos (by rfl), nd2, b1_some]
  · refine ⟨jI (ctk N.1 0 T), M, ?_, ?_, Cls_rf M⟩
    · unfold FX6_count
      rw [if_neg (by decide), if_pos (by rfl), show BX6_count_84 (jI (1 : Nat)) M = some (jI (ctk N.1 0 T), M) from by unfold BX6_count_84; rw [show jI ((1 : Nat) : Int) - (1 : Int32) = jI ((0 : Nat) : Int) from rfl, kd1 0 (by omega), b1_some]]
    · unfold FX7_howMany
      rw [lT_eq, hs, if_neg (by decide), if_pos (by rfl), show BX7_howMany_85 (jI (1 : Nat)) o = some (jI (ctk N.1 0 T), o) from by unfold BX7_howMany_85; rw [show jI ((1 : Nat) : Int) - (1 : Int32) = jI ((0 : Nat) : Int) from rfl, kd2 0 (by omega), b1_some]]
  · refine ⟨jI (ctk N.1 1 T), M, ?_, ?_, Cls_rf M⟩
    · unfold FX6_count
      rw [if_neg (by decide), if_neg (by decide), if_pos (by rfl), show BX6_count_84 (jI (2 : Nat)) M = some (jI (ctk N.1 1 T), M) from by unfold BX6_count_84; rw [show jI ((2 : Nat) : Int) - (1 : Int32) = jI ((1 : Nat) : Int) from rfl, kd1 1 (by omega), b1_some]]
    · unfold FX7_howMany
      rw [lT_eq, hs, if_neg (by decide), if_neg (by decide), if_pos (by rfl), show BX7_howMany_85 (jI (2 : Nat)) o = some (jI (ctk N.1 1 T), o) from by unfold BX7_howMany_85; rw [show jI ((2 : Nat) : Int) - (1 : Int32) = jI ((1 : Nat) : Int) from rfl, kd2 1 (by omega), b1_some]]
  · refine ⟨jI (ctk N.1 2 T), M, ?_, ?_, Cls_rf M⟩
    · unfold FX6_count
      rw [if_neg (by decide), if_neg (by decide), if_neg (by decide), if_pos (by rfl), show BX6_count_84 (jI (3 : Nat)) M = some (jI (ctk N.1 2 T), M) from by unfold BX6_count_84; rw [show jI ((3 : Nat) : Int) - (1 : Int32) = jI ((2 : Nat) : Int) from rfl, kd1 2 (by omega), b1_some]]
    · unfold FX7_howMany
      rw [lT_eq, hs, if_neg (by decide), if_neg (by decide), if_neg (by decide), if_pos (by rfl), show BX7_howMany_85 (jI (3 : Nat)) o = some (jI (ctk N.1 2 T), o) from by unfold BX7_howMany_85; rw [show jI ((3 : Nat) : Int) - (1 : Int32) = jI ((2 : Nat) : Int) from rfl, kd2 2 (by omega), b1_some]]
  · refine ⟨jI (ctk N.1 3 T), M, ?_, ?_, Cls_rf M⟩
    · unfold FX6_count
      rw [if_neg (by decide), if_neg (by decide), if_neg (by decide), if_neg (by decide), if_pos (by rfl), show BX6_count_84 (jI (4 : Nat)) M = some (jI (ctk N.1 3 T), M) from by unfold BX6_count_84; rw [show jI ((4 : Nat) : Int) - (1 : Int32) = jI ((3 : Nat) : Int) from rfl, kd1 3 (by omega), b1_some]]
    · unfold FX7_howMany
      rw [lT_eq, hs, if_neg (by decide), if_neg (by decide), if_neg (by decide), if_neg (by decide), if_pos (by rfl), show BX7_howMany_85 (jI (4 : Nat)) o = some (jI (ctk N.1 3 T), o) from by unfold BX7_howMany_85; rw [show jI ((4 : Nat) : Int) - (1 : Int32) = jI ((3 : Nat) : Int) from rfl, kd2 3 (by omega), b1_some]]
  · refine ⟨jI (opC N.2.1 8), M, ?_, ?_, Cls_rf M⟩
    · unfold FX6_count
      rw [if_neg (by decide), if_neg (by decide), if_neg (by decide), if_neg (by decide), if_neg (by decide), if_pos (by rfl), op1, b1_some]
    · unfold FX7_howMany
      rw [lT_eq, hs, if_neg (by decide), if_neg (by decide), if_neg (by decide), if_neg (by decide), if_neg (by decide), if_pos (by rfl), op2, b1_some]
  · refine ⟨jI N.2.2, M, ?_, ?_, Cls_rf M⟩
    · unfold FX6_count
      rw [if_neg (by decide), if_neg (by decide), if_neg (by decide), if_neg (by decide), if_neg (by decide), if_neg (by decide), if_pos (by rfl), show FX2_rings 60 (M 3) = some (jI N.2.2) from by unfold FX2_rings; rw [g3], b1_some]
    · unfold FX7_howMany
      rw [lT_eq, hs, if_neg (by decide), if_neg (by decide), if_neg (by decide), if_neg (by decide), if_neg (by decide), if_neg (by decide), if_pos (by rfl), show (0 : Int32).toNatClampNeg = 0 from rfl, r3]
  · refine ⟨jI (mtg N.1 N.2.1 60 0).length, sM M 3 g1, ?_, ?_, Cls_3 M l2⟩
    · unfold FX6_count
      rw [if_neg (by decide), if_neg (by decide), if_neg (by decide), if_neg (by decide), if_neg (by decide), if_neg (by decide), if_neg (by decide), if_pos (by rfl), l1, b2_some, lT_eq]
    · unfold FX7_howMany
      rw [lT_eq, hs, if_neg (by decide), if_neg (by decide), if_neg (by decide), if_neg (by decide), if_neg (by decide), if_neg (by decide), if_neg (by decide), if_pos (by rfl), m1, b1_some]
  · refine ⟨oA o 6 1 + oA o 6 2 + oA o 6 3, M, ?_, ?_, Cls_rf M⟩
    · unfold FX6_count
      rw [if_neg (by decide), if_neg (by decide), if_neg (by decide), if_neg (by decide), if_neg (by decide), if_neg (by decide), if_neg (by decide), if_neg (by decide), if_pos (by rfl), show BX6_count_119 (jI (8 : Nat)) M = some (oA o 6 1 + oA o 6 2 + oA o 6 3, M) from by unfold BX6_count_119 FX2_done; rw [show jI ((8 : Nat) : Int) - (8 : Int32) = 0 from rfl, if_neg (by decide), if_neg (by decide), if_pos (by decide), b1_some, show (0 : Int32).toNatClampNeg = 0 from rfl, d0]]
    · unfold FX7_howMany
      rw [lT_eq, hs, if_neg (by decide), if_neg (by decide), if_neg (by decide), if_neg (by decide), if_neg (by decide), if_neg (by decide), if_neg (by decide), if_neg (by decide), if_pos (by rfl), show FX7_doneAll o = some (oA o 6 1 + oA o 6 2 + oA o 6 3) from rfl, b1_some]
  · refine ⟨oA o 6 1, M, ?_, ?_, Cls_rf M⟩
    · unfold FX6_count
      rw [if_neg (by decide), if_neg (by decide), if_neg (by decide), if_neg (by decide), if_neg (by decide), if_neg (by decide), if_neg (by decide), if_neg (by decide), if_neg (by decide), if_pos (by rfl), show BX6_count_119 (jI (9 : Nat)) M = some (oA o 6 1, M) from by unfold BX6_count_119 FX2_done; rw [show jI ((9 : Nat) : Int) - (8 : Int32) = jI ((1 : Nat) : Int) from rfl, if_neg (by decide), if_neg (by decide), if_pos (by decide), b1_some, jc _ (by omega), d1 1 (by omega) (by omega)]]
    · unfold FX7_howMany
      rw [lT_eq, hs, if_neg (by decide), if_neg (by decide), if_neg (by decide), if_neg (by decide), if_neg (by decide), if_neg (by decide), if_neg (by decide), if_neg (by decide), if_neg (by decide), if_pos (by rfl), show jI ((9 : Nat) : Int) - (8 : Int32) = jI ((1 : Nat) : Int) from rfl, if_pos (by decide), jc _ (by omega)]
  · refine ⟨oA o 6 2, M, ?_, ?_, Cls_rf M⟩
    · unfold FX6_count
      rw [if_neg (by decide), if_neg (by decide), if_neg (by decide), if_neg (by decide), if_neg (by decide), if_neg (by decide), if_neg (by decide), if_neg (by decide), if_neg (by decide), if_neg (by decide), if_pos (by rfl), show BX6_count_119 (jI (10 : Nat)) M = some (oA o 6 2, M) from by unfold BX6_count_119 FX2_done; rw [show jI ((10 : Nat) : Int) - (8 : Int32) = jI ((2 : Nat) : Int) from rfl, if_neg (by decide), if_neg (by decide), if_pos (by decide), b1_some, jc _ (by omega), d1 2 (by omega) (by omega)]]
    · unfold FX7_howMany
      rw [lT_eq, hs, if_neg (by decide), if_neg (by decide), if_neg (by decide), if_neg (by decide), if_neg (by decide), if_neg (by decide), if_neg (by decide), if_neg (by decide), if_neg (by decide), if_neg (by decide), if_pos (by rfl), show jI ((10 : Nat) : Int) - (8 : Int32) = jI ((2 : Nat) : Int) from rfl, if_pos (by decide), jc _ (by omega)]
  · refine ⟨oA o 6 3, M, ?_, ?_, Cls_rf M⟩
    · unfold FX6_count
      rw [if_neg (by decide), if_neg (by decide), if_neg (by decide), if_neg (by decide), if_neg (by decide), if_neg (by decide), if_neg (by decide), if_neg (by decide), if_neg (by decide), if_neg (by decide), if_neg (by decide), if_pos (by rfl), show BX6_count_119 (jI (11 : Nat)) M = some (oA o 6 3, M) from by unfold BX6_count_119 FX2_done; rw [show jI ((11 : Nat) : Int) - (8 : Int32) = jI ((3 : Nat) : Int) from rfl, if_neg (by decide), if_neg (by decide), if_pos (by decide), b1_some, jc _ (by omega), d1 3 (by omega) (by omega)]]
    · unfold FX7_howMany
      rw [lT_eq, hs, if_neg (by decide), if_neg (by decide), if_neg (by decide), if_neg (by decide), if_neg (by decide), if_neg (by decide), if_neg (by decide), if_neg (by decide), if_neg (by decide), if_neg (by decide), if_neg (by decide), if_pos (by rfl), show jI ((11 : Nat) : Int) - (8 : Int32) = jI ((3 : Nat) : Int) from rfl, if_pos (by decide), jc _ (by omega)]
  · refine ⟨jI s, M, ?_, ?_, Cls_rf M⟩
    · unfold FX6_count
      rw [if_neg (by decide), if_neg (by decide), if_neg (by decide), if_neg (by decide), if_neg (by decide), if_neg (by decide), if_neg (by decide), if_neg (by decide), if_neg (by decide), if_neg (by decide), if_neg (by decide), if_neg (by decide), if_pos (by rfl), show FX4_size (M 6) = some (jI s) from by unfold FX4_size; rw [s2], b1_some]
    · unfold FX7_howMany
      rw [lT_eq, hs, if_neg (by decide), if_neg (by decide), if_neg (by decide), if_neg (by decide), if_neg (by decide), if_neg (by decide), if_neg (by decide), if_neg (by decide), if_neg (by decide), if_neg (by decide), if_neg (by decide), if_neg (by decide), if_pos (by rfl), s3]
  · refine ⟨jI l, M, ?_, ?_, Cls_rf M⟩
    · unfold FX6_count
      rw [if_neg (by decide), if_neg (by decide), if_neg (by decide), if_neg (by decide), if_neg (by decide), if_neg (by decide), if_neg (by decide), if_neg (by decide), if_neg (by decide), if_neg (by decide), if_neg (by decide), if_neg (by decide), if_neg (by decide), if_pos (by rfl), show FX3_size (M 1) = some (jI l) from by unfold FX3_size; rw [p2.1], b1_some]
    · unfold FX7_howMany
      rw [lT_eq, hs, if_neg (by decide), if_neg (by decide), if_neg (by decide), if_neg (by decide), if_neg (by decide), if_neg (by decide), if_neg (by decide), if_neg (by decide), if_neg (by decide), if_neg (by decide), if_neg (by decide), if_neg (by decide), if_neg (by decide), if_pos (by rfl), p3.1]
  · refine ⟨jI t, M, ?_, ?_, Cls_rf M⟩
    · unfold FX6_count
      rw [if_neg (by decide), if_neg (by decide), if_neg (by decide), if_neg (by decide), if_neg (by decide), if_neg (by decide), if_neg (by decide), if_neg (by decide), if_neg (by decide), if_neg (by decide), if_neg (by decide), if_neg (by decide), if_neg (by decide), if_neg (by decide), if_pos (by rfl), f3]
    · unfold FX7_howMany
      rw [lT_eq, hs, if_neg (by decide), if_neg (by decide), if_neg (by decide), if_neg (by decide), if_neg (by decide), if_neg (by decide), if_neg (by decide), if_neg (by decide), if_neg (by decide), if_neg (by decide), if_neg (by decide), if_neg (by decide), if_neg (by decide), if_neg (by decide), if_pos (by rfl), f4]
theorem ok_count (hb : Bd n M o) (x1 : Int32) : ∃ (r : Int32) (M' : Nat → Ob) (o' : Ob), FX6_count x1 M = some (r, M') ∧ FX7_count x1 o = some (r, o') ∧ Bd (n + 1) M' o' := by
  obtain ⟨N, N', t, hi, s, s', l, cs, h⟩ := hb
  obtain ⟨a, rfl, a1, a2⟩ := int_jI x1
  have hs := sV_self h.2.1
  by_cases c : 0 ≤ a ∧ a ≤ 14
  · obtain ⟨v, rfl⟩ := Int.eq_ofNat_of_zero_le (show 0 ≤ a by omega)
    obtain ⟨r, M', e1, e2, e3⟩ := count_val h (v := v) (by omega)
    refine ⟨r, M', o, e1, ?_, Bq_up (Bq_Cls h e3)⟩
    unfold FX7_count
    rw [e2, b2_some]
  · have ne : ∀ k : Nat, k ≤ 14 → ¬ jI a = jI k := fun k hk z => by rw [jI_eq (by omega) (by omega) (by omega) (by omega)] at z; omega
    refine ⟨-102, M, o, ?_, ?_, Bq_up h⟩
    · unfold FX6_count
      rw [if_neg (show ¬ jI a = (0 : Int32) from ne 0 (by omega)), if_neg (show ¬ jI a = (1 : Int32) from ne 1 (by omega)), if_neg (show ¬ jI a = (2 : Int32) from ne 2 (by omega)), if_neg (show ¬ jI a = (3 : Int32) from ne 3 (by omega)), if_neg (show ¬ jI a = (4 : Int32) from ne 4 (by omega)), if_neg (show ¬ jI a = (5 : Int32) from ne 5 (by omega)), if_neg (show ¬ jI a = (6 : Int32) from ne 6 (by omega)), if_neg (show ¬ jI a = (7 : Int32) from ne 7 (by omega)), if_neg (show ¬ jI a = (8 : Int32) from ne 8 (by omega)), if_neg (show ¬ jI a = (9 : Int32) from ne 9 (by omega)), if_neg (show ¬ jI a = (10 : Int32) from ne 10 (by omega)), if_neg (show ¬ jI a = (11 : Int32) from ne 11 (by omega)), if_neg (show ¬ jI a = (12 : Int32) from ne 12 (by omega)), if_neg (show ¬ jI a = (13 : Int32) from ne 13 (by omega)), if_neg (show ¬ jI a = (14 : Int32) from ne 14 (by omega))]
    · unfold FX7_count FX7_howMany
      rw [lT_eq, hs, if_neg (show ¬ jI a = (0 : Int32) from ne 0 (by omega)), if_neg (show ¬ jI a = (1 : Int32) from ne 1 (by omega)), if_neg (show ¬ jI a = (2 : Int32) from ne 2 (by omega)), if_neg (show ¬ jI a = (3 : Int32) from ne 3 (by omega)), if_neg (show ¬ jI a = (4 : Int32) from ne 4 (by omega)), if_neg (show ¬ jI a = (5 : Int32) from ne 5 (by omega)), if_neg (show ¬ jI a = (6 : Int32) from ne 6 (by omega)), if_neg (show ¬ jI a = (7 : Int32) from ne 7 (by omega)), if_neg (show ¬ jI a = (8 : Int32) from ne 8 (by omega)), if_neg (show ¬ jI a = (9 : Int32) from ne 9 (by omega)), if_neg (show ¬ jI a = (10 : Int32) from ne 10 (by omega)), if_neg (show ¬ jI a = (11 : Int32) from ne 11 (by omega)), if_neg (show ¬ jI a = (12 : Int32) from ne 12 (by omega)), if_neg (show ¬ jI a = (13 : Int32) from ne 13 (by omega)), if_neg (show ¬ jI a = (14 : Int32) from ne 14 (by omega)), b2_some]
end C8
