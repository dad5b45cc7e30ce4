/-! a node's first sign; a bracket's last; what stands between trees -/
section TK2
variable {d g o : Ob} {n D st : Nat} {nd lim u : Nat → Nat} {K : Kd} {w : Wr} {L P P0 : Port} {Pl : Port → Prop}
theorem PB_s25 (hR : PR o n D st nd lim L 0) (hdue : Due D st nd lim) : oV o 25 = jI 0 := by
  rw [hR.2.2.1 rfl]
  unfold stt
  rcases hdue with a | a
  · rw [if_neg (by omega), if_neg (by omega)]; rfl
  · rw [if_pos a.1, if_neg (by omega), if_neg (by omega)]; rfl
theorem p_node (h : PB d g o n D st nd lim u K w L) (hn : n < 80) (hdue : Due D st nd lim) {c k : Nat} (hc : 32 ≤ c) (hc2 : c < 127) (hk : kb c = (k : Int)) (hk3 : k ≤ 3) (hlet : c < 97 ∨ 105 ≤ c) : TkOk c d g o n := by
  obtain ⟨hA, hU, hU', hu2, hR, hK, hW, hG, hD, hS, hlim, hDn⟩ := h
  have e0 := (p_due hA hS (by omega)).1 hdue
  have s25 := PB_s25 hR hdue
  have Kn := hG.2.2.1
  obtain ⟨g1, ea, hG1⟩ := PG_add hG (by omega) hk3
  have hS2 : 0 < D → nd (D - 1) < n ∧ (∃ k, K (nd (D - 1)) = some (k + 1)) ∧ lim (nd (D - 1)) < 2 := fun hd => by
    obtain ⟨a, b, c⟩ := hS.1 (D - 1) (by omega)
    exact ⟨a, c, by unfold Due at hdue; omega⟩
  have hS1 : PS (n + 1) D st nd lim (ku K n (some k)) w L 0 (0, 0) := PS_n hS (by omega) (fun m hm => by unfold ku; rw [if_neg (by omega)]) (fun m _ => rfl)
  have nPl : ¬ Plc n lim u K (n, 0) := by
    rintro (h | h | h)
    · have := h.2; simp only at this; omega
    · have := h.1; simp only at this; omega
    · have := h.1; simp only at this; omega
  have hvP : vp 180 (n, 0) := Or.inl ⟨by simp only; omega, by simp only; omega⟩
  obtain ⟨d1, g2, st1, lim1, L1, w1, q1, q2, q3, q4, q5, q6, q7, q8, q9⟩ := p_place (P := (n, 0)) (Pl := Plc n lim u K) hA hG1 hS1 hD nPl hvP hdue (fun hd => by
      rintro (h | h | h)
      · have := h.1; simp only at this; omega
      · have := h.2.2; simp only at this; omega
      · have := h.1; have := (hS2 hd).2.2; simp only at *; omega) (Or.inl rfl) (by omega) (by omega)
  have kn1 : ku K n (some k) n = some k := by unfold ku; rw [if_pos rfl]
  have kne : ∀ m, m ≠ n → ku K n (some k) m = K m := fun m hm => by unfold ku; rw [if_neg hm]
  -- the class, up to where the bracket is laid down
  have cls0 : ∀ (x : Int32 × Ob × Ob), isb x.1 → (if jI (k : Int) = 0 then some ((1 : Int32), d1, g2) else if inb (oV d1 3) 80 then lT (sA d1 0 (oV d1 3).toNatClampNeg (jI (n : Int))) fun o0_20 => if inb (oV o0_20 3) 80 then lT (sA o0_20 1 (oV o0_20 3).toNatClampNeg (0 : Int32)) fun o0_23 => lT (sV o0_23 3 ((oV o0_23 3) + (1 : Int32))) fun o0_25 => some ((1 : Int32), o0_25, g2) else none else none) = some x → FX1_take 180 (jI c) d g = some x := by
    intro x hx hq
    have body : BX1_takeTree_22 180 (jI c) d g = some x := by
      unfold BX1_takeTree_22
      rw [kb_ix c hc2 hc, hk, lT_eq, if_neg (by rw [j_0, jI_lt (by omega) (by omega) (by omega) (by omega)]; omega), hA.1, if_pos (by rw [j_80, jI_lt (by omega) (by omega) (by omega) (by omega)]; omega), ea, b2_some, j_0, s_port0, b1_some, q1, b2_some]
      exact hq
    have tree : FX1_takeTree 180 (jI c) d g = some x := by
      unfold FX1_takeTree
      rw [lT_eq, show (97 : Int32) = jI 97 from rfl, jI_sub]
      rcases hlet with a | a
      · rw [if_pos (by rw [j_0, jI_lt (by omega) (by omega) (by omega) (by omega)]; omega)]; exact body
      · rw [if_neg (by rw [j_0, jI_lt (by omega) (by omega) (by omega) (by omega)]; omega), if_pos (by rw [j_8, jI_le (by omega) (by omega) (by omega) (by omega)]; omega)]; exact body
    unfold FX1_take
    rw [e0, b1_some, if_neg (by decide), tree]
    obtain ⟨x1, x2, x3⟩ := x
    rw [b3_some, if_pos hx]
  let o1 : Ob := sV (sA o 22 n (jI k)) 21 (jI ((n + 1 : Nat)))
  have f1 : Pf o o1 := ⟨fun j hj => by show oA (sV (sA o 22 n _) 21 _) j = _; rw [oA_sV, sA_ne _ _ _ (by omega)], fun j hj => by show oV (sV (sA o 22 n _) 21 _) j = _; rw [oV_sV, if_neg (by omega)]; rfl⟩
  have row22 : ∀ m, oA o1 22 m = if m = n then jI k else oA o 22 m := fun m => by show oA (sV (sA o 22 n _) 21 _) 22 m = _; rw [oA_sV, sA_rw]
  have hK1 : ∀ m k', ku K n (some k) m = some k' → oA o1 22 m = jI k' := fun m k' hm => by
    rw [row22]
    by_cases cm : m = n
    · rw [if_pos cm]; rw [cm, kn1] at hm; cases hm; rfl
    · rw [if_neg cm]; rw [kne m cm] at hm; exact hK m k' hm
  have other : ∀ j, j ≠ 22 → oA o1 j = oA o j := fun j hj => by show oA (sV (sA o 22 n _) 21 _) j = _; rw [oA_sV, sA_ne _ _ _ hj]
  have hR1 : PR o1 (n + 1) D st1 nd lim1 L1 1 := by
    obtain ⟨r1, r2, r3, r4, r5, r6⟩ := q8 o n hR
    refine ⟨r1, rfl, fun z => by omega, r4, r5, fun j hj => ?_⟩
    rw [other 18 (by omega), other 19 (by omega)]
    exact r6 j hj
  have hW1 : PW o1 D nd w1 1 (n, 0) := fun p q a b c => by
    rw [other 23 (by omega)]
    exact q7 o (PW_P hW) p q a b c
  have ref0 : ∀ (x : Int32 × Ob), isb x.1 → (if jI (k : Int) = 0 then b1 (FX7_treeIs (jI (rp (n, 0))) o1) fun o0_10 => some ((1 : Int32), o0_10) else some ((1 : Int32), sV (sA (sA o1 18 D (jI n)) 19 D 0) 20 (jI ((D + 1 : Nat))))) = some x → FX7_takes (jI c) o = some x := by
    intro x hx hq
    unfold FX7_takes
    rw [s25, if_pos (by rfl)]
    unfold FX7_takesTree
    rw [kb_by _ hc2 hc, hk, b1_some, if_neg (by rw [j_m1, jI_eq (by omega) (by omega) (by omega) (by omega)]; omega), hR.2.1, lT_eq, if_pos (by rw [jI_inb (by omega) (by omega)]; omega), lT_eq, jc _ (by omega), lT_eq, oV_sA, hR.2.1, jI_p1, mp3]
    have e1 : mp (n, 0) = rp (n, 0) := rfl
    rw [e1]
    have v20 : oV o1 20 = jI D := hR1.1
    show b2 (if jI (k : Int) = 0 then b1 (FX7_treeIs (jI (rp (n, 0))) o1) fun o0_10 => some ((1 : Int32), o0_10) else if inb (oV o1 20) 80 then lT (sA o1 18 (oV o1 20).toNatClampNeg (jI n)) fun o0_14 => if inb (oV o0_14 20) 80 then lT (sA o0_14 19 (oV o0_14 20).toNatClampNeg (0 : Int32)) fun o0_17 => lT (sV o0_17 20 ((oV o0_17 20) + (1 : Int32))) fun o0_19 => some ((1 : Int32), o0_19) else none else none) _ = _
    have hin : inb (jI (D : Int)) 80 := by rw [jI_inb (by omega) (by omega)]; omega
    simp only [lT_eq, oV_sA, v20, jc D (by omega), jI_p1]
    rw [if_pos hin, if_pos hin, hq]
    obtain ⟨x1, x2⟩ := x
    rw [b2_some, if_pos hx]
  by_cases k0 : k = 0
  · subst k0
    have q6' : PD (Plc (n + 1) lim1 u (ku K n (some 0))) w1 st1 L1 := PD_congr q6 (Plc_add Kn hS2 (fun m _ => q9 m) (Or.inl rfl))
    obtain ⟨o2, t1, t2, t3, t4, t5, t6⟩ := p_treeIs hR1 hW1 q5 q6' hvP q4.2.1 (by omega) (by omega)
    refine ⟨1, d1, g2, o2, cls0 (1, d1, g2) isb1 (by rw [if_pos (by rfl)]), ref0 (1, o2) isb1 (by rw [if_pos (by rfl), t1, b1_some]), Pf_tr f1 t4, Or.inr ⟨rfl, n + 1, D, st1, nd, lim1, u, _, w1, L1, Nat.le_refl _, q2, by rw [PU, q3]; exact hU, by rw [PU, t6, other 24 (by omega)]; exact hU', hu2, t2, fun m k' hm => by rw [t5]; exact hK1 m k' hm, PW_P t3, q4, q6', PS_P q5, fun m => ?_, by omega⟩⟩
    rw [q9 m]
    by_cases c : 0 < D ∧ m = nd (D - 1)
    · exact Or.inr ⟨D - 1, by omega, c.2⟩
    · rw [if_neg c]; exact hlim m
  · -- a bracket: pushed on both stacks
    let nd2 : Nat → Nat := fun j => if j = D then n else nd j
    let lim2 : Nat → Nat := fun m => if m = n then 0 else lim1 m
    obtain ⟨S1, S2, S3, S4, S5, S6, S7⟩ := q5
    have ndn : ∀ j, j < D → nd j < n := fun j hj => (hS.1 j hj).1
    have n2o : ∀ j, j < D → nd2 j = nd j := fun j hj => by show (if j = D then n else nd j) = _; rw [if_neg (by omega)]
    have n2D : nd2 D = n := by show (if D = D then n else nd D) = _; rw [if_pos rfl]
    have l2o : ∀ j, j < D → lim2 (nd j) = lim1 (nd j) := fun j hj => by show (if nd j = n then 0 else lim1 (nd j)) = _; rw [if_neg (by have := ndn j hj; omega)]
    have l2n : lim2 n = 0 := by show (if n = n then 0 else lim1 n) = _; rw [if_pos rfl]
    have q6' : PD (Plc (n + 1) lim2 u (ku K n (some k))) w1 st1 L1 := PD_congr q6 (Plc_add Kn hS2 (fun m hm => by show (if m = n then 0 else lim1 m) = _; rw [if_neg hm]; exact q9 m) (Or.inr l2n))
    have hin : inb (jI (D : Int)) 80 := by rw [jI_inb (by omega) (by omega)]; omega
    refine ⟨1, sV (sA (sA d1 0 D (jI n)) 1 D 0) 3 (jI ((D + 1 : Nat))), g2, _, cls0 (1, _, _) isb1 ?_, ref0 (1, _) isb1 (by rw [if_neg (by rw [j_0, jI_eq (by omega) (by omega) (by omega) (by omega)]; omega)]), Pf_tr f1 ⟨fun j hj => ?_, fun j hj => ?_⟩, Or.inr ⟨rfl, n + 1, D + 1, st1, nd2, lim2, u, _, w1, L1, Nat.le_refl _, ⟨rfl, q2.2.1, q2.2.2.1, fun j hj => ?_⟩, ?_, ?_, hu2, ⟨rfl, rfl, fun _ => ?_, ?_, fun z => ?_, fun j hj => ?_⟩, fun m k' hm => ?_, fun p q hp hj _ => ?_, q4, q6', ⟨fun j hj => ?_, fun i j hi hj => ?_, fun j hj => ?_, fun _ => ?_, fun z => by omega, fun z => by omega, S7⟩, fun m => ?_, by omega⟩⟩
    · rw [if_neg (by rw [j_0, jI_eq (by omega) (by omega) (by omega) (by omega)]; omega)]
      simp only [lT_eq, oV_sA, q2.1, jc D (by omega), jI_p1]
      rw [if_pos hin, if_pos hin]
    · rw [oA_sV, sA_ne _ _ _ (by omega), sA_ne _ _ _ (by omega)]
    · rw [oV_sV, if_neg (by omega)]; rfl
    · rw [oA_sV, oA_sV, sA_rw, sA_ne _ _ _ (by omega), sA_rw, sA_ne _ _ _ (by omega)]
      by_cases cj : j = D
      · subst cj
        rw [if_pos rfl, if_pos rfl, n2D, l2n]
        exact ⟨rfl, rfl⟩
      · rw [if_neg cj, if_neg cj, n2o j (by omega), l2o j (by omega)]
        exact q2.2.2.2 j (by omega)
    · intro i hi
      rw [oA_sV, sA_ne _ _ _ (by omega), sA_ne _ _ _ (by omega), q3]
      exact hU i hi
    · intro i hi
      rw [oA_sV, sA_ne _ _ _ (by omega), sA_ne _ _ _ (by omega), other 24 (by omega)]
      exact hU' i hi
    · show oV o 25 = _
      rw [s25]
      unfold stt
      rw [if_neg (by omega), show D + 1 - 1 = D by omega, n2D, l2n]
      rfl
    · obtain ⟨s, r4, r5, r6⟩ := hR1.2.2.2.1
      exact ⟨s, r4, r5, fun _ => r6.1 (Or.inr rfl), fun z => absurd (Or.inl (by omega)) z⟩
    · refine hR1.2.2.2.2.1 (Or.inl ⟨Or.inr rfl, ?_⟩)
      rcases z with z | z
      · exact z.2
      · exact absurd (Or.inl (by omega)) z.1
    · rw [oA_sV, oA_sV, sA_rw, sA_ne _ _ _ (by omega), sA_rw, sA_ne _ _ _ (by omega)]
      by_cases cj : j = D
      · subst cj
        rw [if_pos rfl, if_pos rfl, n2D, l2n]
        exact ⟨rfl, by rw [if_pos ⟨rfl, rfl⟩]; rfl⟩
      · obtain ⟨a, b⟩ := hR1.2.2.2.2.2 j (by omega)
        rw [if_neg (show ¬ (j + 1 = D ∧ 1 = 0) by omega)] at b
        rw [if_neg cj, if_neg cj, n2o j (by omega), l2o j (by omega), if_neg (by omega)]
        exact ⟨a, b⟩
    · rw [oA_sV, sA_ne _ _ _ (by omega), sA_ne _ _ _ (by omega)]
      exact hK1 m k' hm
    · rw [oA_sV, sA_ne _ _ _ (by omega), sA_ne _ _ _ (by omega)]
      refine hW1 p q hp (fun j hj2 => ?_) (fun _ => ?_)
      · have := hj j (by omega); rw [n2o j hj2] at this; exact this
      · have := hj D (by omega); rw [n2D] at this; exact this
    · by_cases cj : j = D
      · subst cj
        rw [n2D, l2n, kn1]
        exact ⟨by omega, by omega, ⟨k - 1, by congr 1; omega⟩⟩
      · obtain ⟨a, b, c⟩ := S1 j (by omega)
        rw [n2o j (by omega), l2o j (by omega)]
        exact ⟨a, b, c⟩
    · intro e
      by_cases ci : i = D <;> by_cases cj : j = D
      · omega
      · rw [ci, n2D, n2o j (by omega)] at e; have := ndn j (by omega); omega
      · rw [cj, n2D, n2o i (by omega)] at e; have := ndn i (by omega); omega
      · rw [n2o i (by omega), n2o j (by omega)] at e
        exact S2 i j (by omega) (by omega) e
    · by_cases cj : j + 1 = D
      · obtain ⟨a, b⟩ := S5 rfl (by omega)
        rw [show D - 1 = j by omega] at a b
        rw [cj, n2D, n2o j (by omega), l2o j (by omega)]
        exact ⟨a, b⟩
      · rw [n2o j (by omega), n2o (j + 1) (by omega), l2o j (by omega)]
        exact S3 j (by omega)
    · by_cases cD : D = 0
      · subst cD
        rw [n2D]
        rcases S6 rfl rfl with z | z
        · exact Or.inl z
        · exact Or.inr z
      · rw [n2o 0 (by omega)]
        exact S4 (by omega)
    · by_cases cm : m = n
      · exact Or.inr ⟨D, by omega, by rw [n2D]; exact cm⟩
      · rw [show lim2 m = lim1 m from by show (if m = n then 0 else lim1 m) = _; rw [if_neg cm], q9 m]
        by_cases c : 0 < D ∧ m = nd (D - 1)
        · exact Or.inr ⟨D - 1, by omega, by rw [n2o (D - 1) (by omega)]; exact c.2⟩
        · rw [if_neg c]
          rcases hlim m with z | ⟨j, z1, z2⟩
          · exact Or.inl z
          · exact Or.inr ⟨j, by omega, by rw [n2o j z1]; exact z2⟩
end TK2
