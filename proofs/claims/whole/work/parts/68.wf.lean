/-! a meeting leaves a net a net -/
theorem occ_wm {w : Wr} (h : Mt w) {p q a : Port} (hp : w p = some a) (hq : w q = none) (r : Port) : wm p q w r ≠ none ↔ r = q ∨ (r ≠ p ∧ w r ≠ none) := by
  rw [wm_eq h hp hq]
  have := h _ _ hp
  grind
theorem occ_wf {w : Wr} (h : Mt w) {p q a b : Port} (hp : w p = some a) (hq : w q = some b) (hpq : p ≠ q) (r : Port) : wf p q w r ≠ none ↔ r ≠ p ∧ r ≠ q ∧ w r ≠ none := by
  rw [wf_eq h hp hq hpq]
  grind
theorem occ_wl {w : Wr} (p q r : Port) : wl p q w r ≠ none ↔ r = p ∨ r = q ∨ w r ≠ none := by
  unfold wl
  grind
theorem occ_wA0 {w : Wr} (x y : Nat) (r : Port) : wA0 x y w r ≠ none ↔ ¬ (r.2 = 0 ∧ (r.1 = x ∨ r.1 = y)) ∧ w r ≠ none := by
  rw [wA0_eq]
  grind
theorem WF_of {K : Kd} {w : Wr} (h1 : Mt w) (h2 : ∀ n, (w (n, 0) ≠ none ↔ K n ≠ none) ∧ (w (n, 1) ≠ none ↔ ∃ k, K n = some (k + 1)) ∧ (w (n, 2) ≠ none ↔ ∃ k, K n = some (k + 1))) (h3 : ∀ n s, 3 ≤ s → w (n, s) ≠ none → s = 3 ∧ n < 8) : WF K w := by
  refine ⟨h1, fun n s hs => ?_, h3⟩
  rcases (show s = 0 ∨ s = 1 ∨ s = 2 by omega) with rfl | rfl | rfl
  · exact (h2 n).1.trans ⟨fun z => Or.inl ⟨rfl, z⟩, fun z => z.elim (fun z => z.2) (fun z => absurd rfl z.1)⟩
  · exact (h2 n).2.1.trans ⟨fun z => Or.inr ⟨by omega, z⟩, fun z => z.elim (fun z => by omega) (fun z => z.2)⟩
  · exact (h2 n).2.2.trans ⟨fun z => Or.inr ⟨by omega, z⟩, fun z => z.elim (fun z => by omega) (fun z => z.2)⟩
theorem WF_to {K : Kd} {w : Wr} (h : WF K w) : ∀ n, (w (n, 0) ≠ none ↔ K n ≠ none) ∧ (w (n, 1) ≠ none ↔ ∃ k, K n = some (k + 1)) ∧ (w (n, 2) ≠ none ↔ ∃ k, K n = some (k + 1)) := by
  intro n
  refine ⟨(h.2.1 n 0 (by omega)).trans ⟨fun z => z.elim (fun z => z.2) (fun z => absurd rfl z.1), fun z => Or.inl ⟨rfl, z⟩⟩, (h.2.1 n 1 (by omega)).trans ⟨fun z => z.elim (fun z => by omega) (fun z => z.2), fun z => Or.inr ⟨by omega, z⟩⟩, (h.2.1 n 2 (by omega)).trans ⟨fun z => z.elim (fun z => by omega) (fun z => z.2), fun z => Or.inr ⟨by omega, z⟩⟩⟩
section WP
variable {K : Kd} {w : Wr} {x y : Nat}
theorem Perf_WF (hF : WF K w) {r kx ky : Nat} (hx : K x = some kx) (hy : K y = some ky) (hq : w (x, 0) = some (y, 0)) {K' : Kd} {w' : Wr} {r' : Nat} (hP : Perf K w r x y kx ky K' w' r') : WF K' w' := by
  have hM := hF.1
  have hT := WF_to hF
  have h3 := hF.2.2
  obtain ⟨hqy, hne⟩ := hM _ _ hq
  have hxy : x ≠ y := fun z => hne (by rw [z])
  have M4 : Mt (wA0 x y w) := Mt_cut hM hq
  have oA0 := fun r => occ_wA0 (w := w) x y r
  have sm : ∀ n s, s ≠ 0 → wA0 x y w (n, s) = w (n, s) := fun n s hs => wA0_same (pne (Or.inr hs)) (pne (Or.inr hs))
  have N0 : ∀ n, K00 K x y n = none → wA0 x y w (n, 0) = none := fun n hn => wA0_none hF hn (by omega) (Or.inr rfl)
  rcases hP with ⟨a1, a2, a3, a4, a5⟩ | ⟨a1, a2, s1, s2, a3, a4, a5, a6, a7⟩ | ⟨a1, a2, z, p, q, a3, a4, a5, a6, a7, a8⟩ | ⟨a1, a2, a3, p, q, s, t, a4, a5, a6, a7, a8, a9, a10⟩
  · subst a3; subst a4
    refine WF_of M4 (fun n => ?_) (fun n s hs hn => h3 n s hs ((oA0 _).mp hn).2)
    have hn := hT n
    rw [oA0, sm n 1 (by omega), sm n 2 (by omega)]
    unfold K00 ku
    grind
  · subst a5; subst a6
    obtain ⟨p1, hp1⟩ := some_of (aux_some (x := x) (y := y) hF hx a2 (s := 1) (Or.inl rfl))
    have hs1 : s1 = 1 ∨ s1 = 2 := by rw [a3]; split <;> omega
    have hs2 : s2 = 1 ∨ s2 = 2 := by rw [a4]; split <;> omega
    have hs12 : s1 ≠ s2 := by rw [a3, a4]; split <;> omega
    obtain ⟨q1, hq1⟩ := some_of (aux_some (x := x) (y := y) hF hy (show ky ≠ 0 by omega) (s := s1) hs1)
    have hd : ((x, 1) : Port) ≠ (y, s1) := pne (Or.inl hxy)
    have m1 := Mt_wf M4 hp1 hq1 hd
    have o1 := fun r => occ_wf M4 hp1 hq1 hd r
    have x2 := (o1 (x, 2)).mpr ⟨pne (Or.inr (by omega)), pne (Or.inl hxy), aux_some hF hx a2 (Or.inr rfl)⟩
    have y2 := (o1 (y, s2)).mpr ⟨pne (Or.inl (fun z => hxy z.symm)), pne (Or.inr (fun z => hs12 z.symm)), aux_some hF hy (show ky ≠ 0 by omega) hs2⟩
    obtain ⟨p2, hp2⟩ := some_of x2
    obtain ⟨q2, hq2⟩ := some_of y2
    have hd2 : ((x, 2) : Port) ≠ (y, s2) := pne (Or.inl hxy)
    have m2 := Mt_wf m1 hp2 hq2 hd2
    have o2 := fun r => occ_wf m1 hp2 hq2 hd2 r
    refine WF_of m2 (fun n => ?_) (fun n s hs hn => h3 n s hs ((oA0 _).mp ((o1 _).mp ((o2 _).mp hn).2.2).2.2).2)
    have hn := hT n
    have e0 := (o2 (n, 0)).trans (and_congr_right (fun _ => and_congr_right (fun _ => (o1 _).trans (and_congr_right (fun _ => and_congr_right (fun _ => oA0 _))))))
    have e1 := (o2 (n, 1)).trans (and_congr_right (fun _ => and_congr_right (fun _ => (o1 _).trans (and_congr_right (fun _ => and_congr_right (fun _ => oA0 _))))))
    have e2 := (o2 (n, 2)).trans (and_congr_right (fun _ => and_congr_right (fun _ => (o1 _).trans (and_congr_right (fun _ => and_congr_right (fun _ => oA0 _))))))
    rw [e0, e1, e2]
    unfold K00 ku
    simp only [ne_eq, Prod.mk.injEq]
    rcases hs1 with rfl | rfl
    · have : s2 = 2 := by omega
      subst this
      clear e0 e1 e2 o1 o2 oA0 sm N0 hT h3 hp1 hq1 hp2 hq2 m1 m2 M4 x2 y2 hM hF hx hy hq hqy a7 hne hd hd2
      by_cases c1 : n = x
      · subst c1; simp [hxy]
      · by_cases c2 : n = y
        · subst c2; simp
        · simp [c1, c2]; simpa using hn
    · have : s2 = 1 := by omega
      subst this
      clear e0 e1 e2 o1 o2 oA0 sm N0 hT h3 hp1 hq1 hp2 hq2 m1 m2 M4 x2 y2 hM hF hx hy hq hqy a7 hne hd hd2
      by_cases c1 : n = x
      · subst c1; simp [hxy]
      · by_cases c2 : n = y
        · subst c2; simp
        · simp [c1, c2]; simpa using hn
  · have hz : ∃ kz, K z = some kz ∧ kz ≠ 0 ∧ (z = x ∨ z = y) := by
      by_cases c : kx = 0
      · rw [if_pos c] at a3
        exact ⟨ky, by rw [a3]; exact hy, by omega, Or.inr a3⟩
      · rw [if_neg c] at a3
        exact ⟨kx, by rw [a3]; exact hx, c, Or.inl a3⟩
    obtain ⟨kz, hz1, hz2, hz3⟩ := hz
    have other : ∀ n, n = x ∨ n = y → n ≠ z → K n = some 0 := by
      intro n hn hnz
      by_cases c : kx = 0
      · rw [if_pos c] at a3
        rcases hn with rfl | rfl
        · rw [hx, c]
        · exact absurd a3.symm hnz
      · rw [if_neg c] at a3
        rcases hn with rfl | rfl
        · exact absurd a3.symm hnz
        · rw [hy]; congr 1; omega
    subst a6; subst a7
    have fb := (ku_none a5.1)
    obtain ⟨p1, hp1⟩ := some_of (aux_some (x := x) (y := y) hF hz1 hz2 (s := 1) (Or.inl rfl))
    have m1 := Mt_wm M4 hp1 (N0 p a4.1)
    have o1 := fun r => occ_wm M4 hp1 (N0 p a4.1) r
    obtain ⟨p2, hp2⟩ := some_of ((o1 (z, 2)).mpr (Or.inr ⟨pne (Or.inr (by omega)), aux_some hF hz1 hz2 (Or.inr rfl)⟩))
    have nq : wm (z, 1) (p, 0) (wA0 x y w) (q, 0) = none := wm_none M4 hp1 (N0 p a4.1) (pne (Or.inl fb.1)) (Or.inl (N0 q fb.2))
    have m2 := Mt_wm m1 hp2 nq
    have o2 := fun r => occ_wm m1 hp2 nq r
    have ee := fun r => (o2 r).trans (or_congr Iff.rfl (and_congr_right (fun _ => (o1 r).trans (or_congr Iff.rfl (and_congr_right (fun _ => oA0 r))))))
    refine WF_of m2 (fun n => ?_) (fun n s hs hn => ?_)
    · have hn := hT n
      have k1 := a4.1
      have k2 := fb
      have oth := other n
      rw [ee, ee, ee]
      unfold K00 ku at *
      simp only [ne_eq, Prod.mk.injEq] at *
      grind
    · have := (ee (n, s)).mp hn
      simp only [ne_eq, Prod.mk.injEq] at this
      exact h3 n s hs (by grind)
  · subst a8; subst a9
    have f1 := ku_none a5.1
    have f2 := ku_none a6.1
    have f3 := ku_none a7.1
    have f22 := ku_none f2.2
    have f32 := ku_none f3.2
    have f33 := ku_none f32.2
    have q0 := N0 p a4.1
    have q1 := N0 q f1.2
    have q2 := N0 s f22.2
    have q3 := N0 t f33.2
    obtain ⟨c1, hc1⟩ := some_of (aux_some (x := x) (y := y) hF hy a3 (s := 1) (Or.inl rfl))
    have m1 := Mt_wm M4 hc1 q0
    have o1 := fun r => occ_wm M4 hc1 q0 r
    obtain ⟨c2, hc2⟩ := some_of ((o1 (y, 2)).mpr (Or.inr ⟨pne (Or.inr (by omega)), aux_some hF hy a3 (Or.inr rfl)⟩))
    have q1' := wm_none M4 hc1 q0 (pne (Or.inl f1.1)) (Or.inl q1)
    have m2 := Mt_wm m1 hc2 q1'
    have o2 := fun r => occ_wm m1 hc2 q1' r
    obtain ⟨c3, hc3⟩ := some_of ((o2 (x, 1)).mpr (Or.inr ⟨pne (Or.inl hxy), (o1 (x, 1)).mpr (Or.inr ⟨pne (Or.inl hxy), aux_some hF hx a2 (Or.inl rfl)⟩)⟩))
    have q2' := wm_none m1 hc2 q1' (pne (Or.inl f2.1)) (Or.inl (wm_none M4 hc1 q0 (pne (Or.inl f22.1)) (Or.inl q2)))
    have m3 := Mt_wm m2 hc3 q2'
    have o3 := fun r => occ_wm m2 hc3 q2' r
    obtain ⟨c4, hc4⟩ := some_of ((o3 (x, 2)).mpr (Or.inr ⟨pne (Or.inr (by omega)), (o2 (x, 2)).mpr (Or.inr ⟨pne (Or.inl hxy), (o1 (x, 2)).mpr (Or.inr ⟨pne (Or.inl hxy), aux_some hF hx a2 (Or.inr rfl)⟩)⟩)⟩))
    have q3' := wm_none m2 hc3 q2' (pne (Or.inl f3.1)) (Or.inl (wm_none m1 hc2 q1' (pne (Or.inl f32.1)) (Or.inl (wm_none M4 hc1 q0 (pne (Or.inl f33.1)) (Or.inl q3)))))
    have m4 := Mt_wm m3 hc4 q3'
    have o4 := fun r => occ_wm m3 hc4 q3' r
    have ee := fun r => (o4 r).trans (or_congr Iff.rfl (and_congr_right (fun _ => (o3 r).trans (or_congr Iff.rfl (and_congr_right (fun _ => (o2 r).trans (or_congr Iff.rfl (and_congr_right (fun _ => (o1 r).trans (or_congr Iff.rfl (and_congr_right (fun _ => oA0 r))))))))))))
    generalize wm (x, 2) (t, 0) (wm (x, 1) (s, 0) (wm (y, 2) (q, 0) (wm (y, 1) (p, 0) (wA0 x y w)))) = v at m4 ee
    clear m1 o1 m2 o2 m3 o3 o4 q1' q2' q3' hc1 hc2 hc3 hc4 oA0 N0 M4
    have vn : ∀ n i, i = 1 ∨ i = 2 → K00 K x y n = none → v (n, i) = none := by
      intro n i hi hn
      have hn' := K00_none hn
      have := ee (n, i)
      have := hT n
      simp only [ne_eq, Prod.mk.injEq] at *
      rcases hi with rfl | rfl <;> grind
    have w1 := Mt_wl m4 (p := (p, 1)) (q := (s, 1)) (vn _ _ (Or.inl rfl) a4.1) (vn _ _ (Or.inl rfl) f22.2) (pne (Or.inl (fun z => f22.1 z.symm)))
    have w2 := Mt_wl w1 (p := (p, 2)) (q := (t, 1)) (wl_none (pne (Or.inr (by omega))) (pne (Or.inl (fun z => f22.1 z.symm))) (vn _ _ (Or.inr rfl) a4.1)) (wl_none (pne (Or.inl f33.1)) (pne (Or.inl f3.1)) (vn _ _ (Or.inl rfl) f33.2)) (pne (Or.inl (fun z => f33.1 z.symm)))
    have w3 := Mt_wl w2 (p := (q, 1)) (q := (s, 2)) (wl_none (pne (Or.inl f1.1)) (pne (Or.inl (fun z => f32.1 z.symm))) (wl_none (pne (Or.inl f1.1)) (pne (Or.inl (fun z => f2.1 z.symm))) (vn _ _ (Or.inl rfl) f1.2))) (wl_none (pne (Or.inl f22.1)) (pne (Or.inl (fun z => f3.1 z.symm))) (wl_none (pne (Or.inl f22.1)) (pne (Or.inr (by omega))) (vn _ _ (Or.inr rfl) f22.2))) (pne (Or.inl (fun z => f2.1 z.symm)))
    have w4 := Mt_wl w3 (p := (q, 2)) (q := (t, 2)) (wl_none (pne (Or.inr (by omega))) (pne (Or.inl (fun z => f2.1 z.symm))) (wl_none (pne (Or.inl f1.1)) (pne (Or.inl (fun z => f32.1 z.symm))) (wl_none (pne (Or.inl f1.1)) (pne (Or.inl (fun z => f2.1 z.symm))) (vn _ _ (Or.inr rfl) f1.2)))) (wl_none (pne (Or.inl f32.1)) (pne (Or.inl f3.1)) (wl_none (pne (Or.inl f33.1)) (pne (Or.inr (by omega))) (wl_none (pne (Or.inl f33.1)) (pne (Or.inl f3.1)) (vn _ _ (Or.inr rfl) f33.2)))) (pne (Or.inl (fun z => f32.1 z.symm)))
    refine WF_of w4 (fun n => ?_) (fun n i hi hn => ?_)
    · have hn := hT n
      have k1 := a4.1
      rw [occ_wl, occ_wl, occ_wl, occ_wl, occ_wl, occ_wl, occ_wl, occ_wl, occ_wl, occ_wl, occ_wl, occ_wl, ee, ee, ee]
      have kp : ∃ k, kx = k + 1 := ⟨kx - 1, by omega⟩
      have kq : ∃ k, ky = k + 1 := ⟨ky - 1, by omega⟩
      clear w1 w2 w3 w4 vn ee m4 a5 a6 a7 sm hT h3 hF hM hqy hq hne q0 q1 q2 q3
      by_cases c1 : n = p
      · subst c1
        have z1 := f1.1.symm
        have z2 := f22.1.symm
        have z3 := f33.1.symm
        unfold ku
        simp [z1, z2, z3, kp]
      · by_cases c2 : n = q
        · subst c2
          have z2 := f2.1.symm
          have z3 := f32.1.symm
          unfold ku
          simp [z2, z3, kp]
        · by_cases c3 : n = s
          · subst c3
            have z3 := f3.1.symm
            unfold ku
            simp [z3, kq]
          · by_cases c4 : n = t
            · subst c4
              unfold ku
              simp [kq]
            · unfold ku K00 ku
              by_cases c5 : n = x
              · subst c5; simp [c1, c2, c3, c4, hxy]
              · by_cases c6 : n = y
                · subst c6; simp [c1, c2, c3, c4]
                · simp [c1, c2, c3, c4, c5, c6]; simpa using hn
    · rw [occ_wl, occ_wl, occ_wl, occ_wl, ee] at hn
      simp only [ne_eq, Prod.mk.injEq] at hn
      exact h3 n i hi (by grind)
end WP
