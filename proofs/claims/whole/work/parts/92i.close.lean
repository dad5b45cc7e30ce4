/-! the class's closeWires; a net read, in both -/
section CW
variable {u : Nat → Nat} {w : Wr} {n : Nat} {K : Kd}
theorem c_close (hO : Occ n u K w) {d : Ob} (hd : PU (oA d 2) u) : ∀ (e k F : Nat) (g : Ob), k + e = 8 → e < F → RGr 180 g K (Fz w (lk u k)).1 (Fz w (lk u k)).2 → (∀ j, j < 4 → oA g 3 j = 0) → ∃ g', LX1_closeWires_2 180 d F (jI k) g = some g' ∧ RGr 180 g' K (Fz w (lk u 8)).1 (Fz w (lk u 8)).2 ∧ ∀ j, j < 4 → oA g' 3 j = 0 := by
  have hU := Occ_HU hO
  intro e
  induction e with
  | zero =>
    intro k F g hk hF h h3
    obtain ⟨F, rfl⟩ : ∃ f', F = f' + 1 := ⟨F - 1, by omega⟩
    have e1 : k = 8 := by omega
    subst e1
    exact ⟨g, by rw [LX1_closeWires_2.eq_2, if_pos (by rfl)], h, h3⟩
  | succ e ih =>
    intro k F g hk hF h h3
    obtain ⟨F, rfl⟩ : ∃ f', F = f' + 1 := ⟨F - 1, by omega⟩
    have huk := hO.2.2.1 k (by omega)
    rw [LX1_closeWires_2.eq_2, if_neg (by rw [j_8, jI_le (by omega) (by omega) (by omega) (by omega)]; omega), if_pos (by rw [jI_inb (by omega) (by omega)]; omega), jc _ (by omega), hd k (by omega)]
    by_cases c : u k = 2
    · obtain ⟨fM, fO⟩ := Fz_facts hU (lk_ok (u := u) (k := k) (by omega))
      have w2 := hU.2 k (by omega) c
      have pe : ∀ a b : Nat, a ≠ b → ((a, 3) : Port) ≠ (b, 3) := fun a b hab => by simp [hab]
      have o1 : (Fz w (lk u k)).1 (k, 3) ≠ none := (fO _).mpr ⟨w2.1, fun i hi => by have := ((lk_mem k i).mp hi).1; exact ⟨pe _ _ (by omega), pe _ _ (by omega)⟩⟩
      have o2 : (Fz w (lk u k)).1 (8 + k, 3) ≠ none := (fO _).mpr ⟨w2.2, fun i hi => by have := ((lk_mem k i).mp hi).1; exact ⟨pe _ _ (by omega), pe _ _ (by omega)⟩⟩
      obtain ⟨a, ha⟩ := some_of o1
      obtain ⟨b, hb⟩ := some_of o2
      have hab : a ≠ b := fun z => by
        have h1 := (fM _ _ ha).1
        have h2 := (fM _ _ hb).1
        rw [z, h2] at h1
        exact fa_ne k (Option.some.inj h1).symm
      obtain ⟨T, t, a1, a2, a3, a4, a5, a6⟩ := h
      obtain ⟨g1, q1, q2, q3, q4, q5, q6⟩ := s_fuse (N := 180) (by omega) a2 ha hb hab (fM _ _ ha).1 _ a3
      have ez : Fz w (lk u (k + 1)) = (wf (k, 3) (8 + k, 3) (Fz w (lk u k)).1, rf (k, 3) (8 + k, 3) (Fz w (lk u k)).1 (Fz w (lk u k)).2) := by
        rw [lk, if_pos c, Fz_snoc, ← aF_wf fM o1 o2 (fa_ne k)]
        rfl
      obtain ⟨g', t1, t2, t3⟩ := ih (k + 1) F g1 (by omega) (by omega) (by rw [ez]; exact ⟨T, t, q3 K T a1, q2, q4, by rw [q5 5 (by omega)]; exact a4, a5, by rw [q5 6 (by omega)]; exact a6⟩) (fun j hj => by rw [q6 3 (by omega)]; exact h3 j hj)
      refine ⟨g', ?_, t2, t3⟩
      rw [if_pos (by rw [c]; rfl), show (8 : Int32) + jI (k : Int) = jI (cp (8 + k, 3)) from by rw [j_8, jI_add]; rfl, show jI (k : Int) = jI (cp (k, 3)) from rfl, q1, b1_some, lT_eq, show jI (cp (k, 3) : Int) + 1 = jI ((k + 1 : Nat)) from jI_p1 k]
      exact t1
    · have ez : lk u (k + 1) = lk u k := by rw [lk, if_neg c]
      obtain ⟨g', t1, t2, t3⟩ := ih (k + 1) F g (by omega) (by omega) (by rw [ez]; exact h) h3
      refine ⟨g', ?_, t2, t3⟩
      rw [if_neg (by rw [j_2, jI_eq (by omega) (by omega) (by omega) (by omega)]; omega), lT_eq, jI_p1]
      exact t1
theorem cnt_full {K : Kd} {n : Nat} (h : ∀ m, K m = none ↔ n ≤ m) : ∀ N, n ≤ N → cnt K N = n := by
  intro N
  induction N with
  | zero => intro z; show 0 = n; omega
  | succ N ih =>
    intro z
    show cnt K N + _ = n
    by_cases c : n = N + 1
    · rw [if_neg (fun y => by have := (h N).mp y; omega)]
      have : cnt K N = N := by
        have all : ∀ M, M ≤ N → cnt K M = M := by
          intro M
          induction M with
          | zero => intro _; rfl
          | succ M ih2 => intro hM; show cnt K M + _ = _; rw [ih2 (by omega), if_neg (fun y => by have := (h M).mp y; omega)]
        exact all N (Nat.le_refl N)
      omega
    · rw [ih (by omega), if_pos ((h N).mpr (by omega))]; rfl
theorem p_net {d g o : Ob} {nd lim : Nat → Nat} {L : Port} (h : PB d g o n 0 3 nd lim u K w L) (hn : n ≤ 30) : ∃ (g' o' : Ob) (N : Nt), FX1_closeWires 180 d g = some g' ∧ FX7_layNet o = some o' ∧ Good N ∧ RGr 180 g' N.1 N.2.1 N.2.2 ∧ Sl 0 o' N.1 N.2.1 N.2.2 ∧ (∀ j, j < 4 → oA g' 3 j = 0) ∧ oV o' 4 = 0 ∧ FN (sV o 4 0) o' ∧ ∀ m, N.1 m = none ↔ n ≤ m := by
  obtain ⟨hA, hU, hU', hu2, hR, hK, hW, hG, hD, hS, hlim, hDn⟩ := h
  obtain ⟨T, t, hRK, hRW, -⟩ := hG.1
  have lim2 : lim = fun _ => 2 := by
    funext m
    rcases hlim m with z | ⟨j, z, -⟩
    · exact z
    · omega
  subst lim2
  have hO : Occ n u K w := by
    refine ⟨fun p => ?_, hG.2.1, hu2, by omega, hG.2.2.1, hRK.2.2.2.2⟩
    rw [hD.1 p]
    constructor
    · exact fun z => z.1
    · exact fun z => ⟨z, by omega⟩
  have hR0 : RawOk u w o := ⟨fun p q hp => hW p q hp (fun j hj => by omega) (fun z => by omega), hU'⟩
  obtain ⟨g', e1, r1, d1⟩ := c_close hO hU 8 0 fu g (by omega) (by rw [fu_eq]; omega) hG.1 hG.2.2.2
  obtain ⟨o', e2, s2, v2, f2⟩ := m_layNet hO hR0 hK hR.2.1
  have hHU := Occ_HU hO
  obtain ⟨fM, fO⟩ := Fz_facts hHU (lk_ok (u := u) (k := 8) (by omega))
  have occ : ∀ m s, s < 3 → ((Fz w (lk u 8)).1 (m, s) ≠ none ↔ w (m, s) ≠ none) := fun m s hs => by
    rw [fO]
    refine ⟨fun z => z.1, fun z => ⟨z, fun i hi => ⟨fun y => ?_, fun y => ?_⟩⟩⟩
    · have := congrArg Prod.snd y; simp only at this; omega
    · have := congrArg Prod.snd y; simp only at this; omega
  refine ⟨g', o', (K, (Fz w (lk u 8)).1, (Fz w (lk u 8)).2), e1, e2, ⟨WF_of fM (fun m => ⟨?_, ?_, ?_⟩) (fun m s hs hw => ?_), ⟨n, fun m hm => (hG.2.2.1 m).mpr hm⟩⟩, r1, s2, d1, v2, f2, hG.2.2.1⟩
  · rw [occ m 0 (by omega), hO.1]
    constructor
    · rintro (z | z | z) y
      · have := (hG.2.2.1 m).mp y; have := z.2; simp only at this; omega
      · have := z.1; simp only at this; omega
      · have := z.1; simp only at this; omega
    · intro z
      refine Or.inl ⟨rfl, ?_⟩
      rcases Nat.lt_or_ge m n with c | c
      · exact c
      · exact absurd ((hG.2.2.1 m).mpr c) z
  · rw [occ m 1 (by omega), hO.1]
    constructor
    · rintro (z | z | z)
      · have := z.1; simp only at this; omega
      · exact z.2.1
      · have := z.1; simp only at this; omega
    · intro z; exact Or.inr (Or.inl ⟨Or.inl rfl, z, by simp⟩)
  · rw [occ m 2 (by omega), hO.1]
    constructor
    · rintro (z | z | z)
      · have := z.1; simp only at this; omega
      · exact z.2.1
      · have := z.1; simp only at this; omega
    · intro z; exact Or.inr (Or.inl ⟨Or.inr rfl, z, by simp⟩)
  · have nl : ¬ isL2 u (m, s) := fun z => hw (W_none hO (Or.inr z))
    rcases Occ_end hO ((fO _).mp hw).1 nl with a | a
    · have := a.1; simp only at this; omega
    · exact ⟨a.1, a.2.1⟩
end CW
