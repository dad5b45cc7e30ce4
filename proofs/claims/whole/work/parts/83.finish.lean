/-! the class's finish -/
theorem RGr_bd {N : Nat} {g : Ob} {K : Kd} {w : Wr} {r : Nat} (h : RGr N g K w r) : ∀ m, N ≤ m → K m = none := by
  obtain ⟨T, t, hK, -⟩ := h
  have := hK.2.1
  exact fun m hm => hK.2.2.2.1 m (by omega)
theorem drop_cons {L l : List Nat} {i x : Nat} (h : L.drop i = x :: l) : L[i]? = some x ∧ L.drop (i + 1) = l ∧ i < L.length := by
  have h1 : i < L.length := by
    rcases Nat.lt_or_ge i L.length with c | c
    · exact c
    · rw [List.drop_eq_nil_of_le c] at h; cases h
  rw [List.drop_eq_getElem_cons h1] at h
  have h2 := List.cons.inj h
  exact ⟨by rw [List.getElem?_eq_getElem h1, h2.1], h2.2, h1⟩
theorem s_roundLoop {L : List Nat} (hL : L.length ≤ 180) (x1 : Int32) (E : Ob → Option (Int32 × Ob)) : ∀ (l : List Nat) (i f : Nat) (g : Ob) (N : Nt), L.drop i = l → i ≤ L.length → l.length < f → Good N → Pend N l → RGr 180 g N.1 N.2.1 N.2.2 → Ls g L → cnt N.1 180 + 2 * l.length ≤ 180 → ∃ g' N' ss, LX2_finish_49 180 x1 (jI L.length) E f (jI i) g = E g' ∧ PL l N ss N' ∧ RGr 180 g' N'.1 N'.2.1 N'.2.2 ∧ (∀ j, j < 4 → oA g' 3 j = oA g 3 j + jI (dnc ss j)) ∧ oV g' 9 = oV g 9 ∧ cnt N'.1 180 ≤ cnt N.1 180 + 2 * l.length := by
  intro l
  induction l with
  | nil =>
    intro i f g N hd hiL hf hG hp hR hLs hc
    obtain ⟨f, rfl⟩ : ∃ f', f = f' + 1 := ⟨f - 1, by omega⟩
    have hi : L.length ≤ i := by
      rcases Nat.lt_or_ge i L.length with c | c
      · rw [List.drop_eq_getElem_cons c] at hd; cases hd
      · exact c
    refine ⟨g, N, [], ?_, ⟨rfl, rfl⟩, hR, fun j hj => ?_, rfl, by omega⟩
    · rw [LX2_finish_49.eq_2, if_pos (by rw [jI_le (by omega) (by omega) (by omega) (by omega)]; omega)]
    · have : dnc [] j = 0 := by unfold dnc; split <;> rfl
      rw [this]
      show oA g 3 j = oA g 3 j + 0
      rw [Int32.add_zero]
  | cons x l ih =>
    intro i f g N hd hiL hf hG hp hR hLs hc
    obtain ⟨f, rfl⟩ : ∃ f', f = f' + 1 := ⟨f - 1, by omega⟩
    obtain ⟨d1, d2, d3⟩ := drop_cons hd
    simp only [List.length_cons] at hc hf
    obtain ⟨y, kx, ky, hr, hlt⟩ := hp.1 x (List.mem_cons_self ..)
    obtain ⟨g1, K1, w1, r1, e1, hP, hR1, hD⟩ := s_perform (N := 180) (by omega) hR hG.1 hr.1 hr.2.1 hr.2.2 (fun _ => by omega)
    have hP' : Perf N.1 N.2.1 N.2.2 x y kx ky ((K1, w1, r1) : Nt).1 ((K1, w1, r1) : Nt).2.1 ((K1, w1, r1) : Nt).2.2 := hP
    have hG1 := Perf_Good hG hr hP'
    have hcnt := Perf_cnt hG.1 hr.1 hr.2.1 hr.2.2 hP (RGr_bd hR) (RGr_bd hR1)
    have hle : cnt K1 180 ≤ cnt N.1 180 + 2 := by
      by_cases c : sortS kx ky = 2
      · rw [if_pos c] at hcnt; omega
      · rw [if_neg c] at hcnt; omega
    have hLs1 : Ls g1 L := ⟨by rw [hD.2.2.1]; exact hLs.1, fun j v hv => by rw [hD.2.1]; exact hLs.2 j v hv⟩
    obtain ⟨g', N', ss, q1, q2, q3, q4, q5, q6⟩ := ih (i + 1) f g1 (K1, w1, r1) d2 (by omega) (by omega) hG1 (Pend_step hG hp hr hP') hR1 hLs1 (by show cnt K1 180 + 2 * l.length ≤ 180; omega)
    refine ⟨g', N', sortS kx ky :: ss, ?_, ⟨y, kx, ky, (K1, w1, r1), ss, hr, hP', rfl, q2⟩, q3, fun j hj => ?_, q5.trans hD.2.2.2, ?_⟩
    · have nx : jI (i : Int) + 1 = jI ((i + 1 : Nat)) := jI_p1 i
      rw [LX2_finish_49.eq_2, if_neg (by rw [jI_le (by omega) (by omega) (by omega) (by omega)]; omega), s_listedAt (by omega) hLs hL i (by omega), b1_some, d1]
      simp only
      rw [e1, b2_some, lT_eq, nx]
      exact q1
    · rw [q4 j hj, hD.1 j]
      have hs := sortS_in kx ky
      unfold dnc
      by_cases c0 : j = 0
      · rw [if_pos c0, if_pos c0, if_pos (Or.inl c0)]
        simp only [List.length_cons]
        rw [Int32.add_assoc, j_1, jI_add]
        congr 2
        omega
      · rw [if_neg c0, if_neg c0, ct_cons]
        by_cases c1 : j = sortS kx ky
        · rw [if_pos (Or.inr c1), if_pos c1.symm, Int32.add_assoc, j_1, jI_add]
          congr 2
        · rw [if_neg (fun z => z.elim c0 c1), if_neg (fun z => c1 z.symm), Nat.zero_add]
    · have : cnt N'.1 180 ≤ cnt K1 180 + 2 * l.length := q6
      simp only [List.length_cons]
      omega
theorem RGr_v9 {N : Nat} {g : Ob} {K : Kd} {w : Wr} {r : Nat} (h : RGr N g K w r) (x : Int32) : RGr N (sV g 9 x) K w r := by
  obtain ⟨T, t, h1, h2, h3, h4, h5, h6⟩ := h
  exact ⟨T, t, h1, h2, h3, h4, h5, h6⟩
theorem lf_bd {K : Kd} (h : ∃ B, ∀ n, B ≤ n → K n = none) : ∃ a, lf K a := by
  obtain ⟨B, hB⟩ := h
  obtain ⟨m, -, hm⟩ := lf_ex (K := K) (n := B + 1) (by
    show cnt K B + _ < B + 1
    rw [if_pos (hB B (by omega))]
    have := cnt_le K B
    omega)
  exact ⟨m, hm⟩
theorem bd_ku {K : Kd} (h : ∃ B, ∀ n, B ≤ n → K n = none) (a : Nat) (v : Option Nat) : ∃ B, ∀ n, B ≤ n → ku K a v n = none := by
  obtain ⟨B, hB⟩ := h
  refine ⟨B + a + 1, fun n hn => ?_⟩
  unfold ku
  rw [if_neg (by omega)]
  exact hB n (by omega)
theorem Perf_ex {N : Nt} (hG : Good N) (x y kx ky : Nat) : ∃ N1 : Nt, Perf N.1 N.2.1 N.2.2 x y kx ky N1.1 N1.2.1 N1.2.2 := by
  have b0 : ∃ B, ∀ n, B ≤ n → K00 N.1 x y n = none := bd_ku (bd_ku hG.2 x none) y none
  by_cases c1 : kx = ky
  · by_cases c0 : kx = 0
    · exact ⟨(_, _, _), Or.inl ⟨c1, c0, rfl, rfl, rfl⟩⟩
    · exact ⟨(_, _, _), Or.inr (Or.inl ⟨c1, c0, _, _, rfl, rfl, rfl, rfl, rfl⟩)⟩
  · by_cases c2 : kx = 0 ∨ ky = 0
    · obtain ⟨a, ha⟩ := lf_bd b0
      have b1 := bd_ku b0 a (some 0)
      obtain ⟨b, hb⟩ := lf_bd b1
      exact ⟨(_, _, _), Or.inr (Or.inr (Or.inl ⟨c1, c2, _, a, b, rfl, ha, hb, rfl, rfl, rfl⟩))⟩
    · obtain ⟨a, ha⟩ := lf_bd b0
      have b1 := bd_ku b0 a (some kx)
      obtain ⟨b, hb⟩ := lf_bd b1
      have b2 := bd_ku b1 b (some kx)
      obtain ⟨c, hc⟩ := lf_bd b2
      have b3 := bd_ku b2 c (some ky)
      obtain ⟨d, hd⟩ := lf_bd b3
      exact ⟨(_, _, _), Or.inr (Or.inr (Or.inr ⟨c1, by omega, by omega, a, b, c, d, ha, hb, hc, hd, rfl, rfl, rfl⟩))⟩
theorem PL_ex : ∀ (l : List Nat) (N : Nt), Good N → Pend N l → ∃ ss N', PL l N ss N' := by
  intro l
  induction l with
  | nil => intro N _ _; exact ⟨[], N, rfl, rfl⟩
  | cons x l ih =>
    intro N hG hp
    obtain ⟨y, kx, ky, hr, hlt⟩ := hp.1 x (List.mem_cons_self ..)
    obtain ⟨N1, hP⟩ := Perf_ex hG x y kx ky
    obtain ⟨ss, N', h⟩ := ih N1 (Perf_Good hG hr hP) (Pend_step hG hp hr hP)
    exact ⟨_, N', y, kx, ky, N1, ss, hr, hP, rfl, h⟩
theorem Int32_0 (a : Int32) : a = 0 + a := (Int32.zero_add a).symm
theorem dnc_app (l l' : List Nat) (j : Nat) : dnc (l ++ l') j = dnc l j + dnc l' j := by
  unfold dnc
  by_cases c : j = 0
  · rw [if_pos c, if_pos c, if_pos c, List.length_append]
  · rw [if_neg c, if_neg c, if_neg c, ct_app]
/-- what is left when all has met, or that it doesn't come to that within 60 -/
theorem s_finishLoop {N0 : Nt} (hG0 : Good N0) : ∀ (d k f : Nat) (g : Ob) (N : Nt) (l : List Nat), k + d = 61 → d < f → Good N → Rs l N0 N → l.length ≤ 60 → k ≤ l.length → RGr 180 g N.1 N.2.1 N.2.2 → (∀ j, j < 4 → oA g 3 j = jI (dnc l j)) → cnt N.1 180 ≤ 60 + 2 * l.length → (∃ g' R ss M, LX2_finish_10 180 (fun x1_21 o0_22 => lT (sV o0_22 9 x1_21) fun o0_24 => some ((1 : Int32), o0_24)) f (jI k) g = some (1, g') ∧ Rnd R N ss M ∧ l.length + ss.length ≤ 60 ∧ RGr 180 g' M.1 M.2.1 M.2.2 ∧ oV g' 9 = jI ((k + R : Nat)) ∧ ∀ j, j < 4 → oA g' 3 j = jI (dnc (l ++ ss) j)) ∨ (∃ g', LX2_finish_10 180 (fun x1_21 o0_22 => lT (sV o0_22 9 x1_21) fun o0_24 => some ((1 : Int32), o0_24)) f (jI k) g = some (0, g') ∧ ∀ l' M, Rs l' N0 M → Nf M → 60 < l'.length) := by
  intro d
  induction d with
  | zero => intro k f g N l hk; intro _ _ _ h1 h2; omega
  | succ d ih =>
    intro k f g N l hk hf hG hRs hl hkl hR hdn hc
    obtain ⟨f, rfl⟩ : ∃ f', f = f' + 1 := ⟨f - 1, by omega⟩
    obtain ⟨g1, e1, fl1, ls1⟩ := s_list (N := 180) (by omega) hG.1 hR
    have hlen := mtg_len N.1 N.2.1 180 0
    have hR1 := RGr_Fl hR fl1
    have hd0 : oA g1 3 0 = jI l.length := by
      rw [fl1.1 3 (by omega), hdn 0 (by omega)]
      rfl
    have z0 : (0 : Int32).toNatClampNeg = 0 := rfl
    rw [LX2_finish_10.eq_2, if_neg (by rw [j_60, jI_lt (by omega) (by omega) (by omega) (by omega)]; omega), e1, b2_some, z0, hd0]
    by_cases c0 : mtg N.1 N.2.1 180 0 = []
    · left
      refine ⟨sV g1 9 (jI k), 0, [], N, ?_, ⟨rfl, rfl, c0⟩, by simpa using hl, RGr_v9 hR1 _, rfl, fun j hj => ?_⟩
      · rw [c0, if_pos (by rfl), lT_eq]
      · rw [List.append_nil, oA_sV, fl1.1 3 (by omega)]
        exact hdn j hj
    · have hpos : 0 < (mtg N.1 N.2.1 180 0).length := List.length_pos_iff.mpr c0
      rw [if_neg (by rw [j_0, jI_eq (by omega) (by omega) (by omega) (by omega)]; omega), jI_add]
      by_cases c1 : l.length + (mtg N.1 N.2.1 180 0).length ≤ 60
      · rw [if_pos (by rw [j_60, jI_le (by omega) (by omega) (by omega) (by omega)]; omega)]
        obtain ⟨g2, N2, s1, q1, q2, q3, q4, q5, q6⟩ := s_roundLoop (L := mtg N.1 N.2.1 180 0) hlen (jI k) (fun o0_15 => lT (jI (k : Int) + (1 : Int32)) fun x1_16 => LX2_finish_10 180 (fun x1_21 o0_22 => lT (sV o0_22 9 x1_21) fun o0_24 => some ((1 : Int32), o0_24)) f x1_16 o0_15) _ 0 fu g1 N (List.drop_zero) (by omega) (by rw [fu_eq]; omega) hG (mtn_Pend (n := 180) hG) hR1 ls1 (by omega)
        obtain ⟨a1, a2, a3⟩ := PL_Rs _ _ _ _ hG q2
        rw [show (0 : Int32) = jI ((0 : Nat) : Int) from rfl, q1, lT_eq, jI_p1 k]
        have hdn2 : ∀ j, j < 4 → oA g2 3 j = jI (dnc (l ++ s1) j) := fun j hj => by
          rw [q4 j hj, fl1.1 3 (by omega), hdn j hj, jI_add, dnc_app]
          rfl
        rcases ih (k + 1) f g2 N2 (l ++ s1) (by omega) (by omega) a2 (Rs_app _ _ _ _ _ hRs a1) (by rw [List.length_append, a3]; exact c1) (by rw [List.length_append]; omega) q3 hdn2 (by rw [List.length_append, a3]; omega) with ⟨g', R, ss, M, b1, b2, b3, b4, b5, b6⟩ | ⟨g', b1, b2⟩
        · left
          refine ⟨g', R + 1, s1 ++ ss, M, b1, ⟨c0, s1, N2, ss, q2, b2, rfl⟩, ?_, b4, ?_, ?_⟩
          · rw [List.length_append] at b3 ⊢; omega
          · rw [b5]; congr 2; omega
          · rw [← List.append_assoc]; exact b6
        · right
          exact ⟨g', b1, b2⟩
      · rw [if_neg (by rw [j_60, jI_le (by omega) (by omega) (by omega) (by omega)]; omega)]
        right
        refine ⟨g1, rfl, fun l' M h1 h2 => ?_⟩
        obtain ⟨ss, N', hPL⟩ := PL_ex _ N hG (mtn_Pend (n := 180) hG)
        obtain ⟨a1, a2, a3⟩ := PL_Rs _ _ _ _ hG hPL
        have := conf_len hG0 (Rs_app _ _ _ _ _ hRs a1) h1 h2
        rw [List.length_append, a3] at this
        have e : (mtn 180 N).length = (mtg N.1 N.2.1 180 0).length := rfl
        omega
theorem s_finish {N0 : Nt} (hG0 : Good N0) {g : Ob} (hR : RGr 180 g N0.1 N0.2.1 N0.2.2) (hc : cnt N0.1 180 ≤ 60) : (∃ g' R ss M, FX2_finish 180 g = some (1, g') ∧ Rnd R N0 ss M ∧ ss.length ≤ 60 ∧ RGr 180 g' M.1 M.2.1 M.2.2 ∧ oV g' 9 = jI R ∧ ∀ j, j < 4 → oA g' 3 j = jI (dnc ss j)) ∨ (∃ g', FX2_finish 180 g = some (0, g') ∧ ∀ l' M, Rs l' N0 M → Nf M → 60 < l'.length) := by
  have hR' : RGr 180 (sR g 3 (fl g 3 4 (0 : Int32))) N0.1 N0.2.1 N0.2.2 := by
    obtain ⟨T, t, h1, h2, h3, h4, h5, h6⟩ := hR
    exact ⟨T, t, h1, h2, h3, h4, h5, h6⟩
  have hd : ∀ j, j < 4 → oA (sR g 3 (fl g 3 4 (0 : Int32))) 3 j = jI (dnc [] j) := by
    intro j hj
    rw [oA_sRj, if_pos rfl]
    unfold fl
    rw [if_pos hj]
    unfold dnc
    split <;> rfl
  unfold FX2_finish
  rw [if_pos (by omega), lT_eq]
  rcases s_finishLoop hG0 61 0 fu _ N0 [] (by omega) (by rw [fu_eq]; omega) hG0 rfl (by simp) (by simp) hR' hd (by simpa using hc) with ⟨g', R, ss, M, b1, b2, b3, b4, b5, b6⟩ | ⟨g', b1, b2⟩
  · left
    exact ⟨g', R, ss, M, b1, b2, by simpa using b3, b4, by rw [b5, Nat.zero_add], by simpa using b6⟩
  · right
    exact ⟨g', b1, b2⟩
