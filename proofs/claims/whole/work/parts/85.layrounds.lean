/-! the reference's layRounds -/
theorem m_fillList {N : Nt} {L : List Nat} (hG : Good N) (hL : L = mtg N.1 N.2.1 180 0) (h90 : L.length ≤ 90) (E : Ob → Option Ob) : ∀ (d i f : Nat) (o : Ob), i + d = L.length → d < f → MS 3 o N.1 N.2.1 N.2.2 → (∀ (j v : Nat), j < i → L[j]? = some v → oA o 32 j = jI v) → ∃ o', LX7_layRounds_27 (jI L.length) E f (jI i) o = E o' ∧ MS 3 o' N.1 N.2.1 N.2.2 ∧ (∀ (j v : Nat), L[j]? = some v → oA o' 32 j = jI v) ∧ Wk o o' ∧ oV o' 31 = oV o 31 := by
  intro d
  induction d with
  | zero =>
    intro i f o hi hf hM hr
    obtain ⟨f, rfl⟩ : ∃ f', f = f' + 1 := ⟨f - 1, by omega⟩
    refine ⟨o, ?_, hM, fun j v hv => hr j v ?_ hv, Wk_rf o, rfl⟩
    · rw [LX7_layRounds_27.eq_2, if_pos (by rw [jI_le (by omega) (by omega) (by omega) (by omega)]; omega)]
    · rcases Nat.lt_or_ge j L.length with c | c
      · omega
      · rw [List.getElem?_eq_none_iff.mpr c] at hv; cases hv
  | succ d ih =>
    intro i f o hi hf hM hr
    obtain ⟨f, rfl⟩ : ∃ f', f = f' + 1 := ⟨f - 1, by omega⟩
    have hget : L[i]? = some (L[i]'(by omega)) := List.getElem?_eq_getElem (by omega)
    have ma0 := MS_meetingAt (b := 3) (by omega) hM hG.1 i (by omega)
    rw [← hL, hget] at ma0
    simp only at ma0
    have ic : (jI (i : Int)).toNatClampNeg = i := by rw [jI_cl (by omega) (by omega), Int.toNat_natCast]
    obtain ⟨o', q1, q2, q3, q4, q5⟩ := ih (i + 1) f (sA o 32 i (jI (L[i]'(by omega) : Nat))) (by omega) (by omega) (MS_sc hM (by omega)) (fun j v hj hv => by
      rw [oA_sA]
      by_cases c : j = i
      · rw [if_pos ⟨rfl, c⟩]
        rw [c, hget] at hv
        rw [Option.some.inj hv]
      · rw [if_neg (fun z => c z.2)]
        exact hr j v (by omega) hv)
    refine ⟨o', ?_, q2, q3, Wk_tr (Wk_sA (by omega) (by unfold Pk; omega)) q4, q5⟩
    rw [LX7_layRounds_27.eq_2, if_neg (by rw [jI_le (by omega) (by omega) (by omega) (by omega)]; omega), ma0, b1_some, if_pos (by rw [jI_inb (by omega) (by omega)]; omega), lT_eq, lT_eq, ic, jI_p1]
    exact q1
theorem m_doList {L : List Nat} (h90 : L.length ≤ 90) (E : Ob → Option Ob) : ∀ (l : List Nat) (i f : Nat) (o : Ob) (N N' : Nt) (ss : List Nat) (m : Nat), L.drop i = l → i ≤ L.length → l.length < f → Good N → PL l N ss N' → MS 3 o N.1 N.2.1 N.2.2 → (∀ (j v : Nat), L[j]? = some v → oA o 32 j = jI v) → cnt N.1 180 + 2 * (l.length + m) ≤ 180 → ∃ o', LX7_layRounds_51 (jI L.length) E f (jI i) o = E o' ∧ MS 3 o' N'.1 N'.2.1 N'.2.2 ∧ Wk o o' ∧ oV o' 31 = oV o 31 ∧ cnt N'.1 180 + 2 * m ≤ 180 := by
  intro l
  induction l with
  | nil =>
    intro i f o N N' ss m hd hi hf hG hP hM hr hc
    obtain ⟨f, rfl⟩ : ∃ f', f = f' + 1 := ⟨f - 1, by omega⟩
    obtain ⟨rfl, rfl⟩ := hP
    have hi' : L.length ≤ i := by
      rcases Nat.lt_or_ge i L.length with c | c
      · rw [List.drop_eq_getElem_cons c] at hd; cases hd
      · exact c
    refine ⟨o, ?_, hM, Wk_rf o, rfl, by simpa using hc⟩
    rw [LX7_layRounds_51.eq_2, if_pos (by rw [jI_le (by omega) (by omega) (by omega) (by omega)]; omega)]
  | cons x l ih =>
    intro i f o N N' ss m hd hi hf hG hPL hM hr hc
    obtain ⟨f, rfl⟩ : ∃ f', f = f' + 1 := ⟨f - 1, by omega⟩
    obtain ⟨d1, d2, d3⟩ := drop_cons hd
    simp only [List.length_cons] at hc hf
    obtain ⟨y, kx, ky, N1, ss', hx, hP, -, hPL'⟩ := hPL
    obtain ⟨o1, e1, m1, f1⟩ := MS_meetNow (b := 3) (by omega) hM hG.1 hx.1 hx.2.1 hx.2.2 hP (fun _ => by omega)
    have hcnt := Perf_cnt hG.1 hx.1 hx.2.1 hx.2.2 hP (MS_bd hM) (MS_bd m1)
    have hle : cnt N1.1 180 ≤ cnt N.1 180 + 2 := by
      by_cases c : sortS kx ky = 2
      · rw [if_pos c] at hcnt; omega
      · rw [if_neg c] at hcnt; omega
    have r32 : oA o1 32 = oA o 32 := f1.2.2.2.2.1 32 (by omega) (by omega)
    obtain ⟨o', q1, q2, q3, q4, q5⟩ := ih (i + 1) f o1 N1 N' ss' m d2 (by omega) (by omega) (Perf_Good hG hx hP) hPL' m1 (fun j v hv => by rw [r32]; exact hr j v hv) (by omega)
    refine ⟨o', ?_, q2, Wk_tr (Wk_Fm (by omega) f1) q3, q4.trans (f1.2.2.2.2.2.1 31), q5⟩
    have ic : (jI (i : Int)).toNatClampNeg = i := by rw [jI_cl (by omega) (by omega), Int.toNat_natCast]
    rw [LX7_layRounds_51.eq_2, if_neg (by rw [jI_le (by omega) (by omega) (by omega) (by omega)]; omega), if_pos (by rw [jI_inb (by omega) (by omega)]; omega), ic, hr i x d1, e1, b2_some, lT_eq, jI_p1]
    exact q1
theorem m_roundsLoop (E : Ob → Option Ob) : ∀ (R f : Nat) (o : Ob) (N M : Nt) (ss : List Nat) (c : Nat), R < f → Good N → Rnd R N ss M → MS 3 o N.1 N.2.1 N.2.2 → ss.length ≤ 60 → cnt N.1 180 + 2 * ss.length ≤ 180 → oV o 31 = jI c → ∃ o', LX7_layRounds_21 E f (jI (mtn 180 N).length) o = E o' ∧ Wk o o' ∧ oV o' 31 = jI ((c + R : Nat)) := by
  intro R
  induction R with
  | zero =>
    intro f o N M ss c hf hG hR hM hl hc h31
    obtain ⟨f, rfl⟩ : ∃ f', f = f' + 1 := ⟨f - 1, by omega⟩
    obtain ⟨rfl, rfl, h3⟩ := hR
    rw [h3]
    exact ⟨o, by rw [LX7_layRounds_21.eq_2, if_pos (by decide)], Wk_rf o, h31⟩
  | succ R ih =>
    intro f o N M ss c hf hG hR hM hl hc h31
    obtain ⟨f, rfl⟩ : ∃ f', f = f' + 1 := ⟨f - 1, by omega⟩
    obtain ⟨h0, s1, N1, s2, hPL, hR', rfl⟩ := hR
    obtain ⟨a1, a2, a3⟩ := PL_Rs _ _ _ _ hG hPL
    rw [List.length_append] at hl hc
    have hpos : 0 < (mtn 180 N).length := List.length_pos_iff.mpr h0
    obtain ⟨o1, q1, q2, q3, q4, q5⟩ := m_fillList (N := N) (L := mtn 180 N) hG rfl (by omega) (fun o0_17 => LX7_layRounds_51 (jI (mtn 180 N).length) (fun o0_25 => lT (sV o0_25 31 ((oV o0_25 31) + (1 : Int32))) fun o0_27 => b1 (FX7_meetingsNow o0_27) fun r_28 => LX7_layRounds_21 E f r_28 o0_27) fu (0 : Int32) o0_17) (mtn 180 N).length 0 fu o (by omega) (by rw [fu_eq]; omega) hM (fun j v hj => by omega)
    obtain ⟨o2, t1, t2, t3, t4, t5⟩ := m_doList (L := mtn 180 N) (by omega) (fun o0_25 => lT (sV o0_25 31 ((oV o0_25 31) + (1 : Int32))) fun o0_27 => b1 (FX7_meetingsNow o0_27) fun r_28 => LX7_layRounds_21 E f r_28 o0_27) (mtn 180 N) 0 fu o1 N N1 s1 s2.length List.drop_zero (by omega) (by rw [fu_eq]; omega) hG hPL q2 q3 (by omega)
    have m3 : MS 3 (sV o2 31 (oV o2 31 + 1)) N1.1 N1.2.1 N1.2.2 := ⟨by rw [oV_sV, if_neg (by omega)]; exact t2.1, t2.2⟩
    have v31 : oV (sV o2 31 (oV o2 31 + 1)) 31 = jI ((c + 1 : Nat)) := by
      rw [oV_sV, if_pos rfl, t4, q5, h31, jI_p1]
    obtain ⟨o3, x1, x2, x3⟩ := ih f (sV o2 31 (oV o2 31 + 1)) N1 M s2 (c + 1) (by omega) a2 hR' m3 (by omega) t5 v31
    refine ⟨o3, ?_, Wk_tr (Wk_tr (Wk_tr q4 t3) (Wk_sV (by unfold Pv; omega))) x2, by rw [x3]; congr 2; omega⟩
    rw [LX7_layRounds_21.eq_2, if_neg (by rw [j_0, jI_le (by omega) (by omega) (by omega) (by omega)]; omega)]
    rw [show (0 : Int32) = jI ((0 : Nat) : Int) from rfl] at q1 ⊢
    rw [q1, t1, lT_eq, MS_meetingsNow (by omega) m3 a2.1, b1_some]
    exact x1
theorem Rnd_len : ∀ (R : Nat) (N : Nt) (ss : List Nat) (M : Nt), Good N → Rnd R N ss M → R ≤ ss.length := by
  intro R
  induction R with
  | zero => intro N ss M _ _; omega
  | succ R ih =>
    intro N ss M hG h
    obtain ⟨h0, s1, N1, s2, hPL, hR', rfl⟩ := h
    obtain ⟨a1, a2, a3⟩ := PL_Rs _ _ _ _ hG hPL
    have := ih N1 s2 M a2 hR'
    have hpos : 0 < (mtn 180 N).length := List.length_pos_iff.mpr h0
    rw [List.length_append]
    omega
theorem m_layRounds {N0 M : Nt} {R : Nat} {ss : List Nat} (hG0 : Good N0) {o : Ob} (hS : Sl 0 o N0.1 N0.2.1 N0.2.2) (hR : Rnd R N0 ss M) (hl : ss.length ≤ 60) (hc : cnt N0.1 180 ≤ 60) : ∃ o', FX7_layRounds o = some o' ∧ oV o' 31 = jI R ∧ oV o' 4 = 0 ∧ Wk o o' := by
  obtain ⟨o1, e1, s1, f1, k1⟩ := Sl_copy (t := 3) (f := 0) (by omega) (by omega) (by omega) hS
  have m1 : MS 3 (sV (sV o1 4 3) 31 0) N0.1 N0.2.1 N0.2.2 := ⟨rfl, s1⟩
  obtain ⟨o2, q1, q2, q3⟩ := m_roundsLoop (fun o0_31 => lT (sV o0_31 4 (0 : Int32)) fun o0_33 => some o0_33) R fu (sV (sV o1 4 3) 31 0) N0 M ss 0 (by have := Rnd_len R N0 ss M hG0 hR; rw [fu_eq]; omega) hG0 hR m1 hl (by omega) rfl
  refine ⟨sV o2 4 0, ?_, ?_, rfl, Wk_tr (Wk_tr (Wk_tr (Wk_tr (Wk_Fm (by omega) f1) (Wk_sV (by unfold Pv; omega))) (Wk_sV (by unfold Pv; omega))) q2) (Wk_sV (by unfold Pv; omega))⟩
  · unfold FX7_layRounds
    rw [show (3 : Int32) = jI ((3 : Nat) : Int) from rfl, show (0 : Int32) = jI ((0 : Nat) : Int) from rfl, e1, b1_some, lT_eq, lT_eq]
    rw [show jI ((3 : Nat) : Int) = (3 : Int32) from rfl, show jI ((0 : Nat) : Int) = (0 : Int32) from rfl, MS_meetingsNow (by omega) m1 hG0.1, b1_some]
    exact q1
  · rw [oV_sV, if_neg (by omega), q3, Nat.zero_add]
