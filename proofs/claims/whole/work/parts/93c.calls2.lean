/-! calls that only look, and what is seen -/
theorem mtg_60 {K : Kd} {w : Wr} (h : ∀ m, 60 ≤ m → K m = none) : mtg K w 180 0 = mtg K w 60 0 := mtg_top h (by omega)
section C2
variable {n : Nat} {M : Nat → Ob} {o : Ob}
theorem ok_as (hb : Bd n M o) (x1 x2 : Int32) : ∃ (r : Int32) (o' : Ob), FX6_as x1 x2 M = some r ∧ FX7_as x1 x2 o = some (r, o') ∧ Bd (n + 1) M o' := by
  obtain ⟨N, N', t, hi, s, s', l, cs, h⟩ := hb
  obtain ⟨a, rfl, a1, a2⟩ := int_jI x1
  obtain ⟨b, rfl, b1', b2'⟩ := int_jI x2
  have hs := sV_self h.2.1
  rcases who h.1.2.1 (Bq_MS h) a1 a2 with ⟨m, k, rfl, hk, hm, k3, e1, e2, e3, -⟩ | ⟨e1, e2, -⟩
  · by_cases c : 0 ≤ b ∧ b ≤ 4
    · obtain ⟨v, rfl⟩ := Int.eq_ofNat_of_zero_le c.1
      have wi : FX7_within (jI (v : Int)) (0 : Int32) (4 : Int32) = some 1 := by rw [j_0, j_4, within_jI (by omega) (by omega) (by omega) (by omega) (by omega) (by omega), if_pos (by omega)]
      have cls : FX6_as (jI m) (jI v) M = some (if v = 0 ∨ (v = 1 ∧ k = 0) ∨ (v = 2 ∧ k ≠ 0) ∨ (v = 3 ∧ 1 < k) ∨ (v = 4 ∧ k = 3) then jI m else -1) := by
        unfold FX6_as
        rw [e1, b1_some]
        rcases (show v = 0 ∨ v = 1 ∨ v = 2 ∨ v = 3 ∨ v = 4 by omega) with rfl | rfl | rfl | rfl | rfl <;> rcases (show k = 0 ∨ k = 1 ∨ k = 2 ∨ k = 3 by omega) with rfl | rfl | rfl | rfl <;> rfl
      have ref : FX7_as (jI m) (jI v) o = some (if v = 0 ∨ (v = 1 ∧ k = 0) ∨ (v = 2 ∧ k ≠ 0) ∨ (v = 3 ∧ 1 < k) ∨ (v = 4 ∧ k = 3) then jI m else -1, o) := by
        unfold FX7_as
        rw [lT_eq, hs, e2, b1_some, if_neg (by decide), wi, b1_some, if_neg (by decide), e3, b1_some]
        unfold BX7_as_47 BX7_as_66 BX7_as_76
        rcases (show v = 0 ∨ v = 1 ∨ v = 2 ∨ v = 3 ∨ v = 4 by omega) with rfl | rfl | rfl | rfl | rfl <;> rcases (show k = 0 ∨ k = 1 ∨ k = 2 ∨ k = 3 by omega) with rfl | rfl | rfl | rfl <;> rfl
      exact ⟨_, o, cls, ref, Bq_up h⟩
    · refine ⟨-102, o, ?_, ?_, Bq_up h⟩
      · unfold FX6_as
        rw [e1, b1_some, if_neg (by rw [j_m1, jI_eq (by omega) (by omega) (by omega) (by omega)]; omega), if_neg (by rw [j_0, jI_eq (by omega) (by omega) (by omega) (by omega)]; omega), if_neg (by rw [j_1, jI_eq (by omega) (by omega) (by omega) (by omega)]; omega), if_neg (by rw [j_2, jI_eq (by omega) (by omega) (by omega) (by omega)]; omega), if_neg (by rw [j_3, jI_eq (by omega) (by omega) (by omega) (by omega)]; omega), if_neg (by rw [j_4, jI_eq (by omega) (by omega) (by omega) (by omega)]; omega)]
      · unfold FX7_as
        rw [lT_eq, hs, e2, b1_some, if_neg (by decide), j_0, j_4, within_jI (by omega) (by omega) (by omega) (by omega) (by omega) (by omega), if_neg (by omega), b1_some, if_pos (by rfl)]
  · refine ⟨-101, o, ?_, ?_, Bq_up h⟩
    · unfold FX6_as
      rw [e1, b1_some, if_pos rfl]
    · unfold FX7_as
      rw [lT_eq, hs, e2, b1_some, if_pos rfl]
theorem ok_open (hb : Bd n M o) (x1 : Int32) : ∃ (r : Int32) (o' : Ob), FX6_open x1 M = some r ∧ FX7_open x1 o = some (r, o') ∧ Bd (n + 1) M o' := by
  obtain ⟨N, N', t, hi, s, s', l, cs, h⟩ := hb
  obtain ⟨a, rfl, a1, a2⟩ := int_jI x1
  have hs := sV_self h.2.1
  rcases whoOpen h.1.2.1 (Bq_MS h) a1 a2 with ⟨i, rfl, hi8, hw, e1, e2⟩ | ⟨e1, e2⟩
  · obtain ⟨q, hq⟩ := some_of hw
    refine ⟨jI (mp q), o, ?_, ?_, Bq_up h⟩
    · unfold FX6_open
      rw [e1, b1_some, if_neg (by decide), show jI (i : Int) = jI (cp (i, 3)) from rfl, told (by omega) h.1.1.1 h.1.2.1 hq, b1_some]
    · unfold FX7_open
      rw [lT_eq, hs, e2, b1_some, if_neg (by decide), show (900 : Int32) + jI (i : Int) = jI (mp (i, 3)) from by rw [j_900, jI_add]; rfl, m_told (by omega) (Bq_MS h) hq, b1_some]
  · refine ⟨-101, o, ?_, ?_, Bq_up h⟩
    · unfold FX6_open
      rw [e1, b1_some, if_pos rfl]
    · unfold FX7_open
      rw [lT_eq, hs, e2, b1_some, if_pos rfl]
theorem ok_meetings (hn : n < 64) (hb : Bd n M o) (x1 : Int32) : ∃ (r : Int32) (M' : Nat → Ob) (o' : Ob), FX6_meetings x1 M = some (r, M') ∧ FX7_meetings x1 o = some (r, o') ∧ Bd (n + 1) M' o' := by
  obtain ⟨N, N', t, hi, s, s', l, cs, h⟩ := hb
  obtain ⟨a, rfl, a1, a2⟩ := int_jI x1
  have hs := sV_self h.2.1
  obtain ⟨n0, n1, n2⟩ := isNet_t h.2.2.1 h.2.2.2.1 (by omega)
  have hbd := RGr_bd h.1.2.1
  obtain ⟨g', l1, l2, l3⟩ := s_list (N := 60) (by omega) h.1.1.1 h.1.2.1
  have hlen := mtg_len N.1 N.2.1 60 0
  have m1 := MS_meetingsNow (b := 0) (by omega) (Bq_MS h) h.1.1.1
  rw [mtg_60 hbd] at m1
  by_cases c : a = 0 ∨ (10 ≤ a ∧ a ≤ 39)
  · have bd : Bd (n + 1) (sM M 3 g') o := Bq_up (Bq_Cls h (Cls_3 M l2))
    have cls : ∀ y : Int32, (a = 0 → y = 0) → (a ≠ 0 → y = 1) → BX6_meetings_29 (jI a) y M = if t = 0 then some (-103, M) else if a = 0 then some (jI (mtg N.1 N.2.1 60 0).length, sM M 3 g') else some (jI (match (mtg N.1 N.2.1 60 0)[(a - 10).toNat]? with | none => -1 | some v => (v : Int)), sM M 3 g') := by
      intro y y0 y1
      unfold BX6_meetings_29
      by_cases t0 : t = 0
      · rw [if_pos (n2.mpr t0), if_pos t0]
      · rw [if_neg (fun z => t0 (n2.mp z)), if_neg t0, l1, b2_some, lT_eq]
        by_cases c0 : a = 0
        · rw [if_pos (y0 c0), if_pos c0]
        · obtain ⟨j, hj⟩ := Int.eq_ofNat_of_zero_le (show 0 ≤ a - 10 by omega)
          rw [if_neg (by rw [y1 c0]; decide), if_neg c0, show (sM M 3 g') 3 = g' from rfl, show jI a - (10 : Int32) = jI j from by rw [j_10, jI_sub, hj], s_listedAt (by omega) l3 hlen j (by omega), b1_some, hj]
          rfl
    have ref : BX7_meetings_18 (jI a) o = if t = 0 then some (-103, o) else if a = 0 then some (jI (mtg N.1 N.2.1 60 0).length, o) else some (jI (match (mtg N.1 N.2.1 60 0)[(a - 10).toNat]? with | none => -1 | some v => (v : Int)), o) := by
      unfold BX7_meetings_18
      rw [lT_eq, hs]
      by_cases t0 : t = 0
      · rw [n0 t0, b1_some, if_pos rfl, if_pos t0]
      · rw [n1 t0, b1_some, if_neg (by decide), if_neg t0]
        by_cases c0 : a = 0
        · rw [if_pos (by rw [c0]; rfl), if_pos c0, m1, b1_some]
        · obtain ⟨j, hj⟩ := Int.eq_ofNat_of_zero_le (show 0 ≤ a - 10 by omega)
          have m2 := MS_meetingAt (b := 0) (by omega) (Bq_MS h) h.1.1.1 j (by omega)
          rw [mtg_60 hbd] at m2
          rw [if_neg (by rw [j_0, jI_eq (by omega) (by omega) (by omega) (by omega)]; omega), if_neg c0, show jI a - (10 : Int32) = jI j from by rw [j_10, jI_sub, hj], m2, b1_some, hj]
          rfl
    have cls' : FX6_meetings (jI a) M = if t = 0 then some (-103, M) else if a = 0 then some (jI (mtg N.1 N.2.1 60 0).length, sM M 3 g') else some (jI (match (mtg N.1 N.2.1 60 0)[(a - 10).toNat]? with | none => -1 | some v => (v : Int)), sM M 3 g') := by
      unfold FX6_meetings
      by_cases c0 : a = 0
      · rw [if_pos (by rw [j_10, jI_lt (by omega) (by omega) (by omega) (by omega)]; omega), if_pos (by rw [c0]; rfl)]
        exact cls 0 (fun _ => rfl) (fun z => absurd c0 z)
      · rw [if_neg (by rw [j_10, jI_lt (by omega) (by omega) (by omega) (by omega)]; omega), if_neg (by rw [j_39, jI_lt (by omega) (by omega) (by omega) (by omega)]; omega), if_neg (by rw [j_0, jI_eq (by omega) (by omega) (by omega) (by omega)]; omega), if_neg (by decide)]
        exact cls 1 (fun z => absurd z c0) (fun _ => rfl)
    have ref' : FX7_meetings (jI a) o = if t = 0 then some (-103, o) else if a = 0 then some (jI (mtg N.1 N.2.1 60 0).length, o) else some (jI (match (mtg N.1 N.2.1 60 0)[(a - 10).toNat]? with | none => -1 | some v => (v : Int)), o) := by
      unfold FX7_meetings
      by_cases c0 : a = 0
      · rw [if_pos (by rw [c0]; rfl)]; exact ref
      · rw [if_neg (by rw [j_0, jI_eq (by omega) (by omega) (by omega) (by omega)]; omega), j_10, j_39, within_jI (by omega) (by omega) (by omega) (by omega) (by omega) (by omega), if_pos (by omega), b1_some, if_neg (by decide)]
        exact ref
    rw [cls', ref']
    by_cases t0 : t = 0
    · rw [if_pos t0, if_pos t0]; exact ⟨_, _, _, rfl, rfl, Bq_up h⟩
    · rw [if_neg t0, if_neg t0]
      by_cases c0 : a = 0
      · rw [if_pos c0, if_pos c0]; exact ⟨_, _, _, rfl, rfl, bd⟩
      · rw [if_neg c0, if_neg c0]; exact ⟨_, _, _, rfl, rfl, bd⟩
  · refine ⟨-102, M, o, ?_, ?_, Bq_up h⟩
    · unfold FX6_meetings
      by_cases c1 : a < 10
      · rw [if_pos (by rw [j_10, jI_lt (by omega) (by omega) (by omega) (by omega)]; omega), if_neg (by rw [j_0, jI_eq (by omega) (by omega) (by omega) (by omega)]; omega), if_pos rfl]
      · rw [if_neg (by rw [j_10, jI_lt (by omega) (by omega) (by omega) (by omega)]; omega), if_pos (by rw [j_39, jI_lt (by omega) (by omega) (by omega) (by omega)]; omega), if_neg (by rw [j_0, jI_eq (by omega) (by omega) (by omega) (by omega)]; omega), if_pos rfl]
    · unfold FX7_meetings
      rw [if_neg (by rw [j_0, jI_eq (by omega) (by omega) (by omega) (by omega)]; omega), j_10, j_39, within_jI (by omega) (by omega) (by omega) (by omega) (by omega) (by omega), if_neg (by omega), b1_some, if_pos rfl]
theorem Bq_seen {N N' : Nt} {t hi s s' l : Nat} {cs : Nat → Nat} (h : Bq n M o N N' t hi s s' l cs) {x o' : Ob} {v : Nat} (hx : SB x o' 7 8 9 10 v) (hA : ∀ k, k ≠ 8 → k ≠ 9 → k ≠ 10 → oA o' k = oA o k) (hV : ∀ k, k ≠ 7 → oV o' k = oV o k) : Bq n (sM M 6 x) o' N N' t hi v s' l cs := by
  obtain ⟨a1, a2, a3, a4, a5, a6, a7, a8, a9⟩ := h
  unfold Bq
  simp only [sM_at]
  rw [if_neg (by omega), if_neg (by omega), if_neg (by omega), if_pos trivial, if_neg (by omega), if_neg (by omega)]
  have nb : ∀ g b dr N, dr ≠ 8 → dr ≠ 9 → dr ≠ 10 → NB g o b dr N → NB g o' b dr N := fun g b dr N hd hd2 hd3 ⟨b1, b2, b3, b4, b5⟩ => ⟨b1, b2, Sl_o b3 (hA 0 (by omega) (by omega) (by omega)) (hA 1 (by omega) (by omega) (by omega)) (hA 2 (by omega) (by omega) (by omega)) (hA 3 (by omega) (by omega) (by omega)), by rw [hA dr hd hd2 hd3]; exact b4, by rw [hA dr hd hd2 hd3]; exact b5⟩
  obtain ⟨b1, b2, b3, b4, b5⟩ := a8
  exact ⟨nb _ _ _ _ (by omega) (by omega) (by omega) a1, by rw [hV 4 (by omega)]; exact a2, FB_v a3 (hV 5 (by omega)) (hV 42 (by omega)) (hV 43 (by omega)), a4, a5, fun z => nb _ _ _ _ (by omega) (by omega) (by omega) (a6 z), hx, ⟨b1, b2, by rw [hV 44 (by omega)]; exact b3, by rw [hA 46 (by omega) (by omega) (by omega), hA 47 (by omega) (by omega) (by omega), hA 48 (by omega) (by omega) (by omega)]; exact b4, b5⟩, PgB_v a9 (hV 11 (by omega)) (hA 12 (by omega) (by omega) (by omega))⟩
theorem ok_forget (hb : Bd n M o) : ∃ (r : Int32) (M' : Nat → Ob) (o' : Ob), FX6_forget M = some (r, M') ∧ FX7_forget o = some (r, o') ∧ Bd (n + 1) M' o' := by
  obtain ⟨N, N', t, hi, s, s', l, cs, h⟩ := hb
  obtain ⟨b1, b2, b3, b4, b5⟩ := h.2.2.2.2.2.2.1
  refine ⟨jI s, sM M 6 (sV (M 6) 3 0), sV o 7 0, ?_, ?_, Bq_up (Bq_seen h (v := 0) ⟨by omega, rfl, rfl, b4, fun i hi => by omega⟩ (fun k _ _ _ => rfl) (fun k hk => by rw [oV_sV, if_neg hk]))⟩
  · unfold FX6_forget FX4_clear
    rw [lT_eq, lT_eq, b2_some, lT_eq, b2]
  · unfold FX7_forget
    rw [lT_eq, lT_eq, b3]
theorem ok_see (hb : Bd n M o) (x1 x2 x3 : Int32) : ∃ (r : Int32) (M' : Nat → Ob) (o' : Ob), FX6_see x1 x2 x3 M = some (r, M') ∧ FX7_see x1 x2 x3 o = some (r, o') ∧ Bd (n + 1) M' o' := by
  obtain ⟨N, N', t, hi, s, s', l, cs, h⟩ := hb
  obtain ⟨a, rfl, a1, a2⟩ := int_jI x1
  obtain ⟨b, rfl, b1', b2'⟩ := int_jI x2
  obtain ⟨c, rfl, c1', c2'⟩ := int_jI x3
  have hs := sV_self h.2.1
  obtain ⟨q1, q2, q3, q4, q5⟩ := h.2.2.2.2.2.2.1
  have wb : FX7_within (jI b) (0 : Int32) (3 : Int32) = some (if 0 ≤ b ∧ b ≤ 3 then 1 else 0) := within_jI (lo := 0) (hi := 3) b1' b2' (by omega) (by omega) (by omega) (by omega)
  have wc : FX7_within (jI c) (-1 : Int32) (60 : Int32) = some (if -1 ≤ c ∧ c ≤ 60 then 1 else 0) := by
    have z := within_jI (lo := -1) (hi := 60) c1' c2' (by omega) (by omega) (by omega) (by omega)
    rw [← j_m1, ← j_60] at z
    exact z
  have notB : FX2_kindOf 60 (jI a) (M 3) = some (-1) ∨ FX2_kindOf 60 (jI a) (M 3) = some (jI 0) → FX7_isBracket (jI a) o = some 0 → ∃ (r : Int32) (M' : Nat → Ob) (o' : Ob), FX6_see (jI a) (jI b) (jI c) M = some (r, M') ∧ FX7_see (jI a) (jI b) (jI c) o = some (r, o') ∧ Bd (n + 1) M' o' := by
    intro e1 e2
    refine ⟨-101, M, o, ?_, ?_, Bq_up h⟩
    · unfold FX6_see
      rcases e1 with e1 | e1
      · rw [e1, b1_some, if_neg (by decide)]
      · rw [e1, b1_some, if_neg (by decide)]
    · unfold FX7_see
      rw [lT_eq, hs, e2, b1_some, if_pos rfl]
  rcases who h.1.2.1 (Bq_MS h) a1 a2 with ⟨m, k, rfl, hk, hm, k3, e1, e2, e3, e4⟩ | ⟨e1, e2, e4⟩
  · by_cases k0 : k = 0
    · subst k0
      exact notB (Or.inr e1) e4
    · rw [if_neg k0] at e4
      by_cases cb : 0 ≤ b ∧ b ≤ 3
      · by_cases cc : -1 ≤ c ∧ c ≤ 60
        · by_cases c6 : s = 6
          · refine ⟨-104, M, o, ?_, ?_, Bq_up h⟩
            · unfold FX6_see
              rw [e1, b1_some, if_pos (by rw [j_1, jI_le (by omega) (by omega) (by omega) (by omega)]; omega), if_neg (by rw [j_0, jI_lt (by omega) (by omega) (by omega) (by omega)]; omega), if_neg (by rw [j_4, jI_le (by omega) (by omega) (by omega) (by omega)]; omega), if_neg (by rw [j_m1, jI_lt (by omega) (by omega) (by omega) (by omega)]; omega), if_pos (by rw [j_60, jI_le (by omega) (by omega) (by omega) (by omega)]; omega)]
              unfold FX4_add
              rw [q2, if_neg (by rw [j_6, jI_lt (by omega) (by omega) (by omega) (by omega)]; omega), b2_some, lT_eq, if_pos rfl, sM_self]
            · unfold FX7_see
              rw [lT_eq, hs, e4, b1_some, if_neg (by decide), wb, b1_some, if_pos cb, if_neg (by decide), wc, b1_some, if_pos cc, if_neg (by decide), q3, if_pos (by rw [c6]; rfl)]
          · let x' := sV (sA (sA (sA (M 6) 0 s (jI m)) 1 s (jI b)) 2 s (jI c)) 3 (jI ((s + 1 : Nat)))
            let o' := sV (sA (sA (sA o 8 s (jI m)) 9 s (jI b)) 10 s (jI c)) 7 (jI ((s + 1 : Nat)))
            have hin : inb (jI (s : Int)) 6 := by rw [jI_inb (by omega) (by omega)]; omega
            refine ⟨jI ((s + 1 : Nat)), sM M 6 x', o', ?_, ?_, Bq_up (Bq_seen h (v := s + 1) ⟨by omega, rfl, rfl, fun i hi => ⟨?_, ?_, ?_⟩, fun i hi => ?_⟩ (fun k h8 h9 h10 => ?_) (fun k hk => ?_))⟩
            · unfold FX6_see
              rw [e1, b1_some, if_pos (by rw [j_1, jI_le (by omega) (by omega) (by omega) (by omega)]; omega), if_neg (by rw [j_0, jI_lt (by omega) (by omega) (by omega) (by omega)]; omega), if_neg (by rw [j_4, jI_le (by omega) (by omega) (by omega) (by omega)]; omega), if_neg (by rw [j_m1, jI_lt (by omega) (by omega) (by omega) (by omega)]; omega), if_pos (by rw [j_60, jI_le (by omega) (by omega) (by omega) (by omega)]; omega)]
              unfold FX4_add
              rw [q2, if_pos (by rw [j_6, jI_lt (by omega) (by omega) (by omega) (by omega)]; omega)]
              simp only [lT_eq, oV_sA, q2, jc s (by omega), jI_p1]
              rw [if_pos hin, if_pos hin, if_pos hin, b2_some, if_neg (by decide)]
              rfl
            · unfold FX7_see
              rw [lT_eq, hs, e4, b1_some, if_neg (by decide), wb, b1_some, if_pos cb, if_neg (by decide), wc, b1_some, if_pos cc, if_neg (by decide), q3, if_neg (by rw [j_6, jI_eq (by omega) (by omega) (by omega) (by omega)]; omega)]
              simp only [lT_eq, oV_sA, q3, jc s (by omega), jI_p1]
              rw [if_pos hin, if_pos hin, if_pos hin]
              rfl
            · show oA (sV (sA (sA (sA (M 6) 0 s _) 1 s _) 2 s _) 3 _) 0 i = oA (sV (sA (sA (sA o 8 s _) 9 s _) 10 s _) 7 _) 8 i
              rw [oA_sV, oA_sV, sA_ne _ _ _ (by omega), sA_ne _ _ _ (by omega), sA_rw, sA_ne _ _ _ (by omega), sA_ne _ _ _ (by omega), sA_rw, (q4 i hi).1]
            · show oA (sV (sA (sA (sA (M 6) 0 s _) 1 s _) 2 s _) 3 _) 1 i = oA (sV (sA (sA (sA o 8 s _) 9 s _) 10 s _) 7 _) 9 i
              rw [oA_sV, oA_sV, sA_ne _ _ _ (by omega), sA_rw, sA_ne _ _ _ (by omega), sA_ne _ _ _ (by omega), sA_rw, sA_ne _ _ _ (by omega), (q4 i hi).2.1]
            · show oA (sV (sA (sA (sA (M 6) 0 s _) 1 s _) 2 s _) 3 _) 2 i = oA (sV (sA (sA (sA o 8 s _) 9 s _) 10 s _) 7 _) 10 i
              rw [oA_sV, oA_sV, sA_rw, sA_ne _ _ _ (by omega), sA_ne _ _ _ (by omega), sA_rw, sA_ne _ _ _ (by omega), sA_ne _ _ _ (by omega), (q4 i hi).2.2]
            · show ∃ v : Nat, v < 4 ∧ oA (sV (sA (sA (sA (M 6) 0 s _) 1 s _) 2 s _) 3 _) 1 i = jI v
              rw [oA_sV, sA_ne _ _ _ (by omega), sA_rw, sA_ne _ _ _ (by omega)]
              by_cases ci : i = s
              · rw [if_pos ci]
                obtain ⟨v, rfl⟩ := Int.eq_ofNat_of_zero_le cb.1
                exact ⟨v, by omega, rfl⟩
              · rw [if_neg ci]; exact q5 i (by omega)
            · show oA (sV (sA (sA (sA o 8 s _) 9 s _) 10 s _) 7 _) k = _
              rw [oA_sV, sA_ne _ _ _ h10, sA_ne _ _ _ h9, sA_ne _ _ _ h8]
            · show oV (sV (sA (sA (sA o 8 s _) 9 s _) 10 s _) 7 _) k = _
              rw [oV_sV, if_neg hk]; rfl
        · refine ⟨-102, M, o, ?_, ?_, Bq_up h⟩
          · unfold FX6_see
            rw [e1, b1_some, if_pos (by rw [j_1, jI_le (by omega) (by omega) (by omega) (by omega)]; omega), if_neg (by rw [j_0, jI_lt (by omega) (by omega) (by omega) (by omega)]; omega), if_neg (by rw [j_4, jI_le (by omega) (by omega) (by omega) (by omega)]; omega)]
            by_cases d : c < -1
            · rw [if_pos (by rw [j_m1, jI_lt (by omega) (by omega) (by omega) (by omega)]; omega)]
            · rw [if_neg (by rw [j_m1, jI_lt (by omega) (by omega) (by omega) (by omega)]; omega), if_neg (by rw [j_60, jI_le (by omega) (by omega) (by omega) (by omega)]; omega)]
          · unfold FX7_see
            rw [lT_eq, hs, e4, b1_some, if_neg (by decide), wb, b1_some, if_pos cb, if_neg (by decide), wc, b1_some, if_neg cc, if_pos rfl]
      · refine ⟨-102, M, o, ?_, ?_, Bq_up h⟩
        · unfold FX6_see
          rw [e1, b1_some, if_pos (by rw [j_1, jI_le (by omega) (by omega) (by omega) (by omega)]; omega)]
          by_cases d : b < 0
          · rw [if_pos (by rw [j_0, jI_lt (by omega) (by omega) (by omega) (by omega)]; omega)]
          · rw [if_neg (by rw [j_0, jI_lt (by omega) (by omega) (by omega) (by omega)]; omega), if_pos (by rw [j_4, jI_le (by omega) (by omega) (by omega) (by omega)]; omega)]
        · unfold FX7_see
          rw [lT_eq, hs, e4, b1_some, if_neg (by decide), wb, b1_some, if_neg cb, if_pos rfl]
  · exact notB (Or.inl e1) e4
end C2
