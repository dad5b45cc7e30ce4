section C5
variable {n : Nat} {M : Nat → Ob} {o : Ob}
theorem listed_neg {N : Nat} {g : Ob} {a : Int} (h1 : -2147483648 ≤ a) (h2 : a < 0) : FX2_listedAt N (jI a) g = some (-1) := by
  unfold FX2_listedAt
  rw [if_pos (by rw [j_0, jI_lt (by omega) (by omega) (by omega) (by omega)]; omega)]
theorem mtn_red {N : Nt} (hG : Good N) {k j v : Nat} (hv : (mtg N.1 N.2.1 k 0)[j]? = some v) : ∃ y kx ky, Redex N v y kx ky := by
  obtain ⟨y, kx, ky, hr, -⟩ := (mtn_Pend (n := k) hG).1 v (List.mem_of_getElem? hv)
  exact ⟨y, kx, ky, hr⟩
theorem ok_meet (hn : n < 64) (hb : Bd n M o) (x1 : Int32) : ∃ (r : Int32) (M' : Nat → Ob) (o' : Ob), FX6_meet x1 M = some (r, M') ∧ FX7_meet x1 o = some (r, o') ∧ Bd (n + 1) M' o' := by
  obtain ⟨N, N', t, hi, s, s', l, cs, h⟩ := hb
  obtain ⟨a, rfl, a1, a2⟩ := int_jI x1
  have hs := sV_self h.2.1
  obtain ⟨n0, n1, n2⟩ := isNet_t h.2.2.1 h.2.2.2.1 (by omega)
  have hbd := RGr_bd h.1.2.1
  obtain ⟨g1, l1, l2, l3⟩ := s_list (N := 60) (by omega) h.1.1.1 h.1.2.1
  have hlen := mtg_len N.1 N.2.1 60 0
  have m1 := MS_meetingsNow (b := 0) (by omega) (Bq_MS h) h.1.1.1
  rw [mtg_60 hbd] at m1
  have h1 := Bq_Cls h (Cls_3 M l2)
  have lat : ∃ v, FX2_listedAt 60 (jI a) g1 = some v := by
    by_cases c : a < 0
    · exact ⟨_, listed_neg a1 c⟩
    · obtain ⟨j, rfl⟩ := Int.eq_ofNat_of_zero_le (show 0 ≤ a by omega)
      exact ⟨_, s_listedAt (by omega) l3 hlen j (by omega)⟩
  by_cases ca : 0 ≤ a ∧ a < (mtg N.1 N.2.1 60 0).length
  · obtain ⟨j, rfl⟩ := Int.eq_ofNat_of_zero_le ca.1
    have hget : (mtg N.1 N.2.1 60 0)[j]? = some ((mtg N.1 N.2.1 60 0)[j]'(by omega)) := List.getElem?_eq_getElem (by omega)
    generalize (mtg N.1 N.2.1 60 0)[j]'(by omega) = v at hget
    obtain ⟨y, kx, ky, hr⟩ := mtn_red h.1.1 hget
    have hv : v < 60 := by have := mtg_mem 60 0 v (List.mem_of_getElem? hget); omega
    have ht : t ≠ 0 := fun z => by have := hr.1; rw [(h.2.2.2.2.1 z).1 v] at this; cases this
    have lv := s_listedAt (N := 60) (by omega) l3 hlen j (by omega)
    rw [hget] at lv
    simp only at lv
    have m2 := MS_meetingAt (b := 0) (by omega) (Bq_MS h) h.1.1.1 j (by omega)
    rw [mtg_60 hbd, hget] at m2
    simp only at m2
    have rm := room h1.1 h1.2.1 hr (sM M 3 g1) rfl
    have cls0 : FX6_meet (jI (j : Int)) M = b1 (FX6_hasRoomFor (jI v) (sM M 3 g1)) (fun r_8 => if r_8 = 0 then some ((-104 : Int32), sM M 3 g1) else b2 (FX2_perform 60 (jI v) g1) fun r_10 s_11 => lT (sM (sM M 3 g1) 3 s_11) fun M_13 => some (r_10, M_13)) := by
      unfold FX6_meet
      rw [l1, b2_some, lT_eq, show (sM M 3 g1) 3 = g1 from rfl, lv, b1_some, if_neg (by rw [j_m1, jI_eq (by omega) (by omega) (by omega) (by omega)]; omega)]
    have ref0 : FX7_meet (jI (j : Int)) o = b1 (FX7_isFull (jI v) o) (fun r_11 => if r_11 = 0 then b2 (FX7_meetNow (jI v) o) fun r_13 o0_14 => if inb r_13 4 then lT (sA o0_14 6 r_13.toNatClampNeg ((oA o0_14 6 r_13.toNatClampNeg) + (1 : Int32))) fun o0_18 => some (r_13, o0_18) else none else some ((-104 : Int32), o)) := by
      unfold FX7_meet
      rw [lT_eq, hs, n1 ht, b1_some, if_neg (by decide), m1, b1_some, j_1, jI_sub, j_0, within_jI (by omega) (by omega) (by omega) (by omega) (by omega) (by omega), if_pos (by omega), b1_some, if_neg (by decide), m2, b1_some]
    by_cases cf : Full N kx ky
    · obtain ⟨r1, r2⟩ := rm.1 cf
      rw [r1, b1_some, if_pos rfl] at cls0
      rw [r2, b1_some, if_neg (by decide)] at ref0
      exact ⟨_, _, _, cls0, ref0, Bq_up h1⟩
    · obtain ⟨r1, r2⟩ := rm.2 cf
      obtain ⟨g', o1, N1, p1, p2, p3, p4⟩ := one_meet h1.1 h1.2.1 hr cf
      have hso := sortS_in kx ky
      rw [r1, b1_some, if_neg (by decide), show g1 = (sM M 3 g1) 3 from rfl, p1, b2_some, lT_eq] at cls0
      rw [r2, b1_some, if_pos rfl, p2, b2_some, if_pos (by rw [jI_inb (by omega) (by omega)]; omega), lT_eq, jc _ (by omega)] at ref0
      exact ⟨_, _, _, cls0, ref0, Bq_up (Bq_now h1 p3 p4 ht)⟩
  · refine ⟨-101, sM M 3 g1, o, ?_, ?_, Bq_up h1⟩
    · unfold FX6_meet
      rw [l1, b2_some, lT_eq, show (sM M 3 g1) 3 = g1 from rfl]
      have : FX2_listedAt 60 (jI a) g1 = some (-1) := by
        by_cases c : a < 0
        · exact listed_neg a1 c
        · obtain ⟨j, rfl⟩ := Int.eq_ofNat_of_zero_le (show 0 ≤ a by omega)
          rw [s_listedAt (by omega) l3 hlen j (by omega), List.getElem?_eq_none (by omega)]
          rfl
      rw [this, b1_some, if_pos rfl]
    · unfold FX7_meet
      rw [lT_eq, hs]
      by_cases t0 : t = 0
      · rw [n0 t0, b1_some, if_pos rfl]
      · rw [n1 t0, b1_some, if_neg (by decide), m1, b1_some, j_1, jI_sub, j_0, within_jI (by omega) (by omega) (by omega) (by omega) (by omega) (by omega), if_neg (by omega), b1_some, if_pos (by rfl)]
theorem run_loop {N' : Nt} {t hi s s' l : Nat} {cs : Nat → Nat} {c : Nat} (hc : c ≤ 60) (ht : t ≠ 0) : ∀ (e i F F' : Nat) (M : Nat → Ob) (o : Ob) (N : Nt), i + e = c → e < F → e < F' → Bq n M o N N' t hi s s' l cs → ∃ (r : Int32) (M' : Nat → Ob) (o' : Ob), LX6_run_26 (jI c) F (jI i) M = some (r, M') ∧ LX7_run_30 (jI c) F' (jI i) o = some (r, o') ∧ Bd (n + 1) M' o' := by
  intro e
  induction e with
  | zero =>
    intro i F F' M o N hi' hF hF' h
    obtain ⟨F, rfl⟩ : ∃ f', F = f' + 1 := ⟨F - 1, by omega⟩
    obtain ⟨F', rfl⟩ : ∃ f', F' = f' + 1 := ⟨F' - 1, by omega⟩
    have e1 : i = c := by omega
    subst e1
    exact ⟨jI i, M, o, by rw [LX6_run_26.eq_2, if_pos (by rw [jI_le (by omega) (by omega) (by omega) (by omega)]; omega)], by rw [LX7_run_30.eq_2, if_pos (by rw [jI_le (by omega) (by omega) (by omega) (by omega)]; omega)], Bq_up h⟩
  | succ e ih =>
    intro i F F' M o N hi' hF hF' h
    obtain ⟨F, rfl⟩ : ∃ f', F = f' + 1 := ⟨F - 1, by omega⟩
    obtain ⟨F', rfl⟩ : ∃ f', F' = f' + 1 := ⟨F' - 1, by omega⟩
    have hbd := RGr_bd h.1.2.1
    obtain ⟨g1, l1, l2, l3⟩ := s_list (N := 60) (by omega) h.1.1.1 h.1.2.1
    have hlen := mtg_len N.1 N.2.1 60 0
    have m1 := MS_meetingsNow (b := 0) (by omega) (Bq_MS h) h.1.1.1
    rw [mtg_60 hbd] at m1
    have h1 := Bq_Cls h (Cls_3 M l2)
    have lv := s_listedAt (N := 60) (by omega) l3 hlen 0 (by omega)
    have m2 := MS_meetingAt (b := 0) (by omega) (Bq_MS h) h.1.1.1 0 (by omega)
    rw [mtg_60 hbd] at m2
    have z0 : jI ((0 : Nat) : Int) = (0 : Int32) := rfl
    rw [z0] at lv m2
    have i1 : (jI (i : Int) + 1) = jI ((i + 1 : Nat)) := jI_p1 i
    by_cases c0 : mtg N.1 N.2.1 60 0 = []
    · refine ⟨jI i, sM M 3 g1, o, ?_, ?_, Bq_up h1⟩
      · rw [LX6_run_26.eq_2, if_neg (by rw [jI_le (by omega) (by omega) (by omega) (by omega)]; omega), l1, b2_some, lT_eq, show (sM M 3 g1) 3 = g1 from rfl, lv, b1_some, c0, if_pos (by rfl)]
      · rw [LX7_run_30.eq_2, if_neg (by rw [jI_le (by omega) (by omega) (by omega) (by omega)]; omega), m1, b1_some, c0, if_pos (by decide)]
    · obtain ⟨v, hv, hvm⟩ := head_get c0
      have hpos : 0 < (mtg N.1 N.2.1 60 0).length := List.length_pos_iff.mpr c0
      rw [hv] at lv m2
      simp only at lv m2
      obtain ⟨y, kx, ky, hr⟩ := mtn_red h.1.1 hv
      have hv60 : v < 60 := by have := mtg_mem 60 0 v hvm; omega
      have rm := room h1.1 h1.2.1 hr (sM M 3 g1) rfl
      have cls0 : LX6_run_26 (jI c) (F + 1) (jI i) M = b1 (FX6_hasRoomFor (jI v) (sM M 3 g1)) (fun r_8 => if r_8 = 0 then some (jI (i : Int), sM M 3 g1) else b2 (FX2_perform 60 (jI v) ((sM M 3 g1) 3)) fun r_10 s_11 => lT (sM (sM M 3 g1) 3 s_11) fun M_13 => lT (jI (i : Int) + (1 : Int32)) fun x2_15 => LX6_run_26 (jI c) F x2_15 M_13) := by
        rw [LX6_run_26.eq_2, if_neg (by rw [jI_le (by omega) (by omega) (by omega) (by omega)]; omega), l1, b2_some, lT_eq, show (sM M 3 g1) 3 = g1 from rfl, lv, b1_some, if_neg (by rw [j_m1, jI_eq (by omega) (by omega) (by omega) (by omega)]; omega)]
      have ref0 : LX7_run_30 (jI c) (F' + 1) (jI i) o = b1 (FX7_isFull (jI v) o) (fun r_11 => if r_11 = 0 then b2 (FX7_meetNow (jI v) o) fun r_15 o0_16 => if inb r_15 4 then lT (sA o0_16 6 r_15.toNatClampNeg ((oA o0_16 6 r_15.toNatClampNeg) + (1 : Int32))) fun o0_20 => lT (jI (i : Int) + (1 : Int32)) fun x2_21 => LX7_run_30 (jI c) F' x2_21 o0_20 else none else some (jI (i : Int), o)) := by
        rw [LX7_run_30.eq_2, if_neg (by rw [jI_le (by omega) (by omega) (by omega) (by omega)]; omega), m1, b1_some, if_neg (by rw [j_0, jI_le (by omega) (by omega) (by omega) (by omega)]; omega), m2, b1_some]
        rfl
      by_cases cf : Full N kx ky
      · obtain ⟨r1, r2⟩ := rm.1 cf
        rw [r1, b1_some, if_pos rfl] at cls0
        rw [r2, b1_some, if_neg (by decide)] at ref0
        exact ⟨_, _, _, cls0, ref0, Bq_up h1⟩
      · obtain ⟨r1, r2⟩ := rm.2 cf
        obtain ⟨g', o1, N1, p1, p2, p3, p4⟩ := one_meet h1.1 h1.2.1 hr cf
        have hso := sortS_in kx ky
        rw [r1, b1_some, if_neg (by decide), p1, b2_some, lT_eq, lT_eq, i1] at cls0
        rw [r2, b1_some, if_pos rfl, p2, b2_some, if_pos (by rw [jI_inb (by omega) (by omega)]; omega), lT_eq, lT_eq, jc _ (by omega), i1] at ref0
        obtain ⟨r, M', o', t1, t2, t3⟩ := ih (i + 1) F F' _ _ N1 (by omega) (by omega) (by omega) (Bq_now h1 p3 p4 ht)
        exact ⟨r, M', o', cls0.trans t1, ref0.trans t2, t3⟩
theorem ok_run (hn : n < 64) (hb : Bd n M o) (x1 : Int32) : ∃ (r : Int32) (M' : Nat → Ob) (o' : Ob), FX6_run x1 M = some (r, M') ∧ FX7_run x1 o = some (r, o') ∧ Bd (n + 1) M' o' := by
  obtain ⟨N, N', t, hi, s, s', l, cs, h⟩ := hb
  obtain ⟨a, rfl, a1, a2⟩ := int_jI x1
  have hs := sV_self h.2.1
  obtain ⟨n0, n1, n2⟩ := isNet_t h.2.2.1 h.2.2.2.1 (by omega)
  by_cases c : 1 ≤ a ∧ a ≤ 60
  · obtain ⟨v, rfl⟩ := Int.eq_ofNat_of_zero_le (show 0 ≤ a by omega)
    by_cases t0 : t = 0
    · refine ⟨-103, M, o, ?_, ?_, Bq_up h⟩
      · unfold FX6_run
        rw [if_neg (by rw [j_1, jI_lt (by omega) (by omega) (by omega) (by omega)]; omega), if_pos (by rw [j_60, jI_le (by omega) (by omega) (by omega) (by omega)]; omega), if_pos (n2.mpr t0)]
      · unfold FX7_run
        rw [j_1, j_60, within_jI (by omega) (by omega) (by omega) (by omega) (by omega) (by omega), if_pos (by omega), b1_some, if_neg (by decide), n0 t0, b1_some, if_pos (by rfl)]
    · obtain ⟨r, M', o', e1, e2, e3⟩ := run_loop (c := v) (by omega) t0 v 0 fu fu M o N (by omega) (by rw [fu_eq]; omega) (by rw [fu_eq]; omega) h
      refine ⟨r, M', o', ?_, ?_, e3⟩
      · unfold FX6_run
        rw [if_neg (by rw [j_1, jI_lt (by omega) (by omega) (by omega) (by omega)]; omega), if_pos (by rw [j_60, jI_le (by omega) (by omega) (by omega) (by omega)]; omega), if_neg (fun z => t0 (n2.mp z))]
        exact e1
      · unfold FX7_run
        rw [j_1, j_60, within_jI (by omega) (by omega) (by omega) (by omega) (by omega) (by omega), if_pos (by omega), b1_some, if_neg (by decide), n1 t0, b1_some, if_neg (by decide), lT_eq, hs]
        exact e2
  · refine ⟨-102, M, o, ?_, ?_, Bq_up h⟩
    · unfold FX6_run
      by_cases c1 : a < 1
      · rw [if_pos (by rw [j_1, jI_lt (by omega) (by omega) (by omega) (by omega)]; omega)]
      · rw [if_neg (by rw [j_1, jI_lt (by omega) (by omega) (by omega) (by omega)]; omega), if_neg (by rw [j_60, jI_le (by omega) (by omega) (by omega) (by omega)]; omega)]
    · unfold FX7_run
      rw [j_1, j_60, within_jI (by omega) (by omega) (by omega) (by omega) (by omega) (by omega), if_neg (by omega), b1_some, if_pos (by rfl)]
end C5
