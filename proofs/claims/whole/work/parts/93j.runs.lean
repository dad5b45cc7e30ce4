/-! runs by draws -/
theorem mask_lem (a : Int64) : ∃ m : Nat, m < 2147483648 ∧ (a &&& (2147483647 : Int64)).toInt32 = jI m ∧ (a &&& (2147483647 : Int64)) = (jI m).toInt64 := by
  have hb : (a &&& (2147483647 : Int64)).toBitVec.toNat ≤ 2147483647 := by
    have h1 : (a &&& (2147483647 : Int64)).toBitVec = a.toBitVec &&& (2147483647 : Int64).toBitVec := rfl
    rw [h1, BitVec.toNat_and]
    exact Nat.and_le_right
  have hi : (a &&& (2147483647 : Int64)).toInt = ((a &&& (2147483647 : Int64)).toBitVec.toNat : Int) := BitVec.toInt_eq_toNat_of_lt (by omega)
  generalize (a &&& (2147483647 : Int64)) = z at hb hi ⊢
  refine ⟨z.toBitVec.toNat, by omega, ?_, ?_⟩
  · rw [← Int32.toInt_inj, Int64.toInt_toInt32, jI_toInt (by omega) (by omega), hi]
    exact Int.bmod_eq_of_le (by omega) (by omega)
  · rw [← Int64.toInt_inj, Int32.toInt_toInt64, jI_toInt (by omega) (by omega), hi]
theorem b64 {a : Int} (h1 : 0 ≤ a) (h2 : a < 4611686018427387904) : a.bmod (2 ^ 64) = a := Int.bmod_eq_of_le (by omega) (by omega)
theorem draw_cls {m c : Nat} (hm : m < 2147483648) (hc : 0 < c) (hc2 : c < 1000) : (jI (m : Int) / (65536 : Int32)) - (jI (m : Int) / (65536 : Int32)) / jI c * jI c = jI ((m / 65536 % c : Nat)) := by
  have h1 : jI (m : Int) / (65536 : Int32) = jI ((m / 65536 : Nat)) := pk_div (a := m) (d := 65536) (by omega) (by omega) (by omega)
  rw [h1]
  exact pk_rem (a := m / 65536) (d := c) (by omega) hc (by omega)
theorem draw_ref {m c : Nat} (hm : m < 2147483648) (hc : 0 < c) (hc2 : c < 1000) : (((jI (m : Int)).toInt64 / (65536 : Int64)) - ((jI (m : Int)).toInt64 / (65536 : Int64)) / (jI (c : Int)).toInt64 * (jI (c : Int)).toInt64).toInt32 = jI ((m / 65536 % c : Nat)) := by
  have hL : (jI (m : Int)).toInt64.toInt = m := by rw [Int32.toInt_toInt64, jI_toInt (by omega) (by omega)]
  have hC : (jI (c : Int)).toInt64.toInt = c := by rw [Int32.toInt_toInt64, jI_toInt (by omega) (by omega)]
  have h6 : (65536 : Int64).toInt = 65536 := rfl
  have hQ : ((jI (m : Int)).toInt64 / (65536 : Int64)).toInt = ((m / 65536 : Nat) : Int) := by
    rw [Int64.toInt_div, hL, h6]
    have e : (m : Int).tdiv 65536 = ((m / 65536 : Nat) : Int) := rfl
    rw [e]
    exact b64 (by omega) (by omega)
  generalize (jI (m : Int)).toInt64 / (65536 : Int64) = Q at hQ
  generalize (jI (c : Int)).toInt64 = C at hC
  have hD : (Q / C).toInt = ((m / 65536 / c : Nat) : Int) := by
    rw [Int64.toInt_div, hQ, hC]
    have e : ((m / 65536 : Nat) : Int).tdiv (c : Int) = ((m / 65536 / c : Nat) : Int) := rfl
    have hz := Nat.div_le_self (m / 65536) c
    rw [e]
    generalize m / 65536 / c = z at hz ⊢
    exact b64 (by omega) (by omega)
  have hle := Nat.div_mul_le_self (m / 65536) c
  have hP : (Q / C * C).toInt = ((m / 65536 / c * c : Nat) : Int) := by
    rw [Int64.toInt_mul, hD, hC, ← Int.natCast_mul]
    generalize m / 65536 / c * c = z at hle ⊢
    exact b64 (by omega) (by omega)
  have hmod : m / 65536 - m / 65536 / c * c = m / 65536 % c := by
    have := Nat.div_add_mod' (m / 65536) c
    omega
  rw [← Int32.toInt_inj, Int64.toInt_toInt32, Int64.toInt_sub, hQ, hP, ← Int.ofNat_sub hle, hmod]
  have hlt := Nat.mod_lt (m / 65536) hc
  rw [b64 (by omega) (by omega), jI_toInt (by omega) (by omega)]
  exact Int.bmod_eq_of_le (by omega) (by omega)
theorem c64 {c : Nat} (hc : 0 < c) (hc2 : c < 1000) : ¬ (jI (c : Int)).toInt64 = 0 := fun z => by
  have := congrArg Int64.toInt z
  rw [Int32.toInt_toInt64, jI_toInt (by omega) (by omega)] at this
  have h0 : (0 : Int64).toInt = 0 := rfl
  rw [h0] at this
  omega
theorem oA_sL (o : Ob) (k : Nat) (v : Int64) (j : Nat) : oA (sL o k v) j = oA o j := rfl
theorem oV_sL (o : Ob) (k : Nat) (v : Int64) (j : Nat) : oV (sL o k v) j = oV o j := rfl
theorem oL_sL (o : Ob) (k : Nat) (v : Int64) : oL (sL o k v) k = v := by
  show vp_updL o.2.2 k v k = v
  unfold vp_updL
  simp
theorem oL_ne (o : Ob) {k j : Nat} (v : Int64) (h : j ≠ k) : oL (sL o k v) j = oL o j := by
  show vp_updL o.2.2 k v j = o.2.2 j
  unfold vp_updL
  simp [h]
theorem Wk_sL (o : Ob) (v : Int64) : Wk o (sL o 41 v) := ⟨fun _ _ => rfl, fun _ _ => rfl, fun _ _ => rfl, fun _ _ => rfl, fun _ _ => rfl, fun _ _ => rfl, oL_ne o v (by omega)⟩
section C9
variable {n : Nat} {M : Nat → Ob} {o : Ob}
theorem runs_loop {c : Nat} (hc : c ≤ 60) (x3 : Int32) (E : Int32 → Int32 → Int32 → (Nat → Ob) → Option (Int32 × (Nat → Ob))) (E' : Int32 → Int32 → Ob → Option (Int32 × Ob)) : ∀ (e i F F' : Nat) (M : Nat → Ob) (o : Ob) (N : Nt) (sd mx : Nat), i + e = c → e < F → e < F' → Good N → RGr 180 (M 5) N.1 N.2.1 N.2.2 → MS 2 o N.1 N.2.1 N.2.2 → oL o 41 = (jI sd).toInt64 → sd < 2147483648 → mx < 1000 → cnt N.1 180 + 2 * e ≤ 180 → ∃ (dn mx' sd' : Nat) (M' : Nat → Ob) (o' : Ob), LX6_runs_63 (jI c) x3 E E F (jI sd) (jI mx) (jI i) M = E (jI sd') (jI mx') (jI dn) M' ∧ LX7_runsNow_32 (jI c) x3 E' F' (jI i) (jI mx) (jI (mtg N.1 N.2.1 180 0).length) o = E' (jI dn) (jI mx') o' ∧ oL o' 41 = (jI sd').toInt64 ∧ (∀ k, k ≠ 5 → M' k = M k) ∧ Wk o o' := by
  intro e
  induction e with
  | zero =>
    intro i F F' M o N sd mx hi hF hF' hG hR hM hL hsd hmx hcn
    obtain ⟨F, rfl⟩ : ∃ f', F = f' + 1 := ⟨F - 1, by omega⟩
    obtain ⟨F', rfl⟩ : ∃ f', F' = f' + 1 := ⟨F' - 1, by omega⟩
    exact ⟨i, mx, sd, M, o, by rw [LX6_runs_63.eq_2, if_pos (by rw [jI_le (by omega) (by omega) (by omega) (by omega)]; omega)], by rw [LX7_runsNow_32.eq_2, if_pos (by rw [jI_le (by omega) (by omega) (by omega) (by omega)]; omega)], hL, fun _ _ => rfl, Wk_rf o⟩
  | succ e ih =>
    intro i F F' M o N sd mx hi hF hF' hG hR hM hL hsd hmx hcn
    obtain ⟨F, rfl⟩ : ∃ f', F = f' + 1 := ⟨F - 1, by omega⟩
    obtain ⟨F', rfl⟩ : ∃ f', F' = f' + 1 := ⟨F' - 1, by omega⟩
    obtain ⟨g1, l1, l2, l3⟩ := s_list (N := 180) (by omega) hG.1 hR
    have hlen := mtg_len N.1 N.2.1 180 0
    by_cases c0 : mtg N.1 N.2.1 180 0 = []
    · refine ⟨i, mx, sd, sM M 5 g1, o, ?_, ?_, hL, fun k hk => by rw [sM_at, if_neg hk], Wk_rf o⟩
      · rw [LX6_runs_63.eq_2, if_neg (by rw [jI_le (by omega) (by omega) (by omega) (by omega)]; omega), l1, b2_some, lT_eq, c0, if_neg (by decide)]
      · rw [LX7_runsNow_32.eq_2, if_neg (by rw [jI_le (by omega) (by omega) (by omega) (by omega)]; omega), c0, if_pos (by decide)]
    · have hpos : 0 < (mtg N.1 N.2.1 180 0).length := List.length_pos_iff.mpr c0
      obtain ⟨m, m1, m2, m3⟩ := mask_lem (((1103515245 : Int64) * (jI (sd : Int)).toInt64) + (12345 : Int64))
      have hidx : m / 65536 % (mtg N.1 N.2.1 180 0).length < (mtg N.1 N.2.1 180 0).length := Nat.mod_lt _ hpos
      have hget : (mtg N.1 N.2.1 180 0)[m / 65536 % (mtg N.1 N.2.1 180 0).length]? = some ((mtg N.1 N.2.1 180 0)[m / 65536 % (mtg N.1 N.2.1 180 0).length]'hidx) := List.getElem?_eq_getElem hidx
      generalize (mtg N.1 N.2.1 180 0)[m / 65536 % (mtg N.1 N.2.1 180 0).length]'hidx = v at hget
      obtain ⟨y, kx, ky, hr⟩ := mtn_red hG hget
      have hR1 := RGr_Fl hR l2
      obtain ⟨g2, K', w', r', e1, hP, rg, hD⟩ := s_perform (N := 180) (by omega) hR1 hG.1 hr.1 hr.2.1 hr.2.2 (fun _ => by omega)
      let o1 := sL o 41 (jI (m : Int)).toInt64
      have hM1 : MS 2 o1 N.1 N.2.1 N.2.2 := hM
      obtain ⟨o2, e2, hM2, f2⟩ := MS_meetNow (b := 2) (by omega) hM1 hG.1 hr.1 hr.2.1 hr.2.2 hP (fun _ => by omega)
      have hP' : Perf N.1 N.2.1 N.2.2 v y kx ky ((K', w', r') : Nt).1 ((K', w', r') : Nt).2.1 ((K', w', r') : Nt).2.2 := hP
      have hG2 := Perf_Good hG hr hP'
      have hcnt := Perf_cnt hG.1 hr.1 hr.2.1 hr.2.2 hP (RGr_bd hR1) (RGr_bd rg)
      have hle : cnt K' 180 ≤ cnt N.1 180 + 2 := by
        by_cases c : sortS kx ky = 2
        · rw [if_pos c] at hcnt; omega
        · rw [if_neg c] at hcnt; omega
      have nd1 := RGr_6 rg
      have nd2 := MS_nodes (b := 2) (by omega) hM2
      have mn := MS_meetingsNow (b := 2) (by omega) hM2 hG2.1
      have cle := cnt_le K' 180
      have lv := s_listedAt (N := 180) (by omega) l3 hlen (m / 65536 % (mtg N.1 N.2.1 180 0).length) (by omega)
      rw [hget] at lv
      simp only at lv
      have ma := MS_meetingAt (b := 2) (by omega) hM1 hG.1 (m / 65536 % (mtg N.1 N.2.1 180 0).length) (by omega)
      rw [hget] at ma
      simp only at ma
      obtain ⟨dn, mx', sd', M', o', t1, t2, t3, t4, t5⟩ := ih (i + 1) F F' (sM (sM M 5 g1) 5 g2) o2 (K', w', r') m (if mx < cnt K' 180 then cnt K' 180 else mx) (by omega) (by omega) (by omega) hG2 rg hM2 (by rw [f2.2.2.2.2.2.2 41]; exact oL_sL o 41 _) m1 (by split <;> omega) (by show cnt K' 180 + 2 * e ≤ 180; omega)
      refine ⟨dn, mx', sd', M', o', ?_, ?_, t3, fun k hk => by rw [t4 k hk, sM_at, if_neg hk, sM_at, if_neg hk], Wk_tr (Wk_sL o _) (Wk_tr (Wk_Fm (by omega) f2) t5)⟩
      · rw [LX6_runs_63.eq_2, if_neg (by rw [jI_le (by omega) (by omega) (by omega) (by omega)]; omega), l1, b2_some, lT_eq, if_pos (by rw [j_0, jI_lt (by omega) (by omega) (by omega) (by omega)]; omega)]
        unfold FX6_nextSeed
        rw [b1_some, if_pos (by rw [j_0, jI_eq (by omega) (by omega) (by omega) (by omega)]; omega), m2, draw_cls m1 hpos (by omega), show (sM M 5 g1) 5 = g1 from rfl, lv, b1_some, e1, b2_some, lT_eq, show (sM (sM M 5 g1) 5 g2) 5 = g2 from rfl, nd1, b1_some, lT_eq, lT_eq, jI_p1]
        have emx : (if jI (mx : Int) < jI (cnt K' 180 : Int) then jI (cnt K' 180 : Int) else jI (mx : Int)) = jI ((if mx < cnt K' 180 then cnt K' 180 else mx : Nat)) := by
          by_cases c : mx < cnt K' 180
          · rw [if_pos (by rw [jI_lt (by omega) (by omega) (by omega) (by omega)]; omega), if_pos c]
          · rw [if_neg (by rw [jI_lt (by omega) (by omega) (by omega) (by omega)]; omega), if_neg c]
        rw [emx]
        exact t1
      · rw [LX7_runsNow_32.eq_2, if_neg (by rw [jI_le (by omega) (by omega) (by omega) (by omega)]; omega), if_neg (by rw [j_0, jI_le (by omega) (by omega) (by omega) (by omega)]; omega)]
        unfold FX7_draw
        rw [hL, lT_eq, m3, if_pos (c64 hpos (by omega)), b2_some, oL_sL, draw_ref m1 hpos (by omega)]
        show b1 (FX7_meetingAt _ o1) _ = _
        rw [ma, b1_some, e2, b2_some, lT_eq, nd2, b1_some, jI_p1]
        by_cases c : mx < cnt K' 180
        · rw [if_neg (by rw [jI_le (by omega) (by omega) (by omega) (by omega)]; omega), b1_some, mn, b1_some]
          rw [if_pos c] at t2
          exact t2
        · rw [if_pos (by rw [jI_le (by omega) (by omega) (by omega) (by omega)]; omega), mn, b1_some]
          rw [if_neg c] at t2
          exact t2
theorem ok_runs (hn : n < 64) (hb : Bd n M o) (x1 x2 x3 : Int32) : ∃ (r : Int32) (M' : Nat → Ob) (o' : Ob), FX6_runs x1 x2 x3 M = some (r, M') ∧ FX7_runs x1 x2 x3 o = some (r, o') ∧ Bd (n + 1) M' o' := by
  obtain ⟨N, N', t, hi, s, s', l, cs, h⟩ := hb
  obtain ⟨a, rfl, a1, a2⟩ := int_jI x1
  obtain ⟨b, rfl, b1', b2'⟩ := int_jI x2
  obtain ⟨d, rfl, d1', d2'⟩ := int_jI x3
  obtain ⟨n0, n1, n2⟩ := isNet_t h.2.2.1 h.2.2.2.1 (by omega)
  have wa : FX7_within (jI a) (1 : Int32) (60 : Int32) = some (if 1 ≤ a ∧ a ≤ 60 then 1 else 0) := within_jI (lo := 1) (hi := 60) a1 a2 (by omega) (by omega) (by omega) (by omega)
  have wd : FX7_within (jI d) (0 : Int32) (2 : Int32) = some (if 0 ≤ d ∧ d ≤ 2 then 1 else 0) := within_jI (lo := 0) (hi := 2) d1' d2' (by omega) (by omega) (by omega) (by omega)
  by_cases ca : 1 ≤ a ∧ a ≤ 60
  · rw [if_pos ca] at wa
    by_cases cb : 0 ≤ b
    · by_cases cd : 0 ≤ d ∧ d ≤ 2
      · rw [if_pos cd] at wd
        by_cases t0 : t = 0
        · refine ⟨-103, M, o, ?_, ?_, Bq_up h⟩
          · unfold FX6_runs
            rw [if_neg (by rw [j_1, jI_lt (by omega) (by omega) (by omega) (by omega)]; omega), if_neg (by rw [j_60, jI_lt (by omega) (by omega) (by omega) (by omega)]; omega), if_neg (by rw [j_0, jI_lt (by omega) (by omega) (by omega) (by omega)]; omega), if_neg (by rw [j_0, jI_lt (by omega) (by omega) (by omega) (by omega)]; omega), if_pos (by rw [j_2, jI_le (by omega) (by omega) (by omega) (by omega)]; omega), if_pos (n2.mpr t0)]
          · unfold FX7_runs
            rw [wa, b1_some, if_neg (by decide), if_neg (by rw [j_0, jI_lt (by omega) (by omega) (by omega) (by omega)]; omega), wd, b1_some, if_neg (by decide), n0 t0, b1_some, if_pos rfl]
        · obtain ⟨c, rfl⟩ := Int.eq_ofNat_of_zero_le (show 0 ≤ a by omega)
          obtain ⟨sd, rfl⟩ := Int.eq_ofNat_of_zero_le cb
          obtain ⟨bd1, bd2⟩ := NB_bd h.1
          have hbd := RGr_bd h.1.2.1
          obtain ⟨g1, e1, r1, -⟩ := s_copyFrom (N := 180) (N' := 60) (by omega) (by omega) h.1.1.1 h.1.2.1 (g0 := M 5) (fun j hj => hbd j (by omega))
          obtain ⟨oa, q1, q2, q3, q4⟩ := Sl_copy (t := 2) (f := 0) (by omega) (by omega) (by omega) h.1.2.2.1
          let ob := sL (sV oa 4 2) 41 (jI (sd : Int)).toInt64
          have mb : MS 2 ob N.1 N.2.1 N.2.2 := ⟨rfl, q2⟩
          obtain ⟨dn, mx', sd', M', o', t1, t2, t3, t4, t5⟩ := runs_loop (c := c) (by omega) (jI d) (fun x4_30 x5_31 x6_32 M_33 => if jI d = 0 then some (x6_32, M_33) else if jI d = (1 : Int32) then some (x5_31, M_33) else some (x4_30, M_33)) (fun x4_32 x5_33 o0_34 => BX7_runsNow_90 (jI d) x4_32 x5_33 o0_34) c 0 fu fu (sM M 5 g1) ob N sd (cnt N.1 180) (by omega) (by rw [fu_eq]; omega) (by rw [fu_eq]; omega) h.1.1 r1 mb (oL_sL _ 41 _) (by omega) (by omega) (by omega)
          have w1 : Wk o (sV o' 4 0) := Wk_tr (Wk_tr (Wk_tr (Wk_Fm (by omega) q3) (Wk_sV (by unfold Pv; omega))) (Wk_sL _ _)) (Wk_tr t5 (Wk_sV (by unfold Pv; omega)))
          have hcls : Cls M M' := by
            refine ⟨?_, ?_, ?_, ?_, ?_, ?_⟩
            · rw [t4 0 (by omega)]; rfl
            · rw [t4 1 (by omega)]; rfl
            · rw [t4 4 (by omega)]; rfl
            · rw [t4 6 (by omega)]; rfl
            · rw [t4 7 (by omega)]; rfl
            · rw [t4 3 (by omega)]; exact Fl_rf _
          have cls0 : FX6_runs (jI (c : Int)) (jI (sd : Int)) (jI d) M = (if jI d = 0 then some (jI dn, M') else if jI d = (1 : Int32) then some (jI mx', M') else some (jI sd', M')) := by
            unfold FX6_runs
            rw [if_neg (by rw [j_1, jI_lt (by omega) (by omega) (by omega) (by omega)]; omega), if_neg (by rw [j_60, jI_lt (by omega) (by omega) (by omega) (by omega)]; omega), if_neg (by rw [j_0, jI_lt (by omega) (by omega) (by omega) (by omega)]; omega), if_neg (by rw [j_0, jI_lt (by omega) (by omega) (by omega) (by omega)]; omega), if_pos (by rw [j_2, jI_le (by omega) (by omega) (by omega) (by omega)]; omega), if_neg (fun z => t0 (n2.mp z)), e1, b1_some, lT_eq, show (sM M 5 g1) 5 = g1 from rfl, RGr_6 r1, b1_some]
            exact t1
          have ref0 : FX7_runs (jI (c : Int)) (jI (sd : Int)) (jI d) o = (if jI d = 0 then some (jI dn, sV o' 4 0) else if jI d = (1 : Int32) then some (jI mx', sV o' 4 0) else some (jI sd', sV o' 4 0)) := by
            unfold FX7_runs
            rw [wa, b1_some, if_neg (by decide), if_neg (by rw [j_0, jI_lt (by omega) (by omega) (by omega) (by omega)]; omega), wd, b1_some, if_neg (by decide), n1 t0, b1_some, if_neg (by decide)]
            unfold FX7_runsNow
            have q1' : FX7_copy (2 : Int32) (0 : Int32) o = some oa := q1
            rw [q1', b1_some, lT_eq, lT_eq]
            have nn := MS_nodes (b := 2) (by omega) mb
            have mm := MS_meetingsNow (b := 2) (by omega) mb h.1.1.1
            show b2 (b1 (FX7_nodes ob) _) _ = _
            rw [nn, b1_some, mm, b1_some]
            have t2' : LX7_runsNow_32 (jI (c : Int)) (jI d) (fun x4_32 x5_33 o0_34 => BX7_runsNow_90 (jI d) x4_32 x5_33 o0_34) fu (0 : Int32) (jI (cnt N.1 180)) (jI (mtg N.1 N.2.1 180 0).length) ob = _ := t2
            rw [t2']
            unfold BX7_runsNow_90
            rw [lT_eq]
            have e41 : (oL (sV o' 4 0) 41).toInt32 = jI sd' := by
              show (oL o' 41).toInt32 = _
              rw [t3, Int32.toInt32_toInt64]
            rw [e41]
            by_cases c0 : jI d = 0
            · simp only [if_pos c0, b2_some]
            · by_cases c1 : jI d = (1 : Int32)
              · simp only [if_neg c0, if_pos c1, b2_some]
              · simp only [if_neg c0, if_neg c1, b2_some]
          have fin : Bd (n + 1) M' (sV o' 4 0) := Bq_up (Bq_Cls (Bq_Wk h w1 rfl) hcls)
          by_cases c0 : jI d = 0
          · rw [if_pos c0] at cls0 ref0; exact ⟨_, _, _, cls0, ref0, fin⟩
          · rw [if_neg c0] at cls0 ref0
            by_cases c1 : jI d = (1 : Int32)
            · rw [if_pos c1] at cls0 ref0; exact ⟨_, _, _, cls0, ref0, fin⟩
            · rw [if_neg c1] at cls0 ref0; exact ⟨_, _, _, cls0, ref0, fin⟩
      · rw [if_neg cd] at wd
        refine ⟨-102, M, o, ?_, ?_, Bq_up h⟩
        · unfold FX6_runs
          rw [if_neg (by rw [j_1, jI_lt (by omega) (by omega) (by omega) (by omega)]; omega), if_neg (by rw [j_60, jI_lt (by omega) (by omega) (by omega) (by omega)]; omega), if_neg (by rw [j_0, jI_lt (by omega) (by omega) (by omega) (by omega)]; omega)]
          by_cases c1 : d < 0
          · rw [if_pos (by rw [j_0, jI_lt (by omega) (by omega) (by omega) (by omega)]; omega)]
          · rw [if_neg (by rw [j_0, jI_lt (by omega) (by omega) (by omega) (by omega)]; omega), if_neg (by rw [j_2, jI_le (by omega) (by omega) (by omega) (by omega)]; omega)]
        · unfold FX7_runs
          rw [wa, b1_some, if_neg (by decide), if_neg (by rw [j_0, jI_lt (by omega) (by omega) (by omega) (by omega)]; omega), wd, b1_some, if_pos rfl]
    · refine ⟨-102, M, o, ?_, ?_, Bq_up h⟩
      · unfold FX6_runs
        rw [if_neg (by rw [j_1, jI_lt (by omega) (by omega) (by omega) (by omega)]; omega), if_neg (by rw [j_60, jI_lt (by omega) (by omega) (by omega) (by omega)]; omega), if_pos (by rw [j_0, jI_lt (by omega) (by omega) (by omega) (by omega)]; omega)]
      · unfold FX7_runs
        rw [wa, b1_some, if_neg (by decide), if_pos (by rw [j_0, jI_lt (by omega) (by omega) (by omega) (by omega)]; omega)]
  · rw [if_neg ca] at wa
    refine ⟨-102, M, o, ?_, ?_, Bq_up h⟩
    · unfold FX6_runs
      by_cases c1 : a < 1
      · rw [if_pos (by rw [j_1, jI_lt (by omega) (by omega) (by omega) (by omega)]; omega)]
      · rw [if_neg (by rw [j_1, jI_lt (by omega) (by omega) (by omega) (by omega)]; omega), if_pos (by rw [j_60, jI_lt (by omega) (by omega) (by omega) (by omega)]; omega)]
    · unfold FX7_runs
      rw [wa, b1_some, if_pos rfl]
end C9
