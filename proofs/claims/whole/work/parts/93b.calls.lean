/-! calls: the page, a net read -/
theorem sM_self (M : Nat → Ob) (k : Nat) : sM M k (M k) = M := by
  funext j
  rw [sM_at]
  by_cases c : j = k
  · rw [if_pos c, c]
  · rw [if_neg c]
theorem Bq_Pf {n : Nat} {M : Nat → Ob} {o o' : Ob} {N N' : Nt} {t hi s s' l : Nat} {cs : Nat → Nat} (hq : Bq n M o N N' t hi s s' l cs) (h : Pf o o') : Bq n M o' N N' t hi s s' l cs := by
  have w : Wk o (o'.1, o'.2.1, o.2.2) := ⟨fun i _ => by show oA o' 0 i = _; rw [h.1 0 (by omega)], fun i _ => by show oA o' 1 i = _; rw [h.1 1 (by omega)], fun i _ => by show oA o' 2 i = _; rw [h.1 2 (by omega)], fun i _ => by show oA o' 3 i = _; rw [h.1 3 (by omega)], fun k hk => h.1 k (by unfold Pk at hk; omega), fun k hk => h.2 k (by unfold Pv at hk; omega), rfl⟩
  have z := Bq_Wk (o' := (o'.1, o'.2.1, o.2.2)) hq w (by show oV o' 4 = 0; rw [h.2 4 (by omega)]; exact hq.2.1)
  exact z
theorem narB : ∀ c : Nat, c < 127 → 32 ≤ c → vp_nar .byte (jI c).toInt8.toInt32 = jI c := by decide +kernel
theorem Bq_page {n : Nat} {M : Nat → Ob} {o : Ob} {N N' : Nt} {t hi s s' l : Nat} {cs : Nat → Nat} (h : Bq n M o N N' t hi s s' l cs) {pg o' : Ob} {l' : Nat} {cs' : Nat → Nat} (hp : PgB pg o' l' cs') (hA : ∀ k, k ≠ 12 → oA o' k = oA o k) (hV : ∀ k, k ≠ 11 → oV o' k = oV o k) : Bq n (sM M 1 pg) o' N N' t hi s s' l' cs' := by
  obtain ⟨a1, a2, a3, a4, a5, a6, a7, a8, a9⟩ := h
  unfold Bq
  simp only [sM_at]
  rw [if_neg (by omega), if_neg (by omega), if_neg (by omega), if_neg (by omega), if_neg (by omega), if_pos trivial]
  have nb : ∀ g b dr N, dr ≠ 12 → NB g o b dr N → NB g o' b dr N := fun g b dr N hd ⟨b1, b2, b3, b4, b5⟩ => ⟨b1, b2, Sl_o b3 (hA 0 (by omega)) (hA 1 (by omega)) (hA 2 (by omega)) (hA 3 (by omega)), by rw [hA dr hd]; exact b4, by rw [hA dr hd]; exact b5⟩
  have sb : ∀ x vs r1 r2 r3 s, vs ≠ 11 → r1 ≠ 12 → r2 ≠ 12 → r3 ≠ 12 → SB x o vs r1 r2 r3 s → SB x o' vs r1 r2 r3 s := fun x vs r1 r2 r3 s h0 h1 h2 h3 ⟨b1, b2, b3, b4, b5⟩ => ⟨b1, b2, by rw [hV vs h0]; exact b3, by rw [hA r1 h1, hA r2 h2, hA r3 h3]; exact b4, b5⟩
  exact ⟨nb _ _ _ _ (by omega) a1, by rw [hV 4 (by omega)]; exact a2, FB_v a3 (hV 5 (by omega)) (hV 42 (by omega)) (hV 43 (by omega)), a4, a5, fun z => nb _ _ _ _ (by omega) (a6 z), sb _ _ _ _ _ _ (by omega) (by omega) (by omega) (by omega) a7, sb _ _ _ _ _ _ (by omega) (by omega) (by omega) (by omega) a8, hp⟩
theorem ok_letter {n : Nat} {M : Nat → Ob} {o : Ob} (hb : Bd n M o) (x1 : Int32) : ∃ (r : Int32) (M' : Nat → Ob) (o' : Ob), FX6_letter x1 M = some (r, M') ∧ FX7_letter x1 o = some (r, o') ∧ Bd (n + 1) M' o' := by
  obtain ⟨N, N', t, hi, s, s', l, cs, h⟩ := hb
  obtain ⟨a, rfl, h1, h2⟩ := int_jI x1
  obtain ⟨p1, p2, p3, p4⟩ := h.2.2.2.2.2.2.2.2
  by_cases c : 32 ≤ a ∧ a ≤ 126
  · obtain ⟨c0, rfl⟩ := Int.eq_ofNat_of_zero_le (show 0 ≤ a by omega)
    by_cases cl : l < 80
    · let pg := sV (sA (M 1) 0 l (jI c0)) 1 (jI ((l + 1 : Nat)))
      let o' := sV (sA o 12 l (jI c0)) 11 (jI ((l + 1 : Nat)))
      refine ⟨jI ((l + 1 : Nat)), sM M 1 pg, o', ?_, ?_, Bq_up (Bq_page h (l' := l + 1) (cs' := fun i => if i = l then c0 else cs i) ⟨by omega, ⟨rfl, fun i hi => ?_⟩, ⟨rfl, fun i hi => ?_⟩, fun i hi => ?_⟩ (fun k hk => ?_) (fun k hk => ?_))⟩
      · unfold FX6_letter
        rw [if_neg (by rw [j_32, jI_lt (by omega) (by omega) (by omega) (by omega)]; omega), if_pos (by rw [j_126, jI_le (by omega) (by omega) (by omega) (by omega)]; omega)]
        unfold FX3_add
        rw [p2.1, if_pos (by rw [j_80, jI_lt (by omega) (by omega) (by omega) (by omega)]; omega), if_pos (by rw [jI_inb (by omega) (by omega)]; omega), lT_eq, lT_eq, jc _ (by omega), oV_sA, p2.1, jI_p1, b2_some, lT_eq, if_neg (by decide)]
        rfl
      · unfold FX7_letter
        rw [j_32, j_126, within_jI (by omega) (by omega) (by omega) (by omega) (by omega) (by omega), if_pos (by omega), b1_some, if_neg (by decide), p3.1, if_neg (by rw [j_80, jI_eq (by omega) (by omega) (by omega) (by omega)]; omega), if_pos (by rw [jI_inb (by omega) (by omega)]; omega), lT_eq, lT_eq, jc _ (by omega), narB c0 (by omega) (by omega), oV_sA, p3.1, jI_p1]
        rfl
      · show oA (sV (sA (M 1) 0 l _) 1 _) 0 i = _
        rw [oA_sV, sA_rw]
        by_cases ci : i = l
        · rw [if_pos ci]; simp only [if_pos ci]
        · rw [if_neg ci]; simp only [if_neg ci]; exact p2.2 i (by omega)
      · show oA (sV (sA o 12 l _) 11 _) 12 i = _
        rw [oA_sV, sA_rw]
        by_cases ci : i = l
        · rw [if_pos ci]; simp only [if_pos ci]
        · rw [if_neg ci]; simp only [if_neg ci]; exact p3.2 i (by omega)
      · by_cases ci : i = l
        · simp only [if_pos ci]; omega
        · simp only [if_neg ci]; exact p4 i (by omega)
      · show oA (sV (sA o 12 l _) 11 _) k = _
        rw [oA_sV, sA_ne _ _ _ hk]
      · show oV (sV (sA o 12 l _) 11 _) k = _
        rw [oV_sV, if_neg hk]; rfl
    · refine ⟨-104, M, o, ?_, ?_, Bq_up h⟩
      · unfold FX6_letter
        rw [if_neg (by rw [j_32, jI_lt (by omega) (by omega) (by omega) (by omega)]; omega), if_pos (by rw [j_126, jI_le (by omega) (by omega) (by omega) (by omega)]; omega)]
        unfold FX3_add
        rw [p2.1, if_neg (by rw [j_80, jI_lt (by omega) (by omega) (by omega) (by omega)]; omega), b2_some, lT_eq, if_pos rfl, sM_self]
      · unfold FX7_letter
        rw [j_32, j_126, within_jI (by omega) (by omega) (by omega) (by omega) (by omega) (by omega), if_pos (by omega), b1_some, if_neg (by decide), p3.1, if_pos (by rw [j_80, jI_eq (by omega) (by omega) (by omega) (by omega)]; omega)]
  · refine ⟨-102, M, o, ?_, ?_, Bq_up h⟩
    · unfold FX6_letter
      by_cases c1 : a < 32
      · rw [if_pos (by rw [j_32, jI_lt (by omega) (by omega) (by omega) (by omega)]; omega)]
      · rw [if_neg (by rw [j_32, jI_lt (by omega) (by omega) (by omega) (by omega)]; omega), if_neg (by rw [j_126, jI_le (by omega) (by omega) (by omega) (by omega)]; omega)]
    · unfold FX7_letter
      rw [j_32, j_126, within_jI (by omega) (by omega) (by omega) (by omega) (by omega) (by omega), if_neg (by omega), b1_some, if_pos rfl]
theorem ok_blank {n : Nat} {M : Nat → Ob} {o : Ob} (hb : Bd n M o) : ∃ (r : Int32) (M' : Nat → Ob) (o' : Ob), FX6_blank M = some (r, M') ∧ FX7_blank o = some (r, o') ∧ Bd (n + 1) M' o' := by
  obtain ⟨N, N', t, hi, s, s', l, cs, h⟩ := hb
  obtain ⟨p1, p2, p3, p4⟩ := h.2.2.2.2.2.2.2.2
  refine ⟨jI l, sM M 1 (sV (M 1) 1 0), sV o 11 0, ?_, ?_, Bq_up (Bq_page h (l' := 0) (cs' := cs) ⟨by omega, ⟨rfl, fun i hi => by omega⟩, ⟨rfl, fun i hi => by omega⟩, fun i hi => by omega⟩ (fun k hk => rfl) (fun k hk => by rw [oV_sV, if_neg hk]))⟩
  · unfold FX6_blank FX3_clear
    rw [lT_eq, lT_eq, b2_some, lT_eq, p2.1]
  · unfold FX7_blank
    rw [lT_eq, lT_eq, p3.1]
theorem Cls_25 (M : Nat → Ob) (x y : Ob) : Cls M (sM (sM M 2 x) 5 y) := Cls_tr (Cls_sM M x (by omega)) (Cls_sM _ y (by omega))
theorem ok_fault {n : Nat} {M : Nat → Ob} {o : Ob} (hb : Bd n M o) : ∃ (r : Int32) (M' : Nat → Ob) (o' : Ob), FX6_fault M = some (r, M') ∧ FX7_fault o = some (r, o') ∧ Bd (n + 1) M' o' := by
  obtain ⟨N, N', t, hi, s, s', l, cs, h⟩ := hb
  obtain ⟨p1, p2, p3, p4⟩ := h.2.2.2.2.2.2.2.2
  obtain ⟨r, d', g', o', e1, e2, e3, -⟩ := p_read p2 p1 p4 p3 (M 2) (M 5)
  refine ⟨jI r, sM (sM M 2 d') 5 g', o', ?_, ?_, Bq_up (Bq_Cls (Bq_Pf h e3) (Cls_25 M _ _))⟩
  · unfold FX6_fault
    rw [e1, b3_some, lT_eq]
  · unfold FX7_fault
    rw [e2, b2_some]
theorem m_done0 (E : Ob → Option (Int32 × Ob)) (o : Ob) : ∃ o', LX7_net_30 E fu 0 o = E o' ∧ (∀ j, j < 4 → oA o' 6 j = 0) ∧ (∀ k, k ≠ 6 → oA o' k = oA o k) ∧ (∀ k, oV o' k = oV o k) := by
  have st : ∀ (k f : Nat) (u : Ob), k < 4 → LX7_net_30 E (f + 1) (jI k) u = LX7_net_30 E f (jI ((k + 1 : Nat))) (sA u 6 k 0) := by
    intro k f u hk
    rw [LX7_net_30.eq_2, if_neg (by rw [j_4, jI_le (by omega) (by omega) (by omega) (by omega)]; omega), if_pos (by rw [jI_inb (by omega) (by omega)]; omega), lT_eq, lT_eq, jI_p1, jc _ (by omega)]
  refine ⟨sA (sA (sA (sA o 6 0 0) 6 1 0) 6 2 0) 6 3 0, ?_, fun j hj => ?_, fun k hk => ?_, fun _ => rfl⟩
  · rw [show (0 : Int32) = jI ((0 : Nat) : Int) from rfl, show fu = 4995 + 1 + 1 + 1 + 1 + 1 from rfl, st 0 _ _ (by omega), st 1 _ _ (by omega), st 2 _ _ (by omega), st 3 _ _ (by omega), LX7_net_30.eq_2, if_pos (by rw [j_4, jI_le (by omega) (by omega) (by omega) (by omega)]; omega)]
    rfl
  · rw [oA_sA, oA_sA, oA_sA, oA_sA]
    rcases (show j = 0 ∨ j = 1 ∨ j = 2 ∨ j = 3 by omega) with rfl | rfl | rfl | rfl <;> simp
  · rw [sA_ne _ _ _ hk, sA_ne _ _ _ hk, sA_ne _ _ _ hk, sA_ne _ _ _ hk]
theorem ok_net {n : Nat} (hn : n < 64) {M : Nat → Ob} {o : Ob} (hb : Bd n M o) : ∃ (r : Int32) (M' : Nat → Ob) (o' : Ob), FX6_net M = some (r, M') ∧ FX7_net o = some (r, o') ∧ Bd (n + 1) M' o' := by
  obtain ⟨N, N', t, hi, s, s', l, cs, h⟩ := hb
  obtain ⟨p1, p2, p3, p4⟩ := h.2.2.2.2.2.2.2.2
  obtain ⟨r, d', g', o1, e1, e2, e3, e4⟩ := p_read p2 p1 p4 p3 (M 2) (M 5)
  have hst : Bd (n + 1) (sM (sM M 2 d') 5 g') o1 := Bq_up (Bq_Cls (Bq_Pf h e3) (Cls_25 M _ _))
  have m1 : (sM (sM M 2 d') 5 g') 1 = M 1 := rfl
  have m2 : (sM (sM M 2 d') 5 g') 2 = d' := rfl
  have m5 : (sM (sM M 2 d') 5 g') 5 = g' := rfl
  have sz : FX3_size (M 1) = some (jI l) := by unfold FX3_size; rw [p2.1]
  rcases e4 with ⟨rl, v28⟩ | ⟨rl, m, D, st, nd, lim, u, K, w, L, hPB, hm80, v28⟩
  · refine ⟨-103, _, o1, ?_, ?_, hst⟩
    · unfold FX6_net
      rw [e1, b3_some, lT_eq, m1, sz, b1_some, if_pos (by rw [jI_lt (by omega) (by omega) (by omega) (by omega)]; omega)]
    · unfold FX7_net
      rw [e2, b2_some, v28, if_pos rfl]
  · subst rl
    have hA := hPB.1
    have hst3 := hPB.2.2.2.2.2.2.2.2.2.1.2.2.2.2.2.2
    have hDm := hPB.2.2.2.2.2.2.2.2.2.2.2
    have whole : FX1_isWhole d' = some (if D = 0 ∧ st = 3 then 1 else 0) := by
      unfold FX1_isWhole
      rw [hA.1, hA.2.1]
      by_cases c3 : st = 3
      · by_cases cD : D = 0
        · rw [if_pos (by rw [c3]; rfl), if_pos (by rw [cD]; rfl), if_pos ⟨cD, c3⟩]
        · rw [if_pos (by rw [c3]; rfl), if_neg (by rw [j_0, jI_eq (by omega) (by omega) (by omega) (by omega)]; omega), if_neg (fun z => cD z.1)]
      · rw [if_neg (by rw [j_3, jI_eq (by omega) (by omega) (by omega) (by omega)]; omega), if_neg (fun z => c3 z.2)]
    by_cases cw : D = 0 ∧ st = 3
    · rw [if_pos cw] at whole v28
      obtain ⟨rfl, rfl⟩ := cw
      have hG := hPB.2.2.2.2.2.2.2.1
      have cn : oV g' 6 = jI m := by
        obtain ⟨T, t0, -, -, -, -, -, a6⟩ := hG.1
        rw [a6, cnt_full hG.2.2.1 180 (by omega)]
      have nd1 : FX2_nodes 180 g' = some (jI m) := by unfold FX2_nodes; rw [cn]
      have v21 := hPB.2.2.2.2.1.2.1
      by_cases c30 : m ≤ 30
      · obtain ⟨g2, o2, N2, q1, q2, q3, q4, q5, q6, q7, q8, q9⟩ := p_net hPB c30
        obtain ⟨g3, r1, r2, r3, -⟩ := s_copyFrom (N := 60) (N' := 180) (by omega) (by omega) q3.1 q4 (g0 := M 3) (fun j hj => (q9 j).mpr (by omega))
        obtain ⟨o3, z1, z2, z3, z4⟩ := m_done0 (fun o0_12 => lT (sV o0_12 5 ((oV o0_12 5) + (1 : Int32))) fun o0_14 => lT (sV o0_14 7 (0 : Int32)) fun o0_16 => lT (sV o0_16 11 (0 : Int32)) fun o0_18 => some (oV o0_18 21, o0_18)) o2
        have rows : ∀ k, 3 < k → k ≠ 6 → k ≠ 29 → oA o3 k = oA o1 k := fun k h3 h6 h29 => by rw [z3 k h6, q8.2.2.2.2.1 k h3 h29]; rfl
        have ints : ∀ k, k ≠ 4 → oV o3 k = oV o1 k := fun k h4 => by rw [z4, q8.2.2.2.2.2, oV_sV, if_neg h4]
        have i1 : ∀ k, ¬ (k = 20 ∨ k = 21 ∨ (25 ≤ k ∧ k ≤ 28)) → k ≠ 4 → oV o3 k = oV o k := fun k hk h4 => by rw [ints k h4, e3.2 k hk]
        have rr1 : ∀ k, 3 < k → k ≠ 6 → k ≠ 29 → ¬ (k = 18 ∨ k = 19 ∨ k = 22 ∨ k = 23 ∨ k = 24) → oA o3 k = oA o k := fun k h3 h6 h29 hk => by rw [rows k h3 h6 h29, e3.1 k hk]
        let o4 := sV (sV (sV o3 5 (jI ((t + 1 : Nat)))) 7 0) 11 0
        obtain ⟨b1', b2', b3', b4', b5', b6', b7', b8', b9'⟩ := h
        have n60 : oV g3 6 = jI m := by
          obtain ⟨T, t0, -, -, -, -, -, a6⟩ := r2
          rw [a6, cnt_full q9 60 (by omega)]
        let M' := sM (sM (sM (sM (sM (sM (sM (sM (sM M 2 d') 5 g') 5 g2) 3 g3) 6 (sV (M 6) 3 0)) 1 (sV (M 1) 1 0)) 0 (sV (M 0) 10 1)) 0 (sV (sV (M 0) 10 1) 11 0)) 0 (sV (sV (sV (M 0) 10 1) 11 0) 12 (jI ((t + 1 : Nat))))
        have w0 : M' 0 = sV (sV (sV (M 0) 10 1) 11 0) 12 (jI ((t + 1 : Nat))) := rfl
        have w1 : M' 1 = sV (M 1) 1 0 := rfl
        have w3 : M' 3 = g3 := rfl
        have w4 : M' 4 = M 4 := rfl
        have w6 : M' 6 = sV (M 6) 3 0 := rfl
        have w7 : M' 7 = M 7 := rfl
        refine ⟨jI m, M', o4, ?_, ?_, N2, N', t + 1, 0, 0, s', 0, cs, ⟨q3, by rw [w3]; exact r2, ?_, fun j h1 h2 => ?_, ?_⟩, ?_, ?_, by omega, fun z => by omega, fun z => by omega, ?_, ?_, ?_⟩
        · unfold FX6_net
          rw [e1, b3_some, lT_eq, m1, sz, b1_some, if_neg (by rw [jI_lt (by omega) (by omega) (by omega) (by omega)]; omega), m2, whole, b1_some, if_neg (by decide), m5, nd1, b1_some, if_pos (by rw [show (30 : Int32) = jI 30 from rfl, jI_le (by omega) (by omega) (by omega) (by omega)]; omega), q1, b1_some, lT_eq]
          have x3 : (sM (sM (sM M 2 d') 5 g') 5 g2) 3 = M 3 := rfl
          have x5 : (sM (sM (sM M 2 d') 5 g') 5 g2) 5 = g2 := rfl
          rw [x3, x5, r1, b1_some, lT_eq]
          unfold FX4_clear FX3_clear
          rw [lT_eq, lT_eq, b2_some, lT_eq, lT_eq, lT_eq, b2_some, lT_eq, lT_eq, lT_eq, lT_eq]
          have v12 : oV (sV (sV (M 0) 10 1) 11 0) 12 + 1 = jI ((t + 1 : Nat)) := by
            rw [oV_sV, if_neg (by omega), oV_sV, if_neg (by omega), b3'.2.2.1, jI_p1]
          show b1 (FX2_nodes 60 g3) (fun r_37 => some (r_37, sM (sM (sM (sM (sM (sM (sM (sM (sM M 2 d') 5 g') 5 g2) 3 g3) 6 (sV (M 6) 3 0)) 1 (sV (M 1) 1 0)) 0 (sV (M 0) 10 1)) 0 (sV (sV (M 0) 10 1) 11 0)) 0 (sV (sV (sV (M 0) 10 1) 11 0) 12 (oV (sV (sV (M 0) 10 1) 11 0) 12 + 1)))) = _
          rw [v12]
          unfold FX2_nodes
          rw [b1_some, n60]
        · unfold FX7_net
          rw [e2, b2_some, v28, if_neg (by decide), v21, if_pos (by rw [show (30 : Int32) = jI 30 from rfl, jI_le (by omega) (by omega) (by omega) (by omega)]; omega), q2, b1_some]
          refine z1.trans ?_
          rw [lT_eq, lT_eq, lT_eq, i1 5 (by omega) (by omega), b3'.2.2.2.1, jI_p1]
          have : oV (sV (sV (sV o3 5 (jI ((t + 1 : Nat)))) 7 0) 11 0) 21 = jI m := by
            rw [oV_sV, if_neg (by omega), oV_sV, if_neg (by omega), oV_sV, if_neg (by omega), ints 21 (by omega)]; exact v21
          rw [this]
        · exact Sl_o q5 (z3 0 (by omega)) (z3 1 (by omega)) (z3 2 (by omega)) (z3 3 (by omega))
        · show oA g3 3 j = oA o3 6 j
          rw [r3 j (by omega), q6 j (by omega), z2 j (by omega)]
        · show oA g3 3 0 = oA o3 6 1 + oA o3 6 2 + oA o3 6 3
          rw [r3 0 (by omega), q6 0 (by omega), z2 1 (by omega), z2 2 (by omega), z2 3 (by omega)]
          rfl
        · show oV (sV (sV (sV o3 5 _) 7 0) 11 0) 4 = 0
          rw [oV_sV, if_neg (by omega), oV_sV, if_neg (by omega), oV_sV, if_neg (by omega), z4]; exact q7
        · have x42 : oV o4 42 = oV o 42 := by
            show oV (sV (sV (sV o3 5 _) 7 0) 11 0) 42 = _
            rw [oV_sV, if_neg (by omega), oV_sV, if_neg (by omega), oV_sV, if_neg (by omega)]; exact i1 42 (by omega) (by omega)
          have x43 : oV o4 43 = oV o 43 := by
            show oV (sV (sV (sV o3 5 _) 7 0) 11 0) 43 = _
            rw [oV_sV, if_neg (by omega), oV_sV, if_neg (by omega), oV_sV, if_neg (by omega)]; exact i1 43 (by omega) (by omega)
          rw [w0]
          refine ⟨by rw [if_pos (by omega)]; rfl, rfl, rfl, rfl, by omega, fun z => by omega, fun _ => ?_⟩
          rw [x42, x43]
          obtain ⟨f1, f2, f3, f4, f5, f6, f7⟩ := b3'
          rcases (show hi = 0 ∨ hi = 1 by omega) with z | z
          · rcases f7 z with y | ⟨t', y1, y2⟩
            · exact Or.inl y
            · exact Or.inr ⟨t', by omega, y2⟩
          · exact Or.inr ⟨t, by omega, (f6 z).2.2⟩
        · obtain ⟨k1, k2, k3, k4, k5⟩ := b7'
          refine ⟨by omega, by rw [w6]; rfl, rfl, fun i hi => ?_, fun i hi => by omega⟩
          rw [w6]
          show oA (M 6) 0 i = oA o3 8 i ∧ oA (M 6) 1 i = oA o3 9 i ∧ oA (M 6) 2 i = oA o3 10 i
          rw [rr1 8 (by omega) (by omega) (by omega) (by omega), rr1 9 (by omega) (by omega) (by omega) (by omega), rr1 10 (by omega) (by omega) (by omega) (by omega)]
          exact k4 i hi
        · obtain ⟨k1, k2, k3, k4, k5⟩ := b8'
          refine ⟨k1, by rw [w7]; exact k2, ?_, fun i hi => ?_, by rw [w7]; exact k5⟩
          · show oV (sV (sV (sV o3 5 _) 7 0) 11 0) 44 = _
            rw [oV_sV, if_neg (by omega), oV_sV, if_neg (by omega), oV_sV, if_neg (by omega), i1 44 (by omega) (by omega)]; exact k3
          · rw [w7]
            show oA (M 7) 0 i = oA o3 46 i ∧ oA (M 7) 1 i = oA o3 47 i ∧ oA (M 7) 2 i = oA o3 48 i
            rw [rr1 46 (by omega) (by omega) (by omega) (by omega), rr1 47 (by omega) (by omega) (by omega) (by omega), rr1 48 (by omega) (by omega) (by omega) (by omega)]
            exact k4 i hi
        · exact ⟨by omega, ⟨by rw [w1]; rfl, fun i hi => by omega⟩, ⟨rfl, fun i hi => by omega⟩, fun i hi => by omega⟩
      · refine ⟨-103, _, o1, ?_, ?_, hst⟩
        · unfold FX6_net
          rw [e1, b3_some, lT_eq, m1, sz, b1_some, if_neg (by rw [jI_lt (by omega) (by omega) (by omega) (by omega)]; omega), m2, whole, b1_some, if_neg (by decide), m5, nd1, b1_some, if_neg (by rw [show (30 : Int32) = jI 30 from rfl, jI_le (by omega) (by omega) (by omega) (by omega)]; omega)]
        · unfold FX7_net
          rw [e2, b2_some, v28, if_neg (by decide), v21, if_neg (by rw [show (30 : Int32) = jI 30 from rfl, jI_le (by omega) (by omega) (by omega) (by omega)]; omega)]
    · rw [if_neg cw] at whole v28
      refine ⟨-103, _, o1, ?_, ?_, hst⟩
      · unfold FX6_net
        rw [e1, b3_some, lT_eq, m1, sz, b1_some, if_neg (by rw [jI_lt (by omega) (by omega) (by omega) (by omega)]; omega), m2, whole, b1_some, if_pos rfl]
      · unfold FX7_net
        rw [e2, b2_some, v28, if_pos rfl]
