section C4
variable {n : Nat} {M : Nat → Ob} {o : Ob}
theorem wl_wv {w : Wr} {p q a b : Port} (h1 : a ≠ p) (h2 : a ≠ q) (h3 : b ≠ p) (h4 : b ≠ q) : wl a b (wv q (wv p w)) = wv q (wv p (wl a b w)) := by
  funext r
  unfold wl wv
  grind
theorem ok_join (hb : Bd n M o) (x1 x2 : Int32) : ∃ (r : Int32) (M' : Nat → Ob) (o' : Ob), FX6_join x1 x2 M = some (r, M') ∧ FX7_join x1 x2 o = some (r, o') ∧ Bd (n + 1) M' o' := by
  obtain ⟨N, N', t, hi, s, s', l, cs, h⟩ := hb
  obtain ⟨a, rfl, a1, a2⟩ := int_jI x1
  obtain ⟨b, rfl, b1', b2'⟩ := int_jI x2
  have hs := sV_self h.2.1
  have hms := Bq_MS h
  have hF := h.1.1.1
  rcases whoOpen h.1.2.1 hms a1 a2 with ⟨i, rfl, hi8, hw, e1, e2⟩ | ⟨e1, e2⟩
  · rcases whoOpen h.1.2.1 hms b1' b2' with ⟨j, rfl, hj8, hw2, e3, e4⟩ | ⟨e3, e4⟩
    · by_cases cij : i = j
      · refine ⟨-101, M, o, ?_, ?_, Bq_up h⟩
        · unfold FX6_join
          rw [e1, b1_some, if_neg (by decide), e3, b1_some, if_neg (by decide), if_pos (by rw [cij])]
        · unfold FX7_join
          rw [lT_eq, hs, e2, b1_some, if_neg (by decide), e4, b1_some, if_neg (by decide), if_pos (by rw [cij])]
      · have ht : t ≠ 0 := fun z => hw ((h.2.2.2.2.1 z).2 _)
        obtain ⟨p, hp⟩ := some_of hw
        obtain ⟨q, hq⟩ := some_of hw2
        have pij : ((i, 3) : Port) ≠ (j, 3) := by simp [cij]
        obtain ⟨T, t0, gK, gW, g3, g4, g5, g6⟩ := h.1.2.1
        have hab : p ≠ q := fun z => by
          have h1 := (hF.1 _ _ hp).1
          have h2 := (hF.1 _ _ hq).1
          rw [z, h2] at h1
          exact pij (Option.some.inj h1).symm
        obtain ⟨g', q1, q2, q3, q4, q5, q6⟩ := s_fuse (N := 60) (by omega) gW hp hq hab (hF.1 _ _ hp).1 _ g3
        have rg : RGr 60 g' N.1 (wf (i, 3) (j, 3) N.2.1) (rf (i, 3) (j, 3) N.2.1 N.2.2) := ⟨T, t0, q3 _ _ gK, q2, q4, by rw [q5 5 (by omega)]; exact g4, g5, by rw [q5 6 (by omega)]; exact g6⟩
        have mt := Mt_wf hF.1 hp hq pij
        have oc := occ_wf hF.1 hp hq pij
        have hW' : WF N.1 (wf (i, 3) (j, 3) N.2.1) := by
          refine WF_of mt (fun v => ?_) (fun v s hs hw => hF.2.2 v s hs ((oc _).mp hw).2.2)
          have z := WF_to hF v
          rw [oc, oc, oc]
          refine ⟨⟨fun y => z.1.mp y.2.2, fun y => ⟨by simp, by simp, z.1.mpr y⟩⟩, ⟨fun y => z.2.1.mp y.2.2, fun y => ⟨by simp, by simp, z.2.1.mpr y⟩⟩, ⟨fun y => z.2.2.mp y.2.2, fun y => ⟨by simp, by simp, z.2.2.mpr y⟩⟩⟩
        obtain ⟨u1, u2, -⟩ := hms.2.2.1.1 _ _ hp
        obtain ⟨u3, u4, -⟩ := hms.2.2.1.1 _ _ hq
        have r1 : (900 : Int32) + jI (i : Int) = jI (mp (i, 3)) := by rw [j_900, jI_add]; rfl
        have r2 : (900 : Int32) + jI (j : Int) = jI (mp (j, 3)) := by rw [j_900, jI_add]; rfl
        let o1 := ms 0 o (i, 3) (-1)
        let o2 := ms 0 o1 (j, 3) (-1)
        have o1v : oV o1 4 = jI ((0 : Nat) : Int) := by show oV (ms 0 o _ _) 4 = _; rw [ms_v]; exact hms.1
        have o2v : oV o2 4 = jI ((0 : Nat) : Int) := by show oV (ms 0 o1 _ _) 4 = _; rw [ms_v]; exact o1v
        have o2k : ∀ k, k ≠ 1 → k ≠ 2 → oA o2 k = oA o k := fun k h1 h2 => by
          show oA (ms 0 (ms 0 o _ _) _ _) k = _
          rw [ms_o h1 h2, ms_o h1 h2]
        have w2 : RMw 0 o2 (wv (j, 3) (wv (i, 3) N.2.1)) := RMw_wv (RMw_wv hms.2.2.1 u1) u3
        have k2 : RMk 0 o2 N.1 := RMk_ms (RMk_ms hms.2.1 _ _) _ _
        have f2 : Fq o o2 := Fq_tr (Fq_ms u1 _) (Fq_ms u3 _)
        have lp := mp_lt u2
        have lq := mp_lt u3
        have z0 : (0 : Int32).toNatClampNeg = 0 := rfl
        have refh : FX7_join (jI (i : Int)) (jI (j : Int)) o = if p = (j, 3) then some (jI ((N.2.2 + 1 : Nat)), sA o2 3 0 (jI ((N.2.2 + 1 : Nat)))) else some (jI N.2.2, ms 0 (ms 0 o2 p (jI (mp q))) q (jI (mp p))) := by
          have r3 : oA o2 3 0 = jI N.2.2 := by rw [o2k 3 (by omega) (by omega)]; exact hms.2.2.2
          unfold FX7_join
          rw [lT_eq, hs, e2, b1_some, if_neg (by decide), e4, b1_some, if_neg (by decide), if_neg (by rw [jI_eq (by omega) (by omega) (by omega) (by omega)]; omega), r1, r2, m_told (by omega) hms hp, b1_some, m_told (by omega) hms hq, b1_some, m_set (b := 0) (by omega) hms.1 u1, b1_some, m_set (b := 0) (by omega) o1v u3, b1_some]
          by_cases c : p = (j, 3)
          · rw [if_pos (by rw [c]), if_pos c, lT_eq, z0, r3, jI_p1]
            have : oA (sA o2 3 0 (jI ((N.2.2 + 1 : Nat)))) 3 0 = jI ((N.2.2 + 1 : Nat)) := by rw [sA_rw, if_pos rfl]
            show some (oA (sA o2 3 0 (jI ((N.2.2 + 1 : Nat)))) 3 0, _) = _
            rw [this]
          · rw [if_neg (by rw [jI_eq (by omega) (by omega) (by omega) (by omega)]; exact fun z => c (mp_inj u2 u3 (by omega))), if_neg c, m_wire (b := 0) (by omega) o2v u2 u4, b1_some, z0, ms_o (by omega) (by omega), ms_o (by omega) (by omega), r3]
        have clsh : FX6_join (jI (i : Int)) (jI (j : Int)) M = some (jI (rf (i, 3) (j, 3) N.2.1 N.2.2), sM M 3 g') := by
          unfold FX6_join
          rw [e1, b1_some, if_neg (by decide), e3, b1_some, if_neg (by decide), if_neg (by rw [jI_eq (by omega) (by omega) (by omega) (by omega)]; omega), show jI (i : Int) = jI (cp (i, 3)) from rfl, show jI (j : Int) = jI (cp (j, 3)) from rfl, q1, b1_some, lT_eq]
          unfold FX2_rings
          rw [b1_some, show (sM M 3 g') 3 = g' from rfl, q4]
        have dn : (∀ k, k ≠ 1 → oA g' k = oA (M 3) k) := q6
        by_cases c : p = (j, 3)
        · rw [if_pos c] at refh
          have hrf : rf (i, 3) (j, 3) N.2.1 N.2.2 = N.2.2 + 1 := by unfold rf; rw [if_pos (by rw [hp, c])]
          have hwf : wf (i, 3) (j, 3) N.2.1 = wv (j, 3) (wv (i, 3) N.2.1) := by unfold wf; rw [if_pos (by rw [hp, c])]
          rw [hrf] at clsh rg
          refine ⟨_, _, _, clsh, refh, Bq_up (Bq_now h (N1 := (N.1, wf (i, 3) (j, 3) N.2.1, N.2.2 + 1)) ⟨⟨hW', h.1.1.2⟩, rg, ⟨RMk_k k2 (by omega), by rw [hwf]; exact RMw_k0 w2 (by omega) (by omega), by rw [sA_rw, if_pos rfl]⟩, ?_, ?_⟩ (Fq_tr f2 (Fq_3 o2 _)) ht)⟩
          · rw [dn 3 (by omega), sA_ne _ _ _ (by omega), o2k 6 (by omega) (by omega)]; exact h.1.2.2.2.1
          · rw [dn 3 (by omega), sA_ne _ _ _ (by omega), o2k 6 (by omega) (by omega)]; exact h.1.2.2.2.2
        · rw [if_neg c] at refh
          have hne : ¬ N.2.1 (i, 3) = some (j, 3) := fun z => c (Option.some.inj (hp.symm.trans z))
          have hrf : rf (i, 3) (j, 3) N.2.1 N.2.2 = N.2.2 := by unfold rf; rw [if_neg hne]
          have hpi : p ≠ (i, 3) := fun z => (hF.1 _ _ hp).2 z.symm
          have hqj : q ≠ (j, 3) := fun z => (hF.1 _ _ hq).2 z.symm
          have hqi : q ≠ (i, 3) := fun z => by
            have := (hF.1 _ _ hq).1
            rw [z, hp] at this
            exact c (Option.some.inj this)
          have hwf : wf (i, 3) (j, 3) N.2.1 = wl p q (wv (j, 3) (wv (i, 3) N.2.1)) := by
            unfold wf
            rw [if_neg hne, hp, hq, wl_wv hpi c hqi hqj]
          rw [hrf] at clsh rg
          refine ⟨_, _, _, clsh, refh, Bq_up (Bq_now h (N1 := (N.1, wf (i, 3) (j, 3) N.2.1, N.2.2)) ⟨⟨hW', h.1.1.2⟩, rg, ⟨RMk_ms (RMk_ms k2 _ _) _ _, by rw [hwf]; exact RMw_wl w2 u2 u4 hab, by rw [ms_o (by omega) (by omega), ms_o (by omega) (by omega), o2k 3 (by omega) (by omega)]; exact hms.2.2.2⟩, ?_, ?_⟩ (Fq_tr f2 (Fq_tr (Fq_ms u2 _) (Fq_ms u4 _))) ht)⟩
          · rw [dn 3 (by omega), ms_o (by omega) (by omega), ms_o (by omega) (by omega), o2k 6 (by omega) (by omega)]; exact h.1.2.2.2.1
          · rw [dn 3 (by omega), ms_o (by omega) (by omega), ms_o (by omega) (by omega), o2k 6 (by omega) (by omega)]; exact h.1.2.2.2.2
    · refine ⟨-101, M, o, ?_, ?_, Bq_up h⟩
      · unfold FX6_join
        rw [e1, b1_some, if_neg (by decide), e3, b1_some, if_pos rfl]
      · unfold FX7_join
        rw [lT_eq, hs, e2, b1_some, if_neg (by decide), e4, b1_some, if_pos rfl]
  · refine ⟨-101, M, o, ?_, ?_, Bq_up h⟩
    · unfold FX6_join
      rw [e1, b1_some, if_pos rfl]
    · unfold FX7_join
      rw [lT_eq, hs, e2, b1_some, if_pos rfl]
theorem cnt_60 {g : Ob} {K : Kd} {w : Wr} {r : Nat} (h : RGr 60 g K w r) : cnt K 180 = cnt K 60 := cnt_ext (by omega) (RGr_bd h)
theorem RGr_6 {N : Nat} {g : Ob} {K : Kd} {w : Wr} {r : Nat} (h : RGr N g K w r) : FX2_nodes N g = some (jI (cnt K N)) := by
  obtain ⟨T, t, -, -, -, -, -, a6⟩ := h
  unfold FX2_nodes
  rw [a6]
theorem ok_stop (hb : Bd n M o) (x1 : Int32) : ∃ (r : Int32) (M' : Nat → Ob) (o' : Ob), FX6_stop x1 M = some (r, M') ∧ FX7_stop x1 o = some (r, o') ∧ Bd (n + 1) M' o' := by
  obtain ⟨N, N', t, hi, s, s', l, cs, h⟩ := hb
  obtain ⟨a, rfl, a1, a2⟩ := int_jI x1
  have hs := sV_self h.2.1
  have hms := Bq_MS h
  have hF := h.1.1.1
  have nd1 := RGr_6 h.1.2.1
  have nd2 := MS_nodes (b := 0) (by omega) hms
  rw [cnt_60 h.1.2.1] at nd2
  have cle := cnt_le N.1 60
  rcases whoOpen h.1.2.1 hms a1 a2 with ⟨i, rfl, hi8, hw, e1, e2⟩ | ⟨e1, e2⟩
  · by_cases c60 : cnt N.1 60 < 60
    · have ht : t ≠ 0 := fun z => hw ((h.2.2.2.2.1 z).2 _)
      obtain ⟨p, hp⟩ := some_of hw
      obtain ⟨n0, hn0, hl⟩ := lf_ex c60
      obtain ⟨T, t0, gK, gW, g3, g4, g5, g6⟩ := h.1.2.1
      have ht0 : t0 ≤ n0 := by
        rcases Nat.lt_or_ge n0 t0 with c | c
        · exact absurd hl.1 (g5 n0 c)
        · exact c
      obtain ⟨g1, x1, x2, x3, x4, x5, x6⟩ := s_addNode (N := 60) (by omega) gK g4 hn0 hl ht0 (k := 0) (by omega)
      have gW1 : RW 60 g1 N.2.1 := RW_other gW (x6 1 (by omega))
      have hn0w : N.2.1 (n0, 0) = none := by
        cases hq : N.2.1 (n0, 0) with
        | none => rfl
        | some q => exact absurd hl.1 (alive_of hF (n := n0) (s := 0) (by omega) (by rw [hq]; exact fun z => by cases z))
      have hpn : p ≠ (n0, 0) := fun z => by
        have := (hF.1 _ _ hp).1
        rw [z, hn0w] at this
        cases this
      have vn : vp 60 (n0, 0) := Or.inl ⟨by simp only; omega, by simp only; omega⟩
      obtain ⟨g2, y1, y2, y3, y4, y5⟩ := s_move (N := 60) (by omega) gW1 hp vn hpn
      have rg : RGr 60 g2 (ku N.1 n0 (some 0)) (wm (i, 3) (n0, 0) N.2.1) N.2.2 := by
        refine ⟨_, n0 + 1, y3 _ _ x2, y2, by rw [y4, x5 7 (by omega) (by omega) (by omega)]; exact g3, by rw [y4]; exact x3, fun j hj => ?_, ?_⟩
        · unfold ku
          by_cases c : j = n0
          · rw [if_pos c]; exact fun z => by cases z
          · rw [if_neg c]; exact hl.2 j (by omega)
        · rw [y4, x4, g6, jI_p1, cnt_add hl.1 hn0]
      have mt := Mt_wm hF.1 hp hn0w
      have oc := occ_wm hF.1 hp hn0w
      have hW' : WF (ku N.1 n0 (some 0)) (wm (i, 3) (n0, 0) N.2.1) := by
        refine WF_of mt (fun v => ?_) (fun v s hs hw => ?_)
        · have z := WF_to hF v
          rw [oc, oc, oc]
          unfold ku
          by_cases c : v = n0
          · subst c
            rw [if_pos rfl]
            refine ⟨⟨fun _ y => (by cases y), fun _ => Or.inl rfl⟩, ⟨fun y => ?_, fun y => ?_⟩, ⟨fun y => ?_, fun y => ?_⟩⟩
            · rcases y with y | y
              · simp at y
              · exfalso
                obtain ⟨k, hk⟩ := z.2.1.mp y.2
                rw [hl.1] at hk; cases hk
            · obtain ⟨k, hk⟩ := y; cases hk
            · rcases y with y | y
              · simp at y
              · exfalso
                obtain ⟨k, hk⟩ := z.2.2.mp y.2
                rw [hl.1] at hk; cases hk
            · obtain ⟨k, hk⟩ := y; cases hk
          · rw [if_neg c]
            refine ⟨⟨fun y => ?_, fun y => Or.inr ⟨by simp, z.1.mpr y⟩⟩, ⟨fun y => ?_, fun y => Or.inr ⟨by simp, z.2.1.mpr y⟩⟩, ⟨fun y => ?_, fun y => Or.inr ⟨by simp, z.2.2.mpr y⟩⟩⟩
            · rcases y with y | y
              · exact absurd (congrArg Prod.fst y) c
              · exact z.1.mp y.2
            · rcases y with y | y
              · simp at y
              · exact z.2.1.mp y.2
            · rcases y with y | y
              · simp at y
              · exact z.2.2.mp y.2
        · rcases (oc _).mp hw with y | y
          · have := congrArg Prod.snd y; simp only at this; omega
          · exact hF.2.2 v s hs y.2
      obtain ⟨u1, u2, -⟩ := hms.2.2.1.1 _ _ hp
      have un : vm (n0, 0) := Or.inl ⟨by simp only; omega, by simp only; omega⟩
      have r1 : (900 : Int32) + jI (i : Int) = jI (mp (i, 3)) := by rw [j_900, jI_add]; rfl
      let o1 := ms 0 o (i, 3) (-1)
      have o1v : oV o1 4 = jI ((0 : Nat) : Int) := by show oV (ms 0 o _ _) 4 = _; rw [ms_v]; exact hms.1
      have k1 : RMk 0 o1 N.1 := RMk_ms hms.2.1 _ _
      have w1 : RMw 0 o1 (wv (i, 3) N.2.1) := RMw_wv hms.2.2.1 u1
      obtain ⟨z1, z2⟩ := m_made (b := 0) (by omega) o1v k1 (n0 := n0) (k := 0) (by omega) hl (by omega)
      let o2 := sA o1 0 (180 * 0 + n0) (jI ((0 : Nat) : Int))
      have o2v : oV o2 4 = jI ((0 : Nat) : Int) := o1v
      let o3 := ms 0 (ms 0 o2 (n0, 0) (jI (mp p))) p (jI (mp (n0, 0)))
      have w2 : RMw 0 o2 (wv (i, 3) N.2.1) := RMw_k0 w1 (by omega) (by omega)
      have w3 : RMw 0 o3 (wl (n0, 0) p (wv (i, 3) N.2.1)) := RMw_wl w2 un u2 (fun z => hpn z.symm)
      have hwm : wm (i, 3) (n0, 0) N.2.1 = wl (n0, 0) p (wv (i, 3) N.2.1) := by
        unfold wm
        rw [hp]
        funext r
        show wl p (n0, 0) (wv (i, 3) N.2.1) r = _
        unfold wl
        by_cases c1 : r = (n0, 0)
        · rw [if_pos c1, if_neg (fun z => hpn (z.symm.trans c1)), if_pos c1]
        · rw [if_neg c1]
          by_cases c2 : r = p
          · rw [if_pos c2, if_pos c2]
          · rw [if_neg c2, if_neg c2, if_neg c1]
      have o3k : ∀ k, 3 ≤ k → oA o3 k = oA o k := fun k hk => by
        show oA (ms 0 (ms 0 (sA (ms 0 o _ _) 0 _ _) _ _) _ _) k = _
        rw [ms_o (by omega) (by omega), ms_o (by omega) (by omega), sA_ne _ _ _ (by omega), ms_o (by omega) (by omega)]
      have f3 : Fq o o3 := Fq_tr (Fq_ms u1 _) (Fq_tr (Fq_0 o1 (by omega) _) (Fq_tr (Fq_ms un _) (Fq_ms u2 _)))
      refine ⟨jI n0, sM (sM M 3 g1) 3 g2, o3, ?_, ?_, ?_⟩
      · unfold FX6_stop
        rw [e1, b1_some, if_neg (by decide), nd1, b1_some, if_pos (by rw [j_60, jI_lt (by omega) (by omega) (by omega) (by omega)]; omega), show (0 : Int32) = jI ((0 : Nat) : Int) from rfl, x1, b2_some, lT_eq, show jI ((0 : Nat) : Int) = jI 0 from rfl, s_port0, b1_some, show (sM M 3 g1) 3 = g1 from rfl, show jI (i : Int) = jI (cp (i, 3)) from rfl, y1, b1_some, lT_eq]
      · unfold FX7_stop
        rw [lT_eq, hs, e2, b1_some, if_neg (by decide), nd2, b1_some, if_neg (by rw [j_60, jI_eq (by omega) (by omega) (by omega) (by omega)]; omega), r1, m_told (by omega) hms hp, b1_some, m_set (b := 0) (by omega) hms.1 u1, b1_some, show (0 : Int32) = jI ((0 : Nat) : Int) from rfl, z1, b2_some, mp3, m_wire (b := 0) (by omega) o2v un u2, b1_some]
      · have hM : sM (sM M 3 g1) 3 g2 = sM M 3 g2 := by
          funext j
          rw [sM_at, sM_at, sM_at]
          by_cases c : j = 3
          · rw [if_pos c, if_pos c]
          · rw [if_neg c, if_neg c, if_neg c]
        rw [hM]
        refine Bq_up (Bq_now h (N1 := (ku N.1 n0 (some 0), wm (i, 3) (n0, 0) N.2.1, N.2.2)) ⟨⟨hW', bd_kind h.1.1.2⟩, rg, ⟨RMk_ms (RMk_ms z2 _ _) _ _, by rw [hwm]; exact w3, by rw [o3k 3 (by omega)]; exact hms.2.2.2⟩, ?_, ?_⟩ f3 ht)
        · rw [y5 3 (by omega), x6 3 (by omega), o3k 6 (by omega)]; exact h.1.2.2.2.1
        · rw [y5 3 (by omega), x6 3 (by omega), o3k 6 (by omega)]; exact h.1.2.2.2.2
    · refine ⟨-104, M, o, ?_, ?_, Bq_up h⟩
      · unfold FX6_stop
        rw [e1, b1_some, if_neg (by decide), nd1, b1_some, if_neg (by rw [j_60, jI_lt (by omega) (by omega) (by omega) (by omega)]; omega)]
      · unfold FX7_stop
        rw [lT_eq, hs, e2, b1_some, if_neg (by decide), nd2, b1_some, if_pos (by rw [j_60, jI_eq (by omega) (by omega) (by omega) (by omega)]; omega)]
  · refine ⟨-101, M, o, ?_, ?_, Bq_up h⟩
    · unfold FX6_stop
      rw [e1, b1_some, if_pos rfl]
    · unfold FX7_stop
      rw [lT_eq, hs, e2, b1_some, if_pos rfl]
/-- is there room for a meeting -/
def Full (N : Nt) (kx ky : Nat) : Prop := sortS kx ky = 2 ∧ 58 < cnt N.1 60
theorem room {g o : Ob} {N : Nt} (hn : NB g o 0 6 N) (h4 : oV o 4 = 0) {x y kx ky : Nat} (hr : Redex N x y kx ky) (M : Nat → Ob) (hM : M 3 = g) : (Full N kx ky → FX6_hasRoomFor (jI x) M = some 0 ∧ FX7_isFull (jI x) o = some 1) ∧ (¬ Full N kx ky → FX6_hasRoomFor (jI x) M = some 1 ∧ FX7_isFull (jI x) o = some 0) := by
  have hms : MS 0 o N.1 N.2.1 N.2.2 := ⟨h4, hn.2.2.1⟩
  have hbd := RGr_bd hn.2.1
  have lt : ∀ m k, N.1 m = some k → m < 60 := fun m k hm => by
    rcases Nat.lt_or_ge m 60 with c | c
    · exact c
    · rw [hbd m c] at hm; cases hm
  have lx := lt x kx hr.1
  have ly := lt y ky hr.2.1
  have nd1 := RGr_6 hn.2.1
  have nd2 := MS_nodes (b := 0) (by omega) hms
  rw [cnt_60 hn.2.1] at nd2
  have cle := cnt_le N.1 60
  obtain ⟨T, t0, gK, gW, -⟩ := hn.2.1
  have k3x := gK.2.2.2.2 x kx hr.1
  have k3y := gK.2.2.2.2 y ky hr.2.1
  have kx' : FX2_kindOf 60 (jI x) g = some (jI kx) := by rw [s_kindOf (by omega) gK x (by omega), hr.1]; rfl
  have ky' : FX2_kindOf 60 (jI y) g = some (jI ky) := by rw [s_kindOf (by omega) gK y (by omega), hr.2.1]; rfl
  have pre : FX2_partnerOf 60 (jI x) g = some (jI y) := by
    have := s_partnerOf (by omega) gK gW (n := x) (q := (y, 0)) (by rw [hr.1]; exact fun z => by cases z) (by omega) hr.2.2
    rw [if_pos rfl] at this
    exact this
  have s1 : FX2_sortOf (jI kx) (jI ky) = some (jI (sortS kx ky)) := s_sortOf (by omega) (by omega)
  have s2 := m_sortOf (b := 0) (by omega) hms.1 hms.2.1 hms.2.2.1 hr.1 hr.2.1 (by omega) (by omega) hr.2.2
  have hs := sortS_in kx ky
  unfold FX6_hasRoomFor FX7_isFull
  rw [hM, kx', pre, s2, nd1, nd2]
  simp only [b1_some, ky', s1]
  refine ⟨fun hf => ⟨?_, ?_⟩, fun hf => ⟨?_, ?_⟩⟩
  · rw [if_pos (by rw [hf.1]; rfl), if_pos (by rw [j_60, j_2, jI_add, jI_lt (by omega) (by omega) (by omega) (by omega)]; have := hf.2; omega)]
  · rw [if_pos (by rw [hf.1]; rfl), if_neg (by rw [j_60, j_2, jI_add, jI_le (by omega) (by omega) (by omega) (by omega)]; have := hf.2; omega)]
  · by_cases c : sortS kx ky = 2
    · have : ¬ 58 < cnt N.1 60 := fun z => hf ⟨c, z⟩
      rw [if_pos (by rw [c]; rfl), if_neg (by rw [j_60, j_2, jI_add, jI_lt (by omega) (by omega) (by omega) (by omega)]; omega)]
    · rw [if_neg (by rw [j_2, jI_eq (by omega) (by omega) (by omega) (by omega)]; omega)]
  · by_cases c : sortS kx ky = 2
    · have : ¬ 58 < cnt N.1 60 := fun z => hf ⟨c, z⟩
      rw [if_pos (by rw [c]; rfl), if_pos (by rw [j_60, j_2, jI_add, jI_le (by omega) (by omega) (by omega) (by omega)]; omega)]
    · rw [if_neg (by rw [j_2, jI_eq (by omega) (by omega) (by omega) (by omega)]; omega)]
theorem one_meet {g o : Ob} {N : Nt} (hn : NB g o 0 6 N) (h4 : oV o 4 = 0) {x y kx ky : Nat} (hr : Redex N x y kx ky) (hf : ¬ Full N kx ky) : ∃ g' o1 N1, FX2_perform 60 (jI x) g = some (jI (sortS kx ky), g') ∧ FX7_meetNow (jI x) o = some (jI (sortS kx ky), o1) ∧ NB g' (sA o1 6 (sortS kx ky) (oA o1 6 (sortS kx ky) + 1)) 0 6 N1 ∧ Fq o (sA o1 6 (sortS kx ky) (oA o1 6 (sortS kx ky) + 1)) := by
  have hms : MS 0 o N.1 N.2.1 N.2.2 := ⟨h4, hn.2.2.1⟩
  have cle := cnt_le N.1 60
  obtain ⟨g', K', w', r', e1, hP, rg, hD⟩ := s_perform (N := 60) (by omega) hn.2.1 hn.1.1 hr.1 hr.2.1 hr.2.2 (fun z => by have : ¬ 58 < cnt N.1 60 := fun y => hf ⟨z, y⟩; omega)
  obtain ⟨o1, e2, m1, f1⟩ := MS_meetNow (b := 0) (by omega) hms hn.1.1 hr.1 hr.2.1 hr.2.2 hP (fun _ => by rw [cnt_60 hn.2.1]; omega)
  have hP' : Perf N.1 N.2.1 N.2.2 x y kx ky ((K', w', r') : Nt).1 ((K', w', r') : Nt).2.1 ((K', w', r') : Nt).2.2 := hP
  have r6 : oA o1 6 = oA o 6 := f1.2.2.2.2.1 6 (by omega) (by omega)
  have hs := sortS_in kx ky
  refine ⟨g', o1, (K', w', r'), e1, e2, ⟨Perf_Good hn.1 hr hP', rg, Sl_o m1.2 (sA_ne _ _ _ (by omega)) (sA_ne _ _ _ (by omega)) (sA_ne _ _ _ (by omega)) (sA_ne _ _ _ (by omega)), fun j h1 h2 => ?_, ?_⟩, Fq_tr (Fq_Fm f1) (Fq_6 o1 _ _)⟩
  · rw [hD.1 j, sA_rw, r6, hn.2.2.2.1 j h1 h2]
    by_cases c : j = sortS kx ky
    · rw [if_pos (Or.inr c), if_pos c, c]
    · rw [if_neg (by omega), if_neg c]
  · rw [hD.1 0, if_pos (Or.inl rfl), hn.2.2.2.2, sA_rw, sA_rw, sA_rw, r6]
    rcases hs with z | z | z <;> rw [z]
    · simp only [if_true]
      rw [if_neg (by omega), if_neg (by omega), Int32.add_assoc (oA o 6 1 + oA o 6 2), Int32.add_assoc (oA o 6 1), Int32.add_assoc (oA o 6 1 + 1), Int32.add_assoc (oA o 6 1), ← Int32.add_assoc (oA o 6 2), Int32.add_comm 1]
    · simp only [if_true]
      rw [if_neg (by omega), if_neg (by omega), Int32.add_assoc (oA o 6 1 + oA o 6 2), Int32.add_comm (oA o 6 3) 1, ← Int32.add_assoc, ← Int32.add_assoc]
    · simp only [if_true]
      rw [if_neg (by omega), if_neg (by omega), Int32.add_assoc]
end C4
