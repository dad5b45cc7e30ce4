theorem sortS_in (kx ky : Nat) : sortS kx ky = 1 ∨ sortS kx ky = 2 ∨ sortS kx ky = 3 := by
  unfold sortS
  by_cases c : kx = ky
  · rw [if_pos c]; exact Or.inl rfl
  · rw [if_neg c]
    by_cases c2 : kx = 0 ∨ ky = 0
    · rw [if_pos c2]; exact Or.inr (Or.inr rfl)
    · rw [if_neg c2]; exact Or.inr (Or.inl rfl)
/-- one more of a sort -/
def dn (g : Ob) (s : Nat) : Ob := sA (sA g 3 s (oA g 3 s + jI 1)) 3 0 (oA (sA g 3 s (oA g 3 s + jI 1)) 3 0 + jI 1)
theorem s_tail {N s : Nat} {g : Ob} (hs : s = 1 ∨ s = 2 ∨ s = 3) : BX2_perform_122 N (jI s) g = some (jI s, dn g s) := by
  unfold BX2_perform_122 dn
  simp (disch := omega) only [j_0, j_1, j_2, j_3, j_4, j_5, j_6, j_7, j_8, j_10, j_16, j_31, j_32, j_39, j_60, j_80, j_126, j_180, j_539, j_540, j_900, j_999, j_1000, j_2000, jI_neg, jI_ofNat, jI_add, jI_sub, jI_mul, jI_lt, jI_le, jI_eq, jI_inb, jI_cl, Int.toNat_natCast, if_pos, if_neg, lT_eq, b1_some, b2_some, b3_some]
  simp
theorem dn_3 {g : Ob} {s : Nat} (hs : s = 1 ∨ s = 2 ∨ s = 3) (j : Nat) : oA (dn g s) 3 j = if j = 0 ∨ j = s then oA g 3 j + 1 else oA g 3 j := by
  unfold dn
  rw [j_1, oA_sA]
  by_cases c0 : j = 0
  · subst c0
    rw [if_pos ⟨rfl, rfl⟩, if_pos (Or.inl rfl), oA_sA, if_neg (by omega)]
  · rw [if_neg (fun z => c0 z.2), oA_sA]
    by_cases c1 : j = s
    · subst c1
      rw [if_pos ⟨rfl, rfl⟩, if_pos (Or.inr rfl)]
    · rw [if_neg (fun z => c1 z.2), if_neg (fun z => z.elim c0 c1)]
theorem dn_o {g : Ob} {s k : Nat} (hk : k ≠ 3) : oA (dn g s) k = oA g k := by
  unfold dn
  funext i
  rw [oA_sA, if_neg (fun z => hk z.1), oA_sA, if_neg (fun z => hk z.1)]
theorem dn_v {g : Ob} {s k : Nat} : oV (dn g s) k = oV g k := rfl
theorem RK_o {N : Nat} {g g' : Ob} {K : Kd} {T : Nat} (h : RK N g K T) (h0 : oA g' 0 = oA g 0) (h4 : oV g' 4 = oV g 4) : RK N g' K T := by
  obtain ⟨a, b, c, d, e⟩ := h
  exact ⟨h4.trans a, b, fun n hn => by rw [h0]; exact c n hn, d, e⟩
theorem jI_s1 {a : Nat} (h : 1 ≤ a) : jI a - 1 = jI ((a - 1 : Nat)) := by
  rw [j_1, jI_sub]
  congr 1
  omega
theorem jI_p1 (a : Nat) : jI a + 1 = jI ((a + 1 : Nat)) := by
  rw [j_1, jI_add]
  rfl
section GD
variable {N : Nat} {g : Ob} {K : Kd} {w : Wr} {r : Nat}
/-- how a meeting counts -/
def Dn (g g' : Ob) (s : Nat) : Prop := (∀ j, oA g' 3 j = if j = 0 ∨ j = s then oA g 3 j + 1 else oA g 3 j) ∧ oA g' 2 = oA g 2 ∧ oV g' 8 = oV g 8 ∧ oV g' 9 = oV g 9
set_option maxHeartbeats 1000000 in
theorem s_perform (hN : N ≤ 1000) (hG : RGr N g K w r) (hF : WF K w) {x y kx ky : Nat} (hx : K x = some kx) (hy : K y = some ky) (hq : w (x, 0) = some (y, 0)) (hroom : sortS kx ky = 2 → cnt K N + 2 ≤ N) : ∃ g' K' w' r', FX2_perform N (jI x) g = some (jI (sortS kx ky), g') ∧ Perf K w r x y kx ky K' w' r' ∧ RGr N g' K' w' r' ∧ Dn g g' (sortS kx ky) := by
  obtain ⟨T, t, hK, hW, hr, ht, htk, hc⟩ := hG
  have hM := hF.1
  obtain ⟨hqy, hne⟩ := hM _ _ hq
  have hxy : x ≠ y := fun z => hne (by rw [z])
  have lt_T : ∀ n k, K n = some k → n < T := fun n k hn => by
    rcases Nat.lt_or_ge n T with c | c
    · exact c
    · rw [hK.2.2.2.1 n c] at hn; cases hn
  have hTN := hK.2.1
  have hxT := lt_T x kx hx
  have hyT := lt_T y ky hy
  have hkx3 := hK.2.2.2.2 x kx hx
  have hky3 := hK.2.2.2.2 y ky hy
  have htT : t ≤ T := by
    rcases Nat.lt_or_ge T t with c | c
    · exact absurd (hK.2.2.2.1 T (Nat.le_refl T)) (htk T c)
    · exact c
  have hcN := cnt_le K N
  have hc1 := cnt_del (K := K) (x := x) (by rw [hx]; exact fun z => by cases z) (n := N) (by omega)
  have hyK1 : ku K x none y = some ky := by
    unfold ku
    rw [if_neg (fun z => hxy z.symm)]
    exact hy
  have hc2 := cnt_del (K := ku K x none) (x := y) (by rw [hyK1]; exact fun z => by cases z) (n := N) (by omega)
  -- heads away, nodes away
  have vx : vp N (x, 0) := vpn (by omega) (by omega)
  have vy : vp N (y, 0) := vpn (by omega) (by omega)
  have W1 := RW_wv (RW_wv hW vx) vy
  have K1 := RK_sA1 (RK_sA1 hK (cp (x, 0)) (jI (-1))) (cp (y, 0)) (jI (-1))
  have E1 : FX2_vacate N (jI (cp (x, 0))) g = some (sA g 1 (cp (x, 0)) (jI (-1))) := s_vacate hN vx
  have E2 : FX2_vacate N (jI (cp (y, 0))) (sA g 1 (cp (x, 0)) (jI (-1))) = some (sA (sA g 1 (cp (x, 0)) (jI (-1))) 1 (cp (y, 0)) (jI (-1))) := s_vacate hN vy
  have o2v : ∀ k, oV (sA (sA g 1 (cp (x, 0)) (jI (-1))) 1 (cp (y, 0)) (jI (-1))) k = oV g k := fun _ => rfl
  have o2a : ∀ k, k ≠ 1 → oA (sA (sA g 1 (cp (x, 0)) (jI (-1))) 1 (cp (y, 0)) (jI (-1))) k = oA g k := fun k hk => by
    funext i
    rw [oA_sA, if_neg (fun z => hk z.1), oA_sA, if_neg (fun z => hk z.1)]
  generalize sA (sA g 1 (cp (x, 0)) (jI (-1))) 1 (cp (y, 0)) (jI (-1)) = g2 at W1 K1 E2 o2v o2a
  obtain ⟨g3, E3, K3, t3, c3, v3, a3⟩ := s_remove hN K1 (n := x) ((o2v 5).trans ht) (by omega) hx
  obtain ⟨g4, E4, K4, t4, c4, v4, a4⟩ := s_remove hN K3 (n := y) t3 (by omega) hyK1
  have W4 : RW N g4 (wA0 x y w) := RW_other W1 (by rw [a4 1 (by omega), a3 1 (by omega)])
  have M4 : Mt (wA0 x y w) := Mt_cut hM hq
  have r4 : oV g4 7 = jI r := by rw [v4 7 (by omega) (by omega), v3 7 (by omega) (by omega), o2v]; exact hr
  have n4 : oV g4 6 = jI (cnt (K00 K x y) N) := by
    rw [c4, c3, o2v, hc, jI_s1 (by omega), jI_s1 (by omega)]
    congr 2
    show _ = cnt (ku (ku K x none) y none) N
    omega
  have tk4 : ∀ n, n < min y (min x t) → K00 K x y n ≠ none := by
    intro n hn
    unfold K00 ku
    rw [if_neg (by omega), if_neg (by omega)]
    exact htk n (by omega)
  have rest4 : oA g4 2 = oA g 2 ∧ oA g4 3 = oA g 3 ∧ oV g4 8 = oV g 8 ∧ oV g4 9 = oV g 9 := ⟨by rw [a4 2 (by omega), a3 2 (by omega), o2a 2 (by omega)], by rw [a4 3 (by omega), a3 3 (by omega), o2a 3 (by omega)], by rw [v4 8 (by omega) (by omega), v3 8 (by omega) (by omega), o2v], by rw [v4 9 (by omega) (by omega), v3 9 (by omega) (by omega), o2v]⟩
  have le_lf : ∀ a, lf (K00 K x y) a → min y (min x t) ≤ a := fun a ha => by
    rcases Nat.lt_or_ge a (min y (min x t)) with c | c
    · exact absurd ha.1 (tk4 a c)
    · exact c
  have pre : FX2_partnerOf N (jI x) g = some (jI y) := by
    have := s_partnerOf hN hK hW (n := x) (q := (y, 0)) (by rw [hx]; exact fun z => by cases z) (by omega) hq
    rw [if_pos rfl] at this
    exact this
  have hneg : ¬ jI (y : Int) = (-1 : Int32) := by
    rw [j_m1, jI_eq (by omega) (by omega) (by omega) (by omega)]
    omega
  have kx' : FX2_kindOf N (jI x) g = some (jI kx) := by rw [s_kindOf hN hK x (by omega), hx]; rfl
  have ky' : FX2_kindOf N (jI y) g = some (jI ky) := by rw [s_kindOf hN hK y (by omega), hy]; rfl
  have hs := sortS_in kx ky
  have fin : ∀ (g5 : Ob) (K' : Kd) (w' : Wr) (r' T' t' : Nat), RK N g5 K' T' → RW N g5 w' → oV g5 7 = jI r' → oV g5 5 = jI t' → (∀ n, n < t' → K' n ≠ none) → oV g5 6 = jI (cnt K' N) → (oA g5 2 = oA g 2 ∧ oA g5 3 = oA g 3 ∧ oV g5 8 = oV g 8 ∧ oV g5 9 = oV g 9) → RGr N (dn g5 (sortS kx ky)) K' w' r' ∧ Dn g (dn g5 (sortS kx ky)) (sortS kx ky) := by
    intro g5 K' w' r' T' t' h1 h2 h3 h4 h5 h6 h7
    refine ⟨⟨T', t', RK_o h1 (dn_o (by omega)) rfl, RW_other h2 (dn_o (by omega)), h3, h4, h5, h6⟩, fun j => ?_, ?_, h7.2.2.1, h7.2.2.2⟩
    · rw [dn_3 hs j, h7.2.1]
    · rw [dn_o (by omega)]; exact h7.1
  have unf : ∀ res, (if jI (sortS kx ky : Nat) = (2 : Int32) then b1 (FX2_copyEachOther N (jI x) (jI kx) (jI y) (jI ky) g4) fun o0_21 => BX2_perform_122 N (jI (sortS kx ky : Nat)) o0_21 else if jI (sortS kx ky : Nat) = (3 : Int32) then (if jI (kx : Nat) = 0 then b1 (FX2_eat N (jI y) g4) fun o0_30 => BX2_perform_122 N (jI (sortS kx ky : Nat)) o0_30 else b1 (FX2_eat N (jI x) g4) fun o0_32 => BX2_perform_122 N (jI (sortS kx ky : Nat)) o0_32) else if jI (kx : Nat) = 0 then BX2_perform_122 N (jI (sortS kx ky : Nat)) g4 else if jI (kx : Nat) = (1 : Int32) then b1 (FX2_vanish N (jI x) (jI y) (1 : Int32) g4) fun o0_35 => BX2_perform_122 N (jI (sortS kx ky : Nat)) o0_35 else b1 (FX2_vanish N (jI x) (jI y) (0 : Int32) g4) fun o0_37 => BX2_perform_122 N (jI (sortS kx ky : Nat)) o0_37) = res → FX2_perform N (jI x) g = res := by
    intro res hres
    rw [← hres]
    unfold FX2_perform
    rw [pre, b1_some, if_neg hneg, kx', b1_some, ky', b1_some, s_sortOf (by omega) (by omega), b1_some]
    simp only [j_0, s_port0, b1_some, E1, E2, E3, E4]
  by_cases c1 : kx = ky
  · subst c1
    have hs1 : sortS kx kx = 1 := by unfold sortS; rw [if_pos rfl]
    by_cases c0 : kx = 0
    · subst c0
      refine ⟨dn g4 (sortS 0 0), K00 K x y, wA0 x y w, r, unf _ ?_, Or.inl ⟨rfl, rfl, rfl, rfl, rfl⟩, fin g4 _ _ _ _ _ K4 W4 r4 t4 tk4 n4 rest4⟩
      rw [hs1]
      simp (disch := omega) only [j_0, j_1, j_2, j_3, j_4, j_5, j_6, j_7, j_8, j_10, j_16, j_31, j_32, j_39, j_60, j_80, j_126, j_180, j_539, j_540, j_900, j_999, j_1000, j_2000, jI_neg, jI_ofNat, jI_add, jI_sub, jI_mul, jI_lt, jI_le, jI_eq, jI_inb, jI_cl, Int.toNat_natCast, if_pos, if_neg, lT_eq, b1_some, b2_some, b3_some]
      exact s_tail (Or.inl rfl)
    · obtain ⟨g5, e5, w5, k5, r5, v5, a5⟩ := s_vanish hN W4 hF M4 hx hy hxy c0 r4 rfl rfl rfl
      refine ⟨dn g5 (sortS kx kx), K00 K x y, _, _, unf _ ?_, Or.inr (Or.inl ⟨rfl, c0, _, _, rfl, rfl, rfl, rfl, rfl⟩), fin g5 _ _ _ T _ (k5 _ _ K4) w5 r5 ((v5 5 (by omega)).trans t4) tk4 ((v5 6 (by omega)).trans n4) ⟨(a5 2 (by omega)).trans rest4.1, (a5 3 (by omega)).trans rest4.2.1, (v5 8 (by omega)).trans rest4.2.2.1, (v5 9 (by omega)).trans rest4.2.2.2⟩⟩
      rw [hs1]
      by_cases c2 : kx = 1
      · subst c2
        rw [if_pos rfl] at e5
        simp (disch := omega) only [j_0, j_1, j_2, j_3, j_4, j_5, j_6, j_7, j_8, j_10, j_16, j_31, j_32, j_39, j_60, j_80, j_126, j_180, j_539, j_540, j_900, j_999, j_1000, j_2000, jI_neg, jI_ofNat, jI_add, jI_sub, jI_mul, jI_lt, jI_le, jI_eq, jI_inb, jI_cl, Int.toNat_natCast, if_pos, if_neg, lT_eq, b1_some, b2_some, b3_some]
        rw [show jI ((1 : Nat) : Int) = jI 1 from rfl] at e5
        rw [show jI ((1 : Nat) : Int) = jI 1 from rfl]
        rw [e5, b1_some]
        exact s_tail (Or.inl rfl)
      · rw [if_neg c2] at e5
        simp (disch := omega) only [j_0, j_1, j_2, j_3, j_4, j_5, j_6, j_7, j_8, j_10, j_16, j_31, j_32, j_39, j_60, j_80, j_126, j_180, j_539, j_540, j_900, j_999, j_1000, j_2000, jI_neg, jI_ofNat, jI_add, jI_sub, jI_mul, jI_lt, jI_le, jI_eq, jI_inb, jI_cl, Int.toNat_natCast, if_pos, if_neg, lT_eq, b1_some, b2_some, b3_some]
        rw [show jI ((0 : Nat) : Int) = jI 0 from rfl] at e5
        rw [e5, b1_some]
        exact s_tail (Or.inl rfl)
  · by_cases c2 : kx = 0 ∨ ky = 0
    · have hs3 : sortS kx ky = 3 := by unfold sortS; rw [if_neg c1, if_pos c2]
      obtain ⟨a, haN, ha⟩ := lf_ex (K := K00 K x y) (n := N) (by show cnt (ku (ku K x none) y none) N < N; omega)
      have hca := cnt_add (K := K00 K x y) (x := a) (k := 0) ha.1 haN
      obtain ⟨b, hbN, hb⟩ := lf_ex (K := ku (K00 K x y) a (some 0)) (n := N) (by
        rw [hca]
        have : cnt (K00 K x y) N = cnt (ku (ku K x none) y none) N := rfl
        omega)
      have hcb := cnt_add (K := ku (K00 K x y) a (some 0)) (x := b) (k := 0) hb.1 hbN
      have hz : ∃ z kz, z = (if kx = 0 then y else x) ∧ K z = some kz ∧ kz ≠ 0 ∧ z < N := by
        by_cases c3 : kx = 0
        · exact ⟨y, ky, by rw [if_pos c3], hy, by omega, by omega⟩
        · exact ⟨x, kx, by rw [if_neg c3], hx, c3, by omega⟩
      obtain ⟨z, kz, hz1, hz2, hz3, hz4⟩ := hz
      obtain ⟨g5, T5, e5, k5, w5, t5, n5, v5, a5⟩ := s_eat (x := x) (y := y) hN K4 W4 hF M4 t4 (le_lf a ha) hz2 hz3 ha hb haN hbN hz4
      refine ⟨dn g5 (sortS kx ky), _, _, r, unf _ ?_, Or.inr (Or.inr (Or.inl ⟨c1, c2, z, a, b, hz1, ha, hb, rfl, rfl, rfl⟩)), fin g5 _ _ _ _ (b + 1) k5 w5 ((v5 7 (by omega) (by omega) (by omega)).trans r4) t5 (fun n hn => ?_) ?_ ⟨(a5 2 (by omega) (by omega)).trans rest4.1, (a5 3 (by omega) (by omega)).trans rest4.2.1, (v5 8 (by omega) (by omega) (by omega)).trans rest4.2.2.1, (v5 9 (by omega) (by omega) (by omega)).trans rest4.2.2.2⟩⟩
      · rw [hs3]
        by_cases c3 : kx = 0
        · rw [if_pos c3] at hz1
          subst hz1
          simp (disch := omega) only [j_0, j_1, j_2, j_3, j_4, j_5, j_6, j_7, j_8, j_10, j_16, j_31, j_32, j_39, j_60, j_80, j_126, j_180, j_539, j_540, j_900, j_999, j_1000, j_2000, jI_neg, jI_ofNat, jI_add, jI_sub, jI_mul, jI_lt, jI_le, jI_eq, jI_inb, jI_cl, Int.toNat_natCast, if_pos, if_neg, lT_eq, b1_some, b2_some, b3_some]
          rw [e5, b1_some]
          exact s_tail (Or.inr (Or.inr rfl))
        · rw [if_neg c3] at hz1
          subst hz1
          simp (disch := omega) only [j_0, j_1, j_2, j_3, j_4, j_5, j_6, j_7, j_8, j_10, j_16, j_31, j_32, j_39, j_60, j_80, j_126, j_180, j_539, j_540, j_900, j_999, j_1000, j_2000, jI_neg, jI_ofNat, jI_add, jI_sub, jI_mul, jI_lt, jI_le, jI_eq, jI_inb, jI_cl, Int.toNat_natCast, if_pos, if_neg, lT_eq, b1_some, b2_some, b3_some]
          rw [e5, b1_some]
          exact s_tail (Or.inr (Or.inr rfl))
      · unfold ku
        by_cases d1 : n = b
        · rw [if_pos d1]; exact fun z => by cases z
        · rw [if_neg d1]
          exact hb.2 n (by omega)
      · rw [n5, n4, jI_p1, jI_p1, hcb, hca]
    · have hs2 : sortS kx ky = 2 := by unfold sortS; rw [if_neg c1, if_neg c2]
      have hr2 := hroom hs2
      have q0 : cnt (K00 K x y) N + 2 = cnt K N := by
        show cnt (ku (ku K x none) y none) N + 2 = cnt K N
        omega
      obtain ⟨a, haN, ha⟩ := lf_ex (K := K00 K x y) (n := N) (by omega)
      have hca := cnt_add (K := K00 K x y) (x := a) (k := kx) ha.1 haN
      obtain ⟨b, hbN, hb⟩ := lf_ex (K := ku (K00 K x y) a (some kx)) (n := N) (by omega)
      have hcb := cnt_add (K := ku (K00 K x y) a (some kx)) (x := b) (k := kx) hb.1 hbN
      obtain ⟨c, hcN2, hc'⟩ := lf_ex (K := ku (ku (K00 K x y) a (some kx)) b (some kx)) (n := N) (by omega)
      have hcc := cnt_add (K := ku (ku (K00 K x y) a (some kx)) b (some kx)) (x := c) (k := ky) hc'.1 hcN2
      obtain ⟨d, hdN, hd⟩ := lf_ex (K := ku (ku (ku (K00 K x y) a (some kx)) b (some kx)) c (some ky)) (n := N) (by omega)
      have hcd := cnt_add (K := ku (ku (ku (K00 K x y) a (some kx)) b (some kx)) c (some ky)) (x := d) (k := ky) hd.1 hdN
      obtain ⟨g5, T5, e5, k5, w5, t5, n5, v5, a5⟩ := s_copy (x := x) (y := y) (kx := kx) (ky := ky) hN K4 W4 hF M4 t4 (le_lf a ha) hx hy hxy (by omega) (by omega) hkx3 hky3 ha hb hc' hd haN hbN hcN2 hdN
      refine ⟨dn g5 (sortS kx ky), _, _, r, unf _ ?_, Or.inr (Or.inr (Or.inr ⟨c1, by omega, by omega, a, b, c, d, ha, hb, hc', hd, rfl, rfl, rfl⟩)), fin g5 _ _ _ _ (d + 1) k5 w5 ((v5 7 (by omega) (by omega) (by omega)).trans r4) t5 (fun n hn => ?_) ?_ ⟨(a5 2 (by omega) (by omega)).trans rest4.1, (a5 3 (by omega) (by omega)).trans rest4.2.1, (v5 8 (by omega) (by omega) (by omega)).trans rest4.2.2.1, (v5 9 (by omega) (by omega) (by omega)).trans rest4.2.2.2⟩⟩
      · rw [hs2]
        simp (disch := omega) only [j_0, j_1, j_2, j_3, j_4, j_5, j_6, j_7, j_8, j_10, j_16, j_31, j_32, j_39, j_60, j_80, j_126, j_180, j_539, j_540, j_900, j_999, j_1000, j_2000, jI_neg, jI_ofNat, jI_add, jI_sub, jI_mul, jI_lt, jI_le, jI_eq, jI_inb, jI_cl, Int.toNat_natCast, if_pos, if_neg, lT_eq, b1_some, b2_some, b3_some]
        rw [e5, b1_some]
        exact s_tail (Or.inr (Or.inl rfl))
      · by_cases d1 : n = d
        · unfold ku
          rw [if_pos d1]; exact fun z => by cases z
        · have := hd.2 n (by omega)
          show ku (ku (ku (ku (K00 K x y) a (some kx)) b (some kx)) c (some ky)) d (some ky) n ≠ none
          rw [show ku (ku (ku (ku (K00 K x y) a (some kx)) b (some kx)) c (some ky)) d (some ky) n = ku (ku (ku (K00 K x y) a (some kx)) b (some kx)) c (some ky) n from by
            show (if n = d then _ else _) = _
            rw [if_neg d1]]
          exact this
      · rw [n5, n4, jI_p1, jI_p1, jI_p1, jI_p1, hcd, hcc, hcb, hca]
end GD
