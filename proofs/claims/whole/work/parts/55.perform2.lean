theorem lf_lt {K : Kd} {a b v : Nat} (ha : lf K a) (hb : lf (ku K a (some v)) b) : a < b := by
  rcases Nat.lt_trichotomy a b with c | c | c
  · exact c
  · exact absurd c (fun e => (ku_none hb.1).1 e.symm)
  · exact absurd (ku_none hb.1).2 (ha.2 b c)
section GC
variable {N : Nat} {g : Ob} {K : Kd} {T : Nat} {w : Wr}
theorem RW_other {g g' : Ob} (h : RW N g w) (e : oA g' 1 = oA g 1) : RW N g' w := by
  refine ⟨fun p q hp => ?_, fun i hi hp => ?_⟩
  · rw [e]; exact h.1 p q hp
  · rw [e]; exact h.2 i hi hp
set_option maxHeartbeats 1000000 in
theorem s_copy {x y kx ky : Nat} (hN : N ≤ 1000) (h : RK N g (K00 K x y) T) (hW : RW N g (wA0 x y w)) (hF : WF K w) (hM : Mt (wA0 x y w)) {t a b c d : Nat} (ht : oV g 5 = jI t) (htk : t ≤ a) (hx : K x = some kx) (hy : K y = some ky) (hxy : x ≠ y) (hkx : kx ≠ 0) (hky : ky ≠ 0) (hkx3 : kx ≤ 3) (hky3 : ky ≤ 3) (ha : lf (K00 K x y) a) (hb : lf (ku (K00 K x y) a (some kx)) b) (hc : lf (ku (ku (K00 K x y) a (some kx)) b (some kx)) c) (hd : lf (ku (ku (ku (K00 K x y) a (some kx)) b (some kx)) c (some ky)) d) (haN : a < N) (hbN : b < N) (hcN : c < N) (hdN : d < N) : ∃ g' T', FX2_copyEachOther N (jI x) (jI kx) (jI y) (jI ky) g = some g' ∧ RK N g' (ku (ku (ku (ku (K00 K x y) a (some kx)) b (some kx)) c (some ky)) d (some ky)) T' ∧ RW N g' (wl (b, 2) (d, 2) (wl (b, 1) (c, 2) (wl (a, 2) (d, 1) (wl (a, 1) (c, 1) (wm (x, 2) (d, 0) (wm (x, 1) (c, 0) (wm (y, 2) (b, 0) (wm (y, 1) (a, 0) (wA0 x y w))))))))) ∧ oV g' 5 = jI (d + 1) ∧ oV g' 6 = oV g 6 + 1 + 1 + 1 + 1 ∧ (∀ j, j ≠ 4 → j ≠ 5 → j ≠ 6 → oV g' j = oV g j) ∧ ∀ j, j ≠ 0 → j ≠ 1 → oA g' j = oA g j := by
  have hab := lf_lt ha hb
  have hbc := lf_lt hb hc
  have hcd := lf_lt hc hd
  obtain ⟨g1, e1, r1, u1, v1, o1, p1⟩ := s_addNode (k := kx) hN h ht haN ha htk hkx3
  obtain ⟨g2, e2, r2, u2, v2, o2, p2⟩ := s_addNode (k := kx) (t := a + 1) hN r1 u1 hbN hb (by omega) hkx3
  obtain ⟨g3, e3, r3, u3, v3, o3, p3⟩ := s_addNode (k := ky) (t := b + 1) hN r2 u2 hcN hc (by omega) hky3
  obtain ⟨g4, e4, r4, u4, v4, o4, p4⟩ := s_addNode (k := ky) (t := c + 1) hN r3 u3 hdN hd (by omega) hky3
  have hW4 : RW N g4 (wA0 x y w) := RW_other hW (by rw [p4 1 (by omega), p3 1 (by omega), p2 1 (by omega), p1 1 (by omega)])
  -- free numbers
  have fb := (ku_none hb.1).2
  have fc := (ku_none (ku_none hc.1).2).2
  have fd := (ku_none (ku_none (ku_none hd.1).2).2).2
  have n0 : ∀ n, K00 K x y n = none → wA0 x y w (n, 0) = none := fun n hn => wA0_none hF hn (by omega) (Or.inr rfl)
  -- the four moves
  obtain ⟨q1, hq1⟩ := some_of (aux_some (x := x) (y := y) hF hy hky (s := 1) (Or.inl rfl))
  obtain ⟨g5, e5, b5, m5⟩ := b_move hN (BG_rf hW4) hM hq1 (vpn haN (by omega)) (n0 a ha.1)
  have s5 : ∀ r, r ≠ (y, 1) → wA0 x y w r ≠ none → wm (y, 1) (a, 0) (wA0 x y w) r ≠ none := fun r h1 h2 => wm_some hM hq1 (n0 a ha.1) h1 h2
  have z5 : ∀ r, r ≠ (a, 0) → (wA0 x y w r = none ∨ r = (y, 1)) → wm (y, 1) (a, 0) (wA0 x y w) r = none := fun r h1 h2 => wm_none hM hq1 (n0 a ha.1) h1 h2
  generalize wm (y, 1) (a, 0) (wA0 x y w) = w5 at b5 m5 s5 z5 ⊢
  obtain ⟨q2, hq2⟩ := some_of (s5 (y, 2) (pne (Or.inr (by omega))) (aux_some hF hy hky (Or.inr rfl)))
  have nb5 : w5 (b, 0) = none := z5 _ (pne (Or.inl (by omega))) (Or.inl (n0 b fb))
  obtain ⟨g6, e6, b6, m6⟩ := b_move hN b5 m5 hq2 (vpn hbN (by omega)) nb5
  have s6 : ∀ r, r ≠ (y, 1) → r ≠ (y, 2) → wA0 x y w r ≠ none → wm (y, 2) (b, 0) w5 r ≠ none := fun r h1 h2 h3 => wm_some m5 hq2 nb5 h2 (s5 r h1 h3)
  have z6 : ∀ r, r ≠ (a, 0) → r ≠ (b, 0) → (wA0 x y w r = none ∨ r = (y, 1) ∨ r = (y, 2)) → wm (y, 2) (b, 0) w5 r = none := fun r h1 h2 h3 => wm_none m5 hq2 nb5 h2 (h3.elim (fun z => Or.inl (z5 r h1 (Or.inl z))) (fun z => z.elim (fun z => Or.inl (z5 r h1 (Or.inr z))) (fun z => Or.inr z)))
  generalize wm (y, 2) (b, 0) w5 = w6 at b6 m6 s6 z6 ⊢
  obtain ⟨q3, hq3⟩ := some_of (s6 (x, 1) (pne (Or.inl hxy)) (pne (Or.inl hxy)) (aux_some hF hx hkx (Or.inl rfl)))
  have nc6 : w6 (c, 0) = none := z6 _ (pne (Or.inl (by omega))) (pne (Or.inl (by omega))) (Or.inl (n0 c fc))
  obtain ⟨g7, e7, b7, m7⟩ := b_move hN b6 m6 hq3 (vpn hcN (by omega)) nc6
  have s7 : wm (x, 1) (c, 0) w6 (x, 2) ≠ none := wm_some m6 hq3 nc6 (pne (Or.inr (by omega))) (s6 (x, 2) (pne (Or.inl hxy)) (pne (Or.inl hxy)) (aux_some hF hx hkx (Or.inr rfl)))
  have z7 : ∀ r, r ≠ (a, 0) → r ≠ (b, 0) → r ≠ (c, 0) → (wA0 x y w r = none ∨ r = (y, 1) ∨ r = (y, 2) ∨ r = (x, 1)) → wm (x, 1) (c, 0) w6 r = none := fun r h1 h2 h3 h4 => wm_none m6 hq3 nc6 h3 (h4.elim (fun z => Or.inl (z6 r h1 h2 (Or.inl z))) (fun z => z.elim (fun z => Or.inl (z6 r h1 h2 (Or.inr (Or.inl z)))) (fun z => z.elim (fun z => Or.inl (z6 r h1 h2 (Or.inr (Or.inr z)))) (fun z => Or.inr z))))
  generalize wm (x, 1) (c, 0) w6 = w7 at b7 m7 s7 z7 ⊢
  obtain ⟨q4, hq4⟩ := some_of s7
  have nd7 : w7 (d, 0) = none := z7 _ (pne (Or.inl (by omega))) (pne (Or.inl (by omega))) (pne (Or.inl (by omega))) (Or.inl (n0 d fd))
  obtain ⟨g8, e8, b8, m8⟩ := b_move hN b7 m7 hq4 (vpn hdN (by omega)) nd7
  have z8 : ∀ n s, s = 1 ∨ s = 2 → K00 K x y n = none → wm (x, 2) (d, 0) w7 (n, s) = none := by
    intro n s hs hn
    have hs0 : s ≠ 0 := by omega
    refine wm_none m7 hq4 nd7 (pne (Or.inr hs0)) ?_
    by_cases c1 : n = x ∧ s = 2
    · exact Or.inr (by rw [c1.1, c1.2])
    · refine Or.inl (z7 _ (pne (Or.inr hs0)) (pne (Or.inr hs0)) (pne (Or.inr hs0)) ?_)
      by_cases c2 : n = y
      · rcases hs with hs | hs
        · exact Or.inr (Or.inl (by rw [c2, hs]))
        · exact Or.inr (Or.inr (Or.inl (by rw [c2, hs])))
      · by_cases c3 : n = x
        · refine Or.inr (Or.inr (Or.inr ?_))
          rw [c3]
          have : s = 1 := by
            rcases hs with hs | hs
            · exact hs
            · exact absurd ⟨c3, hs⟩ c1
          rw [this]
        · exact Or.inl (wA0_none hF hn (by omega) (Or.inl ⟨c3, c2⟩))
  generalize wm (x, 2) (d, 0) w7 = w8 at b8 m8 z8 ⊢
  -- the four links
  have a1 := z8 a 1 (Or.inl rfl) ha.1
  have a2 := z8 a 2 (Or.inr rfl) ha.1
  have b1' := z8 b 1 (Or.inl rfl) fb
  have b2' := z8 b 2 (Or.inr rfl) fb
  have c1' := z8 c 1 (Or.inl rfl) fc
  have c2' := z8 c 2 (Or.inr rfl) fc
  have d1' := z8 d 1 (Or.inl rfl) fd
  have d2' := z8 d 2 (Or.inr rfl) fd
  obtain ⟨g9, e9, b9, m9⟩ := b_link hN b8 m8 (p := (a, 1)) (q := (c, 1)) (vpn haN (by omega)) (vpn hcN (by omega)) (pne (Or.inl (by omega))) a1 c1'
  obtain ⟨g10, e10, b10, m10⟩ := b_link hN b9 m9 (p := (a, 2)) (q := (d, 1)) (vpn haN (by omega)) (vpn hdN (by omega)) (pne (Or.inl (by omega))) (wl_none (pne (Or.inr (by omega))) (pne (Or.inl (by omega))) a2) (wl_none (pne (Or.inl (by omega))) (pne (Or.inl (by omega))) d1')
  obtain ⟨g11, e11, b11, m11⟩ := b_link hN b10 m10 (p := (b, 1)) (q := (c, 2)) (vpn hbN (by omega)) (vpn hcN (by omega)) (pne (Or.inl (by omega))) (wl_none (pne (Or.inl (by omega))) (pne (Or.inl (by omega))) (wl_none (pne (Or.inl (by omega))) (pne (Or.inl (by omega))) b1')) (wl_none (pne (Or.inl (by omega))) (pne (Or.inl (by omega))) (wl_none (pne (Or.inl (by omega))) (pne (Or.inr (by omega))) c2'))
  obtain ⟨g12, e12, b12, m12⟩ := b_link hN b11 m11 (p := (b, 2)) (q := (d, 2)) (vpn hbN (by omega)) (vpn hdN (by omega)) (pne (Or.inl (by omega))) (wl_none (pne (Or.inr (by omega))) (pne (Or.inl (by omega))) (wl_none (pne (Or.inl (by omega))) (pne (Or.inl (by omega))) (wl_none (pne (Or.inl (by omega))) (pne (Or.inl (by omega))) b2'))) (wl_none (pne (Or.inl (by omega))) (pne (Or.inl (by omega))) (wl_none (pne (Or.inl (by omega))) (pne (Or.inr (by omega))) (wl_none (pne (Or.inl (by omega))) (pne (Or.inl (by omega))) d2')))
  refine ⟨g12, _, ?_, b12.2.1 _ _ r4, b12.1, ?_, ?_, fun j h4 h5 h6 => ?_, fun j h0 h1 => ?_⟩
  · unfold FX2_copyEachOther
    rw [e1, b2_some, e2, b2_some, e3, b2_some, e4, b2_some]
    simp only [j_0, j_1, j_2, s_port0, s_port1, s_port2, b1_some, e5, e6, e7, e8, e9, e10, e11, e12]
  · rw [b12.2.2.1]; exact u4
  · rw [b12.2.2.1, v4, v3, v2, v1]
  · rw [b12.2.2.1, o4 j h4 h5 h6, o3 j h4 h5 h6, o2 j h4 h5 h6, o1 j h4 h5 h6]
  · rw [b12.2.2.2 j h1, p4 j h0, p3 j h0, p2 j h0, p1 j h0]
theorem s_vanish {x y kx : Nat} (hN : N ≤ 1000) (hW : RW N g (wA0 x y w)) (hF : WF K w) (hM : Mt (wA0 x y w)) (hx : K x = some kx) (hy : K y = some kx) (hxy : x ≠ y) (hkx : kx ≠ 0) {r : Nat} (hr : oV g 7 = jI r) {cr s1 s2 : Nat} (hcr : cr = if kx = 1 then 1 else 0) (h1 : s1 = if kx = 1 then 2 else 1) (h2 : s2 = if kx = 1 then 1 else 2) : ∃ g', FX2_vanish N (jI x) (jI y) (jI cr) g = some g' ∧ RW N g' (wf (x, 2) (y, s2) (wf (x, 1) (y, s1) (wA0 x y w))) ∧ (∀ K T, RK N g K T → RK N g' K T) ∧ oV g' 7 = jI (rf (x, 2) (y, s2) (wf (x, 1) (y, s1) (wA0 x y w)) (rf (x, 1) (y, s1) (wA0 x y w) r)) ∧ (∀ k, k ≠ 7 → oV g' k = oV g k) ∧ ∀ k, k ≠ 1 → oA g' k = oA g k := by
  have hs : (s1 = 1 ∧ s2 = 2 ∧ cr = 0) ∨ (s1 = 2 ∧ s2 = 1 ∧ cr = 1) := by
    by_cases c : kx = 1
    · rw [if_pos c] at hcr h1 h2; exact Or.inr ⟨h1, h2, hcr⟩
    · rw [if_neg c] at hcr h1 h2; exact Or.inl ⟨h1, h2, hcr⟩
  have hs1 : s1 = 1 ∨ s1 = 2 := by omega
  have hs2 : s2 = 1 ∨ s2 = 2 := by omega
  have hs12 : s1 ≠ s2 := by omega
  obtain ⟨a, ha⟩ := some_of (aux_some (x := x) (y := y) hF hx hkx (s := 1) (Or.inl rfl))
  obtain ⟨b, hb⟩ := some_of (aux_some (x := x) (y := y) hF hy hkx hs1)
  have hpq : ((x, 1) : Port) ≠ (y, s1) := pne (Or.inl hxy)
  have hab : a ≠ b := fun z => hpq (Option.some.inj ((hM _ _ ha).1.symm.trans (by rw [z]; exact (hM _ _ hb).1)))
  obtain ⟨g1, e1, w1, k1, r1, o1, p1⟩ := s_fuse hN hW ha hb hab (hM _ _ ha).1 r hr
  have m1 := Mt_wf hM ha hb hpq
  have key := fun q => wf_eq hM ha hb hpq q
  have some2 : ∀ q : Port, q ≠ (x, 1) → q ≠ (y, s1) → wA0 x y w q ≠ none → wf (x, 1) (y, s1) (wA0 x y w) q ≠ none := by
    intro q c1 c2 c3
    rw [key, if_neg (fun z => z.elim c1 c2)]
    by_cases d1 : wA0 x y w q = some (x, 1)
    · rw [if_pos d1]; exact fun z => by cases z
    · rw [if_neg d1]
      by_cases d2 : wA0 x y w q = some (y, s1)
      · rw [if_pos d2]; exact fun z => by cases z
      · rw [if_neg d2]; exact c3
  obtain ⟨a2, ha2⟩ := some_of (some2 (x, 2) (pne (Or.inr (by omega))) (pne (Or.inl hxy)) (aux_some hF hx hkx (Or.inr rfl)))
  obtain ⟨b2, hb2⟩ := some_of (some2 (y, s2) (pne (Or.inl (fun z => hxy z.symm))) (pne (Or.inr (fun z => hs12 z.symm))) (aux_some hF hy hkx hs2))
  have hpq2 : ((x, 2) : Port) ≠ (y, s2) := pne (Or.inl hxy)
  have hab2 : a2 ≠ b2 := fun z => hpq2 (Option.some.inj ((m1 _ _ ha2).1.symm.trans (by rw [z]; exact (m1 _ _ hb2).1)))
  obtain ⟨g2, e2, w2, k2, r2, o2, p2⟩ := s_fuse hN w1 ha2 hb2 hab2 (m1 _ _ ha2).1 _ r1
  refine ⟨g2, ?_, w2, fun K T hK => k2 K T (k1 K T hK), r2, fun k hk => (o2 k hk).trans (o1 k hk), fun k hk => (p2 k hk).trans (p1 k hk)⟩
  unfold FX2_vanish BX2_vanish_16
  rcases hs with ⟨rfl, rfl, rfl⟩ | ⟨rfl, rfl, rfl⟩
  · have z : jI ((0 : Nat) : Int) = 0 := rfl
    simp only [z, if_true, j_1, j_2, s_port1, s_port2, b1_some, e1, e2]
  · have z : ¬ jI ((1 : Nat) : Int) = 0 := by decide
    simp only [if_neg z, j_1, j_2, s_port1, s_port2, b1_some, e1, e2]
end GC
