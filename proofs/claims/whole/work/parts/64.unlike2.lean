/-! the reference's meetUnlike, meetEnd -/
section MU
variable {b : Nat} {o : Ob} {K : Kd} {w : Wr} {r : Nat}
set_option maxHeartbeats 1000000 in
theorem MS_unlike (hb : b < 4) (h : MS b o K w r) (hF : WF K w) {x y kx ky n0 n1 n2 n3 : Nat} (hx : K x = some kx) (hy : K y = some ky) (hxy : x ≠ y) (hq : w (x, 0) = some (y, 0)) (hkx : kx ≠ 0) (hky : ky ≠ 0) (ha : lf (K00 K x y) n0) (hb' : lf (ku (K00 K x y) n0 (some kx)) n1) (hc : lf (ku (ku (K00 K x y) n0 (some kx)) n1 (some kx)) n2) (hd : lf (ku (ku (ku (K00 K x y) n0 (some kx)) n1 (some kx)) n2 (some ky)) n3) (l0 : n0 < 180) (l1 : n1 < 180) (l2 : n2 < 180) (l3 : n3 < 180) : ∃ o', FX7_meetUnlike (jI x) (jI y) o = some o' ∧ MS b o' (ku (ku (ku (ku (K00 K x y) n0 (some kx)) n1 (some kx)) n2 (some ky)) n3 (some ky)) (wl (n1, 2) (n3, 2) (wl (n1, 1) (n2, 2) (wl (n0, 2) (n3, 1) (wl (n0, 1) (n2, 1) (wm (x, 2) (n3, 0) (wm (x, 1) (n2, 0) (wm (y, 2) (n1, 0) (wm (y, 1) (n0, 0) (wA0 x y w))))))))) r ∧ Fm b o o' := by
  have hM := hF.1
  have lt180 : ∀ n k, K n = some k → n < 180 := fun n k hn => by
    rcases Nat.lt_or_ge n 180 with c | c
    · exact c
    · rw [h.2.1.2.1 n c] at hn; cases hn
  have hx180 := lt180 x kx hx
  have hy180 := lt180 y ky hy
  have k3x := h.2.1.2.2 x kx hx
  have k3y := h.2.1.2.2 y ky hy
  have hab := lf_lt ha hb'
  have hbc := lf_lt hb' hc
  have hcd := lf_lt hc hd
  have fb := (ku_none hb'.1).2
  have fc := (ku_none (ku_none hc.1).2).2
  have fd := (ku_none (ku_none (ku_none hd.1).2).2).2
  have M4 : Mt (wA0 x y w) := Mt_cut hM hq
  obtain ⟨A0, a0⟩ := some_of (aux_some (x := x) (y := y) hF hx hkx (s := 1) (Or.inl rfl))
  obtain ⟨A1, a1⟩ := some_of (aux_some (x := x) (y := y) hF hx hkx (s := 2) (Or.inr rfl))
  obtain ⟨A2, a2⟩ := some_of (aux_some (x := x) (y := y) hF hy hky (s := 1) (Or.inl rfl))
  obtain ⟨A3, a3⟩ := some_of (aux_some (x := x) (y := y) hF hy hky (s := 2) (Or.inr rfl))
  have N0 : ∀ n, K00 K x y n = none → wA0 x y w (n, 0) = none := fun n hn => wA0_none hF hn (by omega) (Or.inr rfl)
  have conv : ∀ n s, s ≠ 0 → wA0 x y w (n, s) = w (n, s) := fun n s hs => wA0_same (pne (Or.inr hs)) (pne (Or.inr hs))
  -- the scratch
  obtain ⟨u, e1, m1, f1, -, sc⟩ := MS_layPorts hb h hx180 hy180 hxy
  obtain ⟨o2, e2, m2, f2, s2⟩ := MS_vanish hb m1 hx180
  obtain ⟨o3, e3, m3, f3, s3⟩ := MS_vanish hb m2 hy180
  obtain ⟨o4, e4, m4, f4', s4⟩ := MS_made (k := kx) hb m3 l0 ha k3x
  have m5 := MS_sc (k := 17) (i := 2) (v := jI n0) m4 (by omega)
  obtain ⟨o6, e6, m6, f6, s6⟩ := MS_made (k := kx) hb m5 l1 hb' k3x
  have m7 := MS_sc (k := 17) (i := 3) (v := jI n1) m6 (by omega)
  obtain ⟨o8, e8, m8, f8, s8⟩ := MS_made (k := ky) hb m7 l2 hc k3y
  have m9 := MS_sc (k := 17) (i := 0) (v := jI n2) m8 (by omega)
  obtain ⟨o10, e10, m10, f10, s10⟩ := MS_made (k := ky) hb m9 l3 hd k3y
  have m11 := MS_sc (k := 17) (i := 1) (v := jI n3) m10 (by omega)
  have F11 : Fm b o (sA o10 17 1 (jI n3)) := Fm_tr (Fm_tr (Fm_tr (Fm_tr (Fm_tr (Fm_tr (Fm_tr (Fm_tr (Fm_tr (Fm_tr f1 f2) f3) f4') (Fm_sc (by omega))) f6) (Fm_sc (by omega))) f8) (Fm_sc (by omega))) f10) (Fm_sc (by omega))
  have s14 : ∀ k, k = 14 ∨ k = 15 → oA (sA o10 17 1 (jI n3)) k = oA u k := by
    intro k hk
    funext i
    rw [oA_sA, if_neg (by omega), s10 k (by omega), oA_sA, if_neg (by omega), s8 k (by omega), oA_sA, if_neg (by omega), s6 k (by omega), oA_sA, if_neg (by omega), s4 k (by omega), s3 k (by omega), s2 k (by omega)]
  let fr : Nat → Nat := fun k => if k = 0 then n2 else if k = 1 then n3 else if k = 2 then n0 else n1
  have s17 : ∀ k, k < 4 → oA (sA o10 17 1 (jI n3)) 17 k = jI (fr k) := by
    intro k hk
    rw [oA_sA, s10 17 (by omega), oA_sA, s8 17 (by omega), oA_sA, s6 17 (by omega), oA_sA]
    rcases (show k = 0 ∨ k = 1 ∨ k = 2 ∨ k = 3 by omega) with rfl | rfl | rfl | rfl <;> simp [fr]
  have unf : FX7_meetUnlike (jI x) (jI y) o = LX7_meetUnlike_78 (fun o0_43 => LX7_meetUnlike_141 fu (0 : Int32) o0_43) fu (0 : Int32) (sA o10 17 1 (jI n3)) := by
    have t2 : (2 : Int32).toNatClampNeg = 2 := rfl
    have t3 : (3 : Int32).toNatClampNeg = 3 := rfl
    have t0 : (0 : Int32).toNatClampNeg = 0 := rfl
    have t1 : (1 : Int32).toNatClampNeg = 1 := rfl
    have kx' : FX7_kindOf (jI x) u = some (jI kx) := by rw [m_kindOf hb m1.1 m1.2.1 hx180, hx]; rfl
    have ky' : FX7_kindOf (jI y) u = some (jI ky) := by rw [m_kindOf hb m1.1 m1.2.1 hy180, hy]; rfl
    unfold FX7_meetUnlike
    rw [e1, b1_some, kx', b1_some, ky', b1_some, e2, b1_some, e3, b1_some, e4, b2_some, lT_eq, t2, e6, b2_some, lT_eq, t3, e8, b2_some, lT_eq, t0, e10, b2_some, lT_eq, t1]
  rw [unf]
  generalize sA o10 17 1 (jI n3) = o11 at m11 F11 s14 s17 ⊢
  clear e1 m1 f1 e2 m2 f2 s2 e3 m3 f3 s3 e4 m4 f4' s4 m5 e6 m6 f6 s6 m7 e8 m8 f8 s8 m9 e10 m10 f10 s10 unf
  -- the four heads
  let A : Nat → Port := fun k => if k = 0 then A0 else if k = 1 then A1 else if k = 2 then A2 else A3
  have hA : ∀ k, k < 4 → wA0 x y w (PP x y k) = some (A k) := by
    intro k hk
    rcases (show k = 0 ∨ k = 1 ∨ k = 2 ∨ k = 3 by omega) with rfl | rfl | rfl | rfl
    · exact a0
    · exact a1
    · exact a2
    · exact a3
  have hA' : ∀ k, k < 4 → w (PP x y k) = some (A k) := fun k hk => by
    rw [← hA k hk]
    unfold PP
    exact (conv _ _ (by omega)).symm
  have fr0 : ∀ k, k < 4 → K00 K x y (fr k) = none ∧ fr k < 180 := by
    intro k hk
    rcases (show k = 0 ∨ k = 1 ∨ k = 2 ∨ k = 3 by omega) with rfl | rfl | rfl | rfl
    · exact ⟨fc, l2⟩
    · exact ⟨fd, l3⟩
    · exact ⟨ha.1, l0⟩
    · exact ⟨fb, l1⟩
  have frd : ∀ k e, k < 4 → e < 4 → k ≠ e → fr k ≠ fr e := by
    intro k e hk he hne
    rcases (show k = 0 ∨ k = 1 ∨ k = 2 ∨ k = 3 by omega) with rfl | rfl | rfl | rfl <;> rcases (show e = 0 ∨ e = 1 ∨ e = 2 ∨ e = 3 by omega) with rfl | rfl | rfl | rfl <;> simp [fr] <;> omega
  have sc' : ∀ k, k < 4 → oA o11 14 k = jI (mp (A k)) ∧ (∀ e, e < 4 → A k = PP x y e → oA o11 15 k = jI e) ∧ ((∀ e, e < 4 → A k ≠ PP x y e) → oA o11 15 k = jI (-1)) := fun k hk => by
    rw [s14 14 (Or.inl rfl), s14 15 (Or.inr rfl)]
    exact sc k (A k) hk (hA' k hk)
  let G : Nat → Port := fun k => f4 (PP x y 0) (PP x y 1) (PP x y 2) (PP x y 3) (n2, 0) (n3, 0) (n0, 0) (n1, 0) (A k)
  have Pd : ∀ e e', e < 4 → e' < 4 → PP x y e = PP x y e' → e = e' := by
    intro e e' h1 h2 h3
    unfold PP at h3
    have h4 := congrArg Prod.fst h3
    have h5 := congrArg Prod.snd h3
    simp only at h4 h5
    by_cases c1 : e < 2 <;> by_cases c2 : e' < 2
    · omega
    · rw [if_pos c1, if_neg c2] at h4; exact absurd h4 hxy
    · rw [if_neg c1, if_pos c2] at h4; exact absurd h4.symm hxy
    · omega
  have G_in : ∀ k e, k < 4 → e < 4 → A k = PP x y e → G k = (fr e, 0) := by
    intro k e hk he hke
    show f4 _ _ _ _ _ _ _ _ (A k) = _
    rw [hke]
    unfold f4
    rcases (show e = 0 ∨ e = 1 ∨ e = 2 ∨ e = 3 by omega) with rfl | rfl | rfl | rfl
    · rw [if_pos rfl]; rfl
    · rw [if_neg (fun z => by have := Pd _ _ (by omega) (by omega) z; omega), if_pos rfl]; rfl
    · rw [if_neg (fun z => by have := Pd _ _ (by omega) (by omega) z; omega), if_neg (fun z => by have := Pd _ _ (by omega) (by omega) z; omega), if_pos rfl]; rfl
    · rw [if_neg (fun z => by have := Pd _ _ (by omega) (by omega) z; omega), if_neg (fun z => by have := Pd _ _ (by omega) (by omega) z; omega), if_neg (fun z => by have := Pd _ _ (by omega) (by omega) z; omega), if_pos rfl]; rfl
  have G_out : ∀ k, (∀ e, e < 4 → A k ≠ PP x y e) → G k = A k := by
    intro k hk
    show f4 _ _ _ _ _ _ _ _ (A k) = _
    unfold f4
    rw [if_neg (hk 0 (by omega)), if_neg (hk 1 (by omega)), if_neg (hk 2 (by omega)), if_neg (hk 3 (by omega))]
  have vA : ∀ k, k < 4 → vm (A k) := fun k hk => (h.2.2.1.1 _ _ (hA' k hk)).2.1
  have vH : ∀ k, k < 4 → vm (fr k, 0) := fun k hk => Or.inl ⟨by simp only; omega, (fr0 k hk).2⟩
  have cases4 : ∀ k, (∃ e, e < 4 ∧ A k = PP x y e) ∨ ∀ e, e < 4 → A k ≠ PP x y e := by
    intro k
    by_cases c : ∃ e, e < 4 ∧ A k = PP x y e
    · exact Or.inl c
    · exact Or.inr (fun e he z => c ⟨e, he, z⟩)
  have vG : ∀ k, k < 4 → vm (G k) := by
    intro k hk
    rcases cases4 k with ⟨e, he, z⟩ | z
    · rw [G_in k e hk he z]; exact vH e he
    · rw [G_out k z]; exact vA k hk
  have HG : ∀ k, k < 4 → ((fr k, 0) : Port) ≠ G k := by
    intro k hk
    rcases cases4 k with ⟨e, he, z⟩ | z
    · rw [G_in k e hk he z]
      refine pne (Or.inl (frd k e hk he (fun ze => ?_)))
      have := (M4 _ _ (hA k hk)).2
      exact this (by rw [z, ← ze])
    · rw [G_out k z]
      intro ze
      have := (M4 _ _ (hA k hk)).1
      rw [← ze, N0 _ (fr0 k hk).1] at this
      cases this
  have st : ∀ (k f : Nat) (E : Ob → Option Ob) (o1 : Ob) (K1 : Kd) (w1 : Wr), k < 4 → MS b o1 K1 w1 r → Sc o11 o1 → ∃ o2, LX7_meetUnlike_78 E (f + 1) (jI k) o1 = LX7_meetUnlike_78 E f (jI ((k + 1 : Nat))) o2 ∧ MS b o2 K1 (wl (fr k, 0) (G k) w1) r ∧ Fm b o1 o2 ∧ Sc o11 o2 := by
    intro k f E o1 K1 w1 hk hm hs
    obtain ⟨c1, c2, c3⟩ := sc' k hk
    have kc : (jI (k : Int)).toNatClampNeg = k := by rw [jI_cl (by omega) (by omega), Int.toNat_natCast]
    have ki : inb (jI (k : Int)) 4 := by rw [jI_inb (by omega) (by omega)]; omega
    have nx : jI (k : Int) + 1 = jI ((k + 1 : Nat)) := jI_p1 k
    obtain ⟨o2, q1, q2, q3, q4⟩ := MS_wire hb hm (vH k hk) (vG k hk) (HG k hk)
    refine ⟨o2, ?_, q2, q3, Sc_tr hs q4⟩
    rw [LX7_meetUnlike_78.eq_2, j_4, if_neg (by rw [jI_le (by omega) (by omega) (by omega) (by omega)]; omega), if_pos ki, kc, hs 15 (by omega), hs 14 (by omega), hs 17 (by omega), s17 k hk, c1, mp3, nx]
    rcases cases4 k with ⟨e, he, z⟩ | z
    · rw [G_in k e hk he z] at q1
      have ec : (jI (e : Int)).toNatClampNeg = e := by rw [jI_cl (by omega) (by omega), Int.toNat_natCast]
      rw [c2 e he z, if_neg (by rw [j_m1, jI_eq (by omega) (by omega) (by omega) (by omega)]; omega), if_pos (by rw [jI_inb (by omega) (by omega)]; omega), ec, s17 e he, mp3, q1, b1_some, lT_eq]
    · rw [G_out k z] at q1
      rw [c3 z, if_pos (show jI (-1) = (-1 : Int32) from rfl), q1, b1_some, lT_eq]
  -- the sides
  have st2 : ∀ (i j f : Nat) (E : Ob → Option Ob) (o1 : Ob) (K1 : Kd) (w1 : Wr), i < 2 → j < 2 → MS b o1 K1 w1 r → Sc o11 o1 → ∃ o2, LX7_meetUnlike_150 (jI i) E (f + 1) (jI j) o1 = LX7_meetUnlike_150 (jI i) E f (jI ((j + 1 : Nat))) o2 ∧ MS b o2 K1 (wl (fr (2 + i), 1 + j) (fr j, 1 + i) w1) r ∧ Fm b o1 o2 ∧ Sc o11 o2 := by
    intro i j f E o1 K1 w1 hi hj hm hs
    have jc : (jI (j : Int)).toNatClampNeg = j := by rw [jI_cl (by omega) (by omega), Int.toNat_natCast]
    have ie : (2 : Int32) + jI (i : Int) = jI ((2 + i : Nat)) := by rw [j_2, jI_add]; rfl
    have ic : (jI ((2 + i : Nat) : Int)).toNatClampNeg = 2 + i := by rw [jI_cl (by omega) (by omega), Int.toNat_natCast]
    have nx : jI (j : Int) + 1 = jI ((j + 1 : Nat)) := jI_p1 j
    obtain ⟨o2, q1, q2, q3, q4⟩ := MS_wire (p := (fr (2 + i), 1 + j)) (q := (fr j, 1 + i)) hb hm (Or.inl ⟨by simp only; omega, (fr0 (2 + i) (by omega)).2⟩) (Or.inl ⟨by simp only; omega, (fr0 j (by omega)).2⟩) (pne (Or.inl (frd _ _ (by omega) (by omega) (by omega))))
    refine ⟨o2, ?_, q2, q3, Sc_tr hs q4⟩
    rw [LX7_meetUnlike_150.eq_2, if_neg (by rw [j_2, jI_le (by omega) (by omega) (by omega) (by omega)]; omega), ie, if_pos (by rw [jI_inb (by omega) (by omega)]; omega), if_pos (by rw [jI_inb (by omega) (by omega)]; omega), ic, jc, hs 17 (by omega), s17 _ (by omega), s17 _ (by omega), mp31 _ _ hj, mp31 _ _ hi, q1, b1_some, lT_eq, nx]
  have st3 : ∀ (i f : Nat) (o1 : Ob) (K1 : Kd) (w1 : Wr), i < 2 → MS b o1 K1 w1 r → Sc o11 o1 → ∃ o2, LX7_meetUnlike_141 (f + 1) (jI i) o1 = LX7_meetUnlike_141 f (jI ((i + 1 : Nat))) o2 ∧ MS b o2 K1 (wl (fr (2 + i), 2) (fr 1, 1 + i) (wl (fr (2 + i), 1) (fr 0, 1 + i) w1)) r ∧ Fm b o1 o2 ∧ Sc o11 o2 := by
    intro i f o1 K1 w1 hi hm hs
    have nx : jI (i : Int) + 1 = jI ((i + 1 : Nat)) := jI_p1 i
    obtain ⟨o2, q1, q2, q3, q4⟩ := st2 i 0 4999 (fun o0_51 => lT (jI (i : Int) + (1 : Int32)) fun x5_52 => LX7_meetUnlike_141 f x5_52 o0_51) o1 K1 w1 hi (by omega) hm hs
    obtain ⟨o3, t1, t2, t3, t4⟩ := st2 i 1 4998 (fun o0_51 => lT (jI (i : Int) + (1 : Int32)) fun x5_52 => LX7_meetUnlike_141 f x5_52 o0_51) o2 K1 _ hi (by omega) q2 q4
    refine ⟨o3, ?_, t2, Fm_tr q3 t3, t4⟩
    rw [LX7_meetUnlike_141.eq_2, if_neg (by rw [j_2, jI_le (by omega) (by omega) (by omega) (by omega)]; omega)]
    rw [show fu = 4999 + 1 from rfl, show (0 : Int32) = jI ((0 : Nat) : Int) from rfl, q1, show (4999 : Nat) = 4998 + 1 from rfl, t1, LX7_meetUnlike_150.eq_2, if_pos (by rw [j_2, jI_le (by omega) (by omega) (by omega) (by omega)]; omega), lT_eq, nx]
  obtain ⟨p1, g1, g2, g3, g4⟩ := st 0 4999 (fun o0_43 => LX7_meetUnlike_141 fu (0 : Int32) o0_43) o11 _ _ (by omega) m11 (fun _ _ => rfl)
  obtain ⟨p2, i1, i2, i3, i4⟩ := st 1 4998 (fun o0_43 => LX7_meetUnlike_141 fu (0 : Int32) o0_43) p1 _ _ (by omega) g2 g4
  obtain ⟨p3, k1, k2, k3, k4⟩ := st 2 4997 (fun o0_43 => LX7_meetUnlike_141 fu (0 : Int32) o0_43) p2 _ _ (by omega) i2 i4
  obtain ⟨p4, t1, t2, t3, t4⟩ := st 3 4996 (fun o0_43 => LX7_meetUnlike_141 fu (0 : Int32) o0_43) p3 _ _ (by omega) k2 k4
  obtain ⟨p5, x1, x2, x3, x4⟩ := st3 0 4999 p4 _ _ (by omega) t2 t4
  obtain ⟨p6, y1, y2, y3, y4⟩ := st3 1 4998 p5 _ _ (by omega) x2 x4
  refine ⟨p6, ?_, ?_, Fm_tr F11 (Fm_tr (Fm_tr (Fm_tr (Fm_tr (Fm_tr g3 i3) k3) t3) x3) y3)⟩
  · have f0 : fu = 4999 + 1 := rfl
    have f1 : (4999 : Nat) = 4998 + 1 := rfl
    have f2 : (4998 : Nat) = 4997 + 1 := rfl
    have f3 : (4997 : Nat) = 4996 + 1 := rfl
    have f4 : (4996 : Nat) = 4995 + 1 := rfl
    have z0 : (0 : Int32) = jI ((0 : Nat) : Int) := rfl
    rw [f0, z0] at g1 i1 k1 t1
    rw [f0, z0, g1, f1, i1, f2, k1, f3, t1, f4, LX7_meetUnlike_78.eq_2, if_pos (by rw [j_4, jI_le (by omega) (by omega) (by omega) (by omega)]; omega)]
    rw [show 4995 + 1 + 1 + 1 + 1 + 1 = 4999 + 1 from rfl, x1, f1, y1, f2, LX7_meetUnlike_141.eq_2, if_pos (by rw [j_2, jI_le (by omega) (by omega) (by omega) (by omega)]; omega)]
  · have fw := four_wires (u := w3 y (w3 x w)) M4 a0 a1 a2 a3 (N0 n2 fc) (N0 n3 fd) (N0 n0 ha.1) (N0 n1 fb) (pne (Or.inr (by omega))) (pne (Or.inl hxy)) (pne (Or.inl hxy)) (pne (Or.inl hxy)) (pne (Or.inl hxy)) (pne (Or.inr (by omega))) (pne (Or.inl (by omega))) (pne (Or.inl (by omega))) (pne (Or.inl (by omega))) (pne (Or.inl (by omega))) (pne (Or.inl (by omega))) (pne (Or.inl (by omega))) (by
      intro q
      obtain ⟨n, s⟩ := q
      rw [w33, wA0_eq]
      simp only [Prod.mk.injEq]
      grind)
    rw [← fw]
    exact y2
end MU
