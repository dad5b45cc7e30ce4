section TK3
variable {d g o : Ob} {n D st : Nat} {nd lim u : Nat → Nat} {K : Kd} {w : Wr} {L P P0 : Port} {Pl : Port → Prop}
theorem p_close (h : PB d g o n D st nd lim u K w L) (hn : n ≤ 80) (hdue : ¬ Due D st nd lim) (hD0 : 0 < D) {c : Nat} (hc : c < 1000) : TkOk c d g o n := by
  obtain ⟨hA, hU, hU', hu2, hR, hK, hW, hG, hD, hS, hlim, hDn⟩ := h
  have e0 := (p_due hA hS (by omega)).2 hdue
  obtain ⟨s1, s2, k, s3⟩ := hS.1 (D - 1) (by omega)
  have l2 : lim (nd (D - 1)) = 2 := by unfold Due at hdue; omega
  have eD : jI (D : Int) - 1 = jI ((D - 1 : Nat)) := jI_s1 (by omega)
  obtain ⟨T, t, hRK, hRW, -⟩ := hG.1
  have k3 := hRK.2.2.2.2 _ _ s3
  have a1 := (hA.2.2.2 (D - 1) (by omega)).1
  have s25 : oV o 25 = jI 3 := by
    rw [hR.2.2.1 rfl]
    unfold stt
    rw [if_neg (by omega), if_pos l2]; rfl
  have cls0 : FX1_take 180 (jI c) d g = (if jI (c : Int) = jI (clo (k + 1)) then some ((1 : Int32), sV d 3 (jI ((D - 1 : Nat))), g) else some ((0 : Int32), d, g)) := by
    unfold FX1_take
    rw [e0, b1_some, if_pos rfl, hA.1, if_neg (by rw [j_0, jI_le (by omega) (by omega) (by omega) (by omega)]; omega)]
    unfold FX1_takeClosing
    rw [hA.1, eD, lT_eq, if_neg (by rw [j_0, jI_lt (by omega) (by omega) (by omega) (by omega)]; omega), if_pos (by rw [j_80, jI_lt (by omega) (by omega) (by omega) (by omega)]; omega), if_pos (by rw [jI_inb (by omega) (by omega)]; omega), jc _ (by omega), a1, s_kindOf (by omega) hRK _ (by omega), b1_some, s3, kI_s, if_neg (by rw [j_1, jI_lt (by omega) (by omega) (by omega) (by omega)]; omega), if_neg (by rw [j_4, jI_le (by omega) (by omega) (by omega) (by omega)]; omega), if_pos (by rw [jI_inb (by omega) (by omega)]; omega), chA1 (by omega)]
    by_cases cc : jI (c : Int) = jI (clo (k + 1))
    · rw [if_pos cc, if_pos cc, lT_eq, b2_some, if_pos isb1]
    · rw [if_neg cc, if_neg cc, b2_some, if_pos isb0]
  have ref0 : FX7_takes (jI c) o = (if jI (c : Int) = jI (clo (k + 1)) then b1 (FX7_treeIs (jI (rp (nd (D - 1), 0))) (sV o 20 (jI ((D - 1 : Nat))))) fun o0_9 => some ((1 : Int32), o0_9) else some ((0 : Int32), o)) := by
    unfold FX7_takes
    rw [s25, if_neg (by decide), if_neg (by decide), if_neg (by decide), hR.1, eD, if_pos (by rw [jI_inb (by omega) (by omega)]; omega), jc _ (by omega), (hR.2.2.2.2.2 (D - 1) (by omega)).1, lT_eq, if_pos (by rw [jI_inb (by omega) (by omega)]; omega), jc _ (by omega), hK _ _ s3, clo_by (by omega), b1_some, lT_eq, mp3]
    rfl
  by_cases cc : jI (c : Int) = jI (clo (k + 1))
  · rw [if_pos cc] at cls0 ref0
    let o1 : Ob := sV o 20 (jI ((D - 1 : Nat)))
    have f1 : Pf o o1 := ⟨fun j hj => rfl, fun j hj => by show oV (sV o 20 _) j = _; rw [oV_sV, if_neg (by omega)]⟩
    obtain ⟨S1, S2, S3, S4, S5, S6, S7⟩ := hS
    have hS1 : PS n (D - 1) st nd lim K w L 1 (nd (D - 1), 0) := by
      refine ⟨fun j hj => S1 j (by omega), fun i j hi hj => S2 i j (by omega) (by omega), fun j hj => S3 j (by omega), fun hd => S4 (by omega), fun _ hd => ?_, fun _ hd => ?_, S7⟩
      · have := S3 (D - 1 - 1) (by omega)
        rw [show D - 1 - 1 + 1 = D - 1 by omega] at this
        exact this
      · rw [hd]
        exact S4 (by omega)
    have hR1 : PR o1 n (D - 1) st nd lim L 1 := by
      obtain ⟨r1, r2, r3, ⟨s, r4, r5, r6⟩, r7, r8⟩ := hR
      refine ⟨rfl, r2, fun z => by omega, ⟨s, r4, r5, fun _ => r6.1 (Or.inl (by omega)), fun z => absurd (Or.inr rfl) z⟩, fun z => r7 (Or.inl ⟨Or.inl (by omega), ?_⟩), fun j hj => ?_⟩
      · rcases z with z | z
        · exact z.2
        · exact absurd (Or.inr rfl) z.1
      · obtain ⟨a, b⟩ := r8 j (by omega)
        rw [if_neg (by omega)] at b
        rw [if_neg (by omega)]
        exact ⟨a, b⟩
    have hW1 : PW o1 (D - 1) nd w 1 (nd (D - 1), 0) := fun p q hp hj hh => hW p q hp (fun j hj2 => by
      by_cases cj : j = D - 1
      · rw [cj]; exact hh rfl
      · exact hj j (by omega)) (fun z => by omega)
    obtain ⟨o2, t1, t2, t3, t4, t5, t6⟩ := p_treeIs hR1 hW1 hS1 hD (Or.inl ⟨by simp only; omega, by simp only; omega⟩) hG.2.1 (by omega) (by omega)
    rw [show sV o 20 (jI ((D - 1 : Nat))) = o1 from rfl, t1, b1_some] at ref0
    refine ⟨1, _, _, o2, cls0, ref0, Pf_tr f1 t4, Or.inr ⟨rfl, n, D - 1, st, nd, lim, u, K, w, L, by omega, ⟨rfl, hA.2.1, hA.2.2.1, fun j hj => hA.2.2.2 j (by omega)⟩, hU, by rw [PU, t6]; exact hU', hu2, t2, fun m k hm => by rw [t5]; exact hK m k hm, PW_P t3, hG, hD, PS_P hS1, fun m => ?_, by omega⟩⟩
    rcases hlim m with z | ⟨j, z1, z2⟩
    · exact Or.inl z
    · by_cases cj : j = D - 1
      · rw [z2, cj]; exact Or.inl l2
      · exact Or.inr ⟨j, by omega, z2⟩
  · rw [if_neg cc] at cls0 ref0
    exact ⟨0, d, g, o, cls0, ref0, Pf_rf o, Or.inl rfl⟩
theorem p_sep (h : PB d g o n D st nd lim u K w L) (hdue : ¬ Due D st nd lim) (hD0 : D = 0) (c : Nat) : TkOk c d g o n := by
  subst hD0
  obtain ⟨hA, hU, hU', hu2, hR, hK, hW, hG, hD, hS, hlim, hDn⟩ := h
  have e0 := (p_due hA hS (by omega)).2 hdue
  have hst : st = 1 ∨ st = 3 := by have := hS.2.2.2.2.2.2; unfold Due at hdue; omega
  have i0 : ¬ insd 0 0 := fun z => by unfold insd at z; omega
  have mk : ∀ (v : Nat) (st' : Nat), v = stt 0 st' 0 → (st = 1 ∧ st' = 2) ∨ (st = 3 ∧ st' = 0) → v = 0 → PB (sV d 4 (jI st')) g (sV o 25 (jI v)) n 0 st' nd lim u K w L := by
    intro v st' hv hs hv0
    obtain ⟨r1, r2, r3, ⟨s, r4, r5, r6⟩, r7, r8⟩ := hR
    obtain ⟨S1, S2, S3, S4, S5, S6, S7⟩ := hS
    refine ⟨⟨hA.1, rfl, fun z => hA.2.2.1 (by omega), fun j hj => by omega⟩, hU, hU', hu2, ⟨r1, r2, fun _ => ?_, ⟨s, r4, r5, fun z => absurd z i0, fun _ => ⟨fun z => (r6.2 i0).1 (by omega), fun z => (r6.2 i0).2 (by omega)⟩⟩, fun z => r7 ?_, fun j hj => by omega⟩, hK, hW, hG, ⟨fun p => ?_, fun z => hD.2.1 (by omega), hD.2.2⟩, ⟨fun j hj => by omega, fun i j hi => by omega, fun j hj => by omega, fun z => by omega, fun z => by omega, fun z => by omega, by omega⟩, hlim, hDn⟩
    · rw [oV_sV, if_pos rfl, hv]
      unfold stt
      rw [if_pos rfl, if_pos rfl]
    · rcases z with z | z
      · exact absurd z.1 i0
      · exact Or.inr ⟨i0, by omega⟩
    · rw [hD.1 p]
      constructor <;> rintro ⟨a, b⟩ <;> exact ⟨a, fun z => b ⟨z.1, by omega⟩⟩
  rcases hst with rfl | rfl
  · have s25 : oV o 25 = jI 1 := hR.2.2.1 rfl
    have cls0 : FX1_take 180 (jI c) d g = (if jI (c : Int) = 61 then some ((1 : Int32), sV d 4 (jI ((2 : Nat))), g) else some ((0 : Int32), d, g)) := by
      unfold FX1_take BX1_take_44
      rw [e0, b1_some, if_pos rfl, hA.1, if_pos (by rfl), hA.2.1, if_pos (by rfl)]
      by_cases cc : jI (c : Int) = 61
      · rw [if_pos cc, if_pos cc, if_pos (by rfl)]; rfl
      · rw [if_neg cc, if_neg cc]
    have ref0 : FX7_takes (jI c) o = (if jI (c : Int) = 61 then some ((1 : Int32), sV o 25 (jI ((0 : Nat)))) else some ((0 : Int32), sV o 25 (jI ((1 : Nat))))) := by
      unfold FX7_takes
      rw [s25, if_neg (by decide), if_pos (by rfl)]
      by_cases cc : jI (c : Int) = 61
      · rw [if_pos cc, if_pos cc, lT_eq, if_pos cc]; rfl
      · rw [if_neg cc, if_neg cc, lT_eq, if_neg cc]; rfl
    by_cases cc : jI (c : Int) = 61
    · rw [if_pos cc] at cls0 ref0
      exact ⟨1, _, _, _, cls0, ref0, ⟨fun _ _ => rfl, fun k hk => by rw [oV_sV, if_neg (by omega)]⟩, Or.inr ⟨rfl, n, 0, 2, nd, lim, u, K, w, L, by omega, mk 0 2 rfl (Or.inl ⟨rfl, rfl⟩) rfl⟩⟩
    · rw [if_neg cc] at cls0 ref0
      exact ⟨0, _, _, _, cls0, ref0, ⟨fun _ _ => rfl, fun k hk => by rw [oV_sV, if_neg (by omega)]⟩, Or.inl rfl⟩
  · have s25 : oV o 25 = jI 2 := hR.2.2.1 rfl
    have cls0 : FX1_take 180 (jI c) d g = (if jI (c : Int) = 44 then some ((1 : Int32), sV d 4 (jI ((0 : Nat))), g) else some ((0 : Int32), d, g)) := by
      unfold FX1_take BX1_take_44
      rw [e0, b1_some, if_pos rfl, hA.1, if_pos (by rfl), hA.2.1, if_neg (by decide)]
      by_cases cc : jI (c : Int) = 44
      · rw [if_pos cc, if_pos cc, if_neg (by decide)]; rfl
      · rw [if_neg cc, if_neg cc]
    have ref0 : FX7_takes (jI c) o = (if jI (c : Int) = 44 then some ((1 : Int32), sV o 25 (jI ((0 : Nat)))) else some ((0 : Int32), sV o 25 (jI ((2 : Nat))))) := by
      unfold FX7_takes
      rw [s25, if_neg (by decide), if_neg (by decide), if_pos (by rfl)]
      by_cases cc : jI (c : Int) = 44
      · rw [if_pos cc, if_pos cc, lT_eq, if_pos cc]; rfl
      · rw [if_neg cc, if_neg cc, lT_eq, if_neg cc]; rfl
    by_cases cc : jI (c : Int) = 44
    · rw [if_pos cc] at cls0 ref0
      exact ⟨1, _, _, _, cls0, ref0, ⟨fun _ _ => rfl, fun k hk => by rw [oV_sV, if_neg (by omega)]⟩, Or.inr ⟨rfl, n, 0, 0, nd, lim, u, K, w, L, by omega, mk 0 0 rfl (Or.inr ⟨rfl, rfl⟩) rfl⟩⟩
    · rw [if_neg cc] at cls0 ref0
      exact ⟨0, _, _, _, cls0, ref0, ⟨fun _ _ => rfl, fun k hk => by rw [oV_sV, if_neg (by omega)]⟩, Or.inl rfl⟩
theorem p_take (h : PB d g o n D st nd lim u K w L) (hn : n < 80) {c : Nat} (hc : 32 ≤ c) (hc2 : c < 127) : TkOk c d g o n := by
  by_cases hdue : Due D st nd lim
  · by_cases hl : 97 ≤ c ∧ c ≤ 104
    · obtain ⟨i, rfl⟩ : ∃ i, c = 97 + i := ⟨c - 97, by omega⟩
      exact p_letter h hn hdue (by omega)
    · by_cases c0 : c = 42
      · exact p_node h hn hdue hc hc2 (k := 0) (by rw [c0]; rfl) (by omega) (by omega)
      · by_cases c1 : c = 40
        · exact p_node h hn hdue hc hc2 (k := 1) (by rw [c1]; rfl) (by omega) (by omega)
        · by_cases c2 : c = 91
          · exact p_node h hn hdue hc hc2 (k := 2) (by rw [c2]; rfl) (by omega) (by omega)
          · by_cases c3 : c = 123
            · exact p_node h hn hdue hc hc2 (k := 3) (by rw [c3]; rfl) (by omega) (by omega)
            · have ek : kb c = -1 := by unfold kb; rw [if_neg c0, if_neg c1, if_neg c2, if_neg c3]
              obtain ⟨hA, hU, hU', hu2, hR, hK, hW, hG, hD, hS, hlim, hDn⟩ := h
              have e0 := (p_due hA hS (by omega)).1 hdue
              have s25 := PB_s25 hR hdue
              refine ⟨0, d, g, o, ?_, ?_, Pf_rf o, Or.inl rfl⟩
              · have body : BX1_takeTree_22 180 (jI c) d g = some (0, d, g) := by
                  unfold BX1_takeTree_22
                  rw [kb_ix c hc2 hc, ek, lT_eq, if_pos (by decide)]
                have tree : FX1_takeTree 180 (jI c) d g = some (0, d, g) := by
                  unfold FX1_takeTree
                  rw [lT_eq, show (97 : Int32) = jI 97 from rfl, jI_sub]
                  by_cases a : c < 97
                  · rw [if_pos (by rw [j_0, jI_lt (by omega) (by omega) (by omega) (by omega)]; omega)]; exact body
                  · rw [if_neg (by rw [j_0, jI_lt (by omega) (by omega) (by omega) (by omega)]; omega), if_pos (by rw [j_8, jI_le (by omega) (by omega) (by omega) (by omega)]; omega)]; exact body
                unfold FX1_take
                rw [e0, b1_some, if_neg (by decide), tree, b3_some, if_pos isb0]
              · unfold FX7_takes
                rw [s25, if_pos (by rfl)]
                unfold FX7_takesTree FX7_within
                rw [kb_by _ hc2 hc, ek, b1_some, if_pos (by rfl), lT_eq, show (97 : Int32) = jI 97 from rfl, jI_sub]
                by_cases a : c < 97
                · rw [if_pos (by rw [j_0, jI_lt (by omega) (by omega) (by omega) (by omega)]; omega), b1_some, if_pos rfl, b2_some, if_pos isb0]
                · rw [if_neg (by rw [j_0, jI_lt (by omega) (by omega) (by omega) (by omega)]; omega), if_pos (by rw [j_7, jI_lt (by omega) (by omega) (by omega) (by omega)]; omega), b1_some, if_pos rfl, b2_some, if_pos isb0]
  · by_cases hD0 : D = 0
    · exact p_sep h hdue hD0 c
    · exact p_close h (by omega) hdue (by omega) (by omega)
end TK3
/-- a page, in both -/
def PgC (pg : Ob) (l : Nat) (cs : Nat → Nat) : Prop := oV pg 1 = jI l ∧ ∀ i, i < l → oA pg 0 i = jI (cs i)
def PgM (o : Ob) (l : Nat) (cs : Nat → Nat) : Prop := oV o 11 = jI l ∧ ∀ i, i < l → oA o 12 i = jI (cs i)
theorem PgM_Pf {o o' : Ob} {l : Nat} {cs : Nat → Nat} (h : PgM o l cs) (hf : Pf o o') : PgM o' l cs := ⟨by rw [hf.2 11 (by omega)]; exact h.1, fun i hi => by rw [hf.1 12 (by omega)]; exact h.2 i hi⟩
theorem PB_28 {d g o : Ob} {n D st : Nat} {nd lim u : Nat → Nat} {K : Kd} {w : Wr} {L : Port} (h : PB d g o n D st nd lim u K w L) (x : Int32) : PB d g (sV o 28 x) n D st nd lim u K w L := by
  obtain ⟨hA, hU, hU', hu2, hR, hK, hW, hG, hD, hS, hlim, hDn⟩ := h
  exact ⟨hA, hU, hU', hu2, hR, hK, hW, hG, hD, hS, hlim, hDn⟩
theorem p_at {pg : Ob} {l : Nat} {cs : Nat → Nat} (h : PgC pg l cs) (hl : l ≤ 80) {i : Nat} (hi : i < l) : FX3_at (jI i) pg = some (jI (cs i)) := by
  unfold FX3_at
  rw [if_neg (by rw [j_0, jI_lt (by omega) (by omega) (by omega) (by omega)]; omega), h.1, if_neg (by rw [jI_le (by omega) (by omega) (by omega) (by omega)]; omega), if_pos (by rw [jI_inb (by omega) (by omega)]; omega), jc _ (by omega), h.2 i hi]
theorem p_loop {pg : Ob} {l : Nat} {cs : Nat → Nat} (hp : PgC pg l cs) (hl : l ≤ 80) (hcs : ∀ i, i < l → 32 ≤ cs i ∧ cs i < 127) : ∀ (e i F F' : Nat) (d g o : Ob) (n D st : Nat) (nd lim u : Nat → Nat) (K : Kd) (w : Wr) (L : Port), i + e = l → e < F → e < F' → n ≤ i → (i = 0 → st = 0) → PgM o l cs → PB d g o n D st nd lim u K w L →
    ∃ (r : Nat) (d' g' o' : Ob), LX1_drawFrom_24 180 pg (fun o0_22 o2_23 => b1 (FX3_size pg) fun r_24 => some (r_24, o0_22, o2_23)) F (jI i) d g = some (jI r, d', g') ∧ LX7_read_43 (fun x1_24 o0_25 => BX7_read_70 x1_24 o0_25) F' (jI i) o = some (jI r, o') ∧ Pf o o' ∧ ((r < l ∧ oV o' 28 = 0) ∨ (r = l ∧ ∃ n D st nd lim u K w L, PB d' g' o' n D st nd lim u K w L ∧ n ≤ 80 ∧ oV o' 28 = (if D = 0 ∧ st = 3 then 1 else 0))) := by
  intro e
  induction e with
  | zero =>
    intro i F F' d g o n D st nd lim u K w L hi hF hF' hni hz hm h
    obtain ⟨F, rfl⟩ : ∃ f', F = f' + 1 := ⟨F - 1, by omega⟩
    obtain ⟨F', rfl⟩ : ∃ f', F' = f' + 1 := ⟨F' - 1, by omega⟩
    have e1 : i = l := by omega
    subst e1
    refine ⟨i, d, g, sV o 28 (if D = 0 ∧ st = 3 then 1 else 0), ?_, ?_, ⟨fun _ _ => rfl, fun k hk => by rw [oV_sV, if_neg (by omega)]⟩, Or.inr ⟨rfl, n, D, st, nd, lim, u, K, w, L, PB_28 h _, by omega, rfl⟩⟩
    · rw [LX1_drawFrom_24.eq_2]
      unfold FX3_size
      rw [b1_some, hp.1, if_pos (by rw [jI_le (by omega) (by omega) (by omega) (by omega)]; omega), b1_some]
    · rw [LX7_read_43.eq_2, hm.1, if_pos (by rw [jI_le (by omega) (by omega) (by omega) (by omega)]; omega)]
      unfold BX7_read_70
      rw [hm.1, if_pos rfl]
      have hR := h.2.2.2.2.1
      have hS := h.2.2.2.2.2.2.2.2.2.1
      have s25 := hR.2.2.1 rfl
      have st3 := hS.2.2.2.2.2.2
      by_cases c0 : i = 0
      · have := hz c0
        rw [if_pos (by rw [c0]; rfl), lT_eq, if_neg (by omega)]
      · rw [if_neg (by rw [j_0, jI_le (by omega) (by omega) (by omega) (by omega)]; omega), s25]
        by_cases c3 : D = 0 ∧ st = 3
        · obtain ⟨rfl, rfl⟩ := c3
          rw [if_pos (by rfl), lT_eq, if_pos ⟨rfl, rfl⟩]
        · have : stt D st (lim (nd (D - 1))) ≠ 2 ∧ stt D st (lim (nd (D - 1))) ≤ 3 := by
            unfold stt
            by_cases cD : D = 0
            · rw [if_pos cD]
              split
              · omega
              · split <;> omega
            · rw [if_neg cD]; split <;> omega
          rw [if_neg (by rw [j_2, jI_eq (by omega) (by omega) (by omega) (by omega)]; omega), lT_eq, if_neg c3]
  | succ e ih =>
    intro i F F' d g o n D st nd lim u K w L hi hF hF' hni hz hm h
    obtain ⟨F, rfl⟩ : ∃ f', F = f' + 1 := ⟨F - 1, by omega⟩
    obtain ⟨F', rfl⟩ : ∃ f', F' = f' + 1 := ⟨F' - 1, by omega⟩
    obtain ⟨c1, c2⟩ := hcs i (by omega)
    obtain ⟨r, d1, g1, o1, q1, q2, q3, q4⟩ := p_take h (by omega) c1 c2
    have cl : LX1_drawFrom_24 180 pg (fun o0_22 o2_23 => b1 (FX3_size pg) fun r_24 => some (r_24, o0_22, o2_23)) (F + 1) (jI i) d g = (if r = 0 then some (jI i, d1, g1) else LX1_drawFrom_24 180 pg (fun o0_22 o2_23 => b1 (FX3_size pg) fun r_24 => some (r_24, o0_22, o2_23)) F (jI ((i + 1 : Nat))) d1 g1) := by
      rw [LX1_drawFrom_24.eq_2, show FX3_size pg = some (oV pg 1) from rfl, b1_some, hp.1, if_neg (by rw [jI_le (by omega) (by omega) (by omega) (by omega)]; omega), p_at hp hl (by omega), b1_some, q1, b3_some, lT_eq, jI_p1]
    have rf : LX7_read_43 (fun x1_24 o0_25 => BX7_read_70 x1_24 o0_25) (F' + 1) (jI i) o = (if r = 0 then BX7_read_70 (jI i) o1 else LX7_read_43 (fun x1_24 o0_25 => BX7_read_70 x1_24 o0_25) F' (jI ((i + 1 : Nat))) o1) := by
      rw [LX7_read_43.eq_2, hm.1, if_neg (by rw [jI_le (by omega) (by omega) (by omega) (by omega)]; omega), if_pos (by rw [jI_inb (by omega) (by omega)]; omega), jc _ (by omega), hm.2 i (by omega), q2, b2_some, lT_eq, jI_p1]
    rcases q4 with rfl | ⟨rfl, n', D', st', nd', lim', u', K', w', L', hn', hPB⟩
    · rw [if_pos rfl] at cl rf
      have m1 := PgM_Pf hm q3
      refine ⟨i, d1, g1, sV o1 28 0, cl, ?_, Pf_tr q3 ⟨fun _ _ => rfl, fun k hk => by rw [oV_sV, if_neg (by omega)]⟩, Or.inl ⟨by omega, rfl⟩⟩
      rw [rf]
      unfold BX7_read_70
      rw [m1.1, if_neg (by rw [jI_eq (by omega) (by omega) (by omega) (by omega)]; omega), lT_eq]
    · rw [if_neg (by decide)] at cl rf
      obtain ⟨r, d2, g2, o2, t1, t2, t3, t4⟩ := ih (i + 1) F F' d1 g1 o1 n' D' st' nd' lim' u' K' w' L' (by omega) (by omega) (by omega) (by omega) (by omega) (PgM_Pf hm q3) hPB
      exact ⟨r, d2, g2, o2, cl.trans t1, rf.trans t2, Pf_tr q3 t3, t4⟩
theorem m_times0 (E : Ob → Option (Int32 × Ob)) : ∀ (e i F : Nat) (o : Ob), i + e = 8 → e < F → ∃ o', LX7_read_22 E F (jI i) o = E o' ∧ (∀ j, i ≤ j → j < 8 → oA o' 24 j = 0) ∧ (∀ j, j < i → oA o' 24 j = oA o 24 j) ∧ (∀ k, k ≠ 24 → oA o' k = oA o k) ∧ ∀ k, oV o' k = oV o k := by
  intro e
  induction e with
  | zero =>
    intro i F o hi hF
    obtain ⟨F, rfl⟩ : ∃ f', F = f' + 1 := ⟨F - 1, by omega⟩
    exact ⟨o, by rw [LX7_read_22.eq_2, j_8, if_pos (by rw [jI_le (by omega) (by omega) (by omega) (by omega)]; omega)], fun j h1 h2 => by omega, fun _ _ => rfl, fun _ _ => rfl, fun _ => rfl⟩
  | succ e ih =>
    intro i F o hi hF
    obtain ⟨F, rfl⟩ : ∃ f', F = f' + 1 := ⟨F - 1, by omega⟩
    obtain ⟨o', q1, q2, q3, q4, q5⟩ := ih (i + 1) F (sA o 24 i 0) (by omega) (by omega)
    refine ⟨o', ?_, fun j h1 h2 => ?_, fun j h1 => ?_, fun k hk => ?_, fun k => q5 k⟩
    · rw [LX7_read_22.eq_2, j_8, if_neg (by rw [jI_le (by omega) (by omega) (by omega) (by omega)]; omega), if_pos (by rw [jI_inb (by omega) (by omega)]; omega), lT_eq, lT_eq, jI_p1, jc _ (by omega)]
      exact q1
    · by_cases c : j = i
      · rw [q3 j (by omega), sA_rw, if_pos c]
      · exact q2 j (by omega) h2
    · rw [q3 j (by omega), sA_rw, if_neg (by omega)]
    · rw [q4 k hk, sA_ne _ _ _ hk]
theorem cnt_zero : ∀ N, cnt (fun _ => none) N = 0 := by
  intro N
  induction N with
  | zero => rfl
  | succ N ih => show cnt _ N + _ = 0; rw [ih, if_pos rfl]
theorem s_clear (g : Ob) : ∃ g', FX2_clear 180 g = some g' ∧ PG g' 0 (fun _ => none) (fun _ => none) := by
  refine ⟨_, rfl, ⟨0, 0, ⟨rfl, by omega, fun n hn => by omega, fun n _ => rfl, fun n k hk => by cases hk⟩, ⟨fun p q hp => (by cases hp), fun i hi _ => ?_⟩, rfl, rfl, fun n hn => by omega, ?_⟩, fun p q hp => (by cases hp), fun m => by simp, fun j hj => ?_⟩
  · show fl g 1 (16 + 3 * 180) (-1 : Int32) i = _
    unfold fl
    rw [if_pos (by omega)]
    rfl
  · rw [cnt_zero]; rfl
  · show fl _ 3 4 (0 : Int32) j = 0
    unfold fl
    rw [if_pos hj]
/-- both read one page alike -/
theorem p_read {pg : Ob} {l : Nat} {cs : Nat → Nat} (hp : PgC pg l cs) (hl : l ≤ 80) (hcs : ∀ i, i < l → 32 ≤ cs i ∧ cs i < 127) {o : Ob} (hm : PgM o l cs) (d g : Ob) : ∃ (r : Nat) (d' g' o' : Ob), FX1_drawFrom 180 d pg g = some (jI r, d', g') ∧ FX7_read o = some (jI r, o') ∧ Pf o o' ∧ ((r < l ∧ oV o' 28 = 0) ∨ (r = l ∧ ∃ n D st nd lim u K w L, PB d' g' o' n D st nd lim u K w L ∧ n ≤ 80 ∧ oV o' 28 = (if D = 0 ∧ st = 3 then 1 else 0))) := by
  obtain ⟨g1, e1, hG⟩ := s_clear g
  obtain ⟨o1, e2, z1, -, k1, v1⟩ := m_times0 (fun o0_15 => LX7_read_43 (fun x1_24 o0_25 => BX7_read_70 x1_24 o0_25) fu (0 : Int32) o0_15) 8 0 fu (sV (sV (sV (sV o 20 0) 21 0) 25 0) 26 0) (by omega) (by rw [fu_eq]; omega)
  have f1 : Pf o o1 := ⟨fun k hk => by rw [k1 k (by omega)]; rfl, fun k hk => by rw [v1, oV_sV, if_neg (by omega), oV_sV, if_neg (by omega), oV_sV, if_neg (by omega), oV_sV, if_neg (by omega)]⟩
  have i0 : ¬ insd 0 0 := fun z => by unfold insd at z; omega
  have hPB : PB (sV (sV (sR d 2 (fl d 2 8 (0 : Int32))) 3 0) 4 0) g1 o1 0 0 0 (fun _ => 0) (fun _ => 2) (fun _ => 0) (fun _ => none) (fun _ => none) (0, 0) := by
    refine ⟨⟨rfl, rfl, fun z => by omega, fun j hj => by omega⟩, fun i hi => ?_, fun i hi => by rw [z1 i (by omega) hi]; rfl, fun i hi => Nat.zero_le 2, ⟨by rw [v1]; rfl, by rw [v1]; rfl, fun _ => by rw [v1]; rfl, ⟨0, by rw [v1]; rfl, by omega, fun z => absurd z i0, fun _ => ⟨fun z => by omega, fun _ => rfl⟩⟩, fun z => ?_, fun j hj => by omega⟩, fun m k hk => (by cases hk), fun p q hp => (by cases hp), hG, ⟨fun p => ?_, fun z => by omega, fun p hpl => ?_⟩, ⟨fun j hj => by omega, fun i j hi => by omega, fun j hj => by omega, fun z => by omega, fun z => by omega, fun z => by omega, by omega⟩, fun m => Or.inl rfl, Nat.le_refl 0⟩
    · show fl d 2 8 (0 : Int32) i = _
      unfold fl
      rw [if_pos hi]
      rfl
    · rcases z with z | z
      · exact absurd z.1 i0
      · omega
    · constructor
      · intro z; exact absurd rfl z
      · rintro ⟨h | ⟨-, ⟨k, h⟩, -⟩ | h, -⟩
        · have := h.2; omega
        · cases h
        · have := h.2; simp only at this; omega
    · rcases hpl with h | ⟨-, ⟨k, h⟩, -⟩ | h
      · have := h.2; omega
      · cases h
      · have := h.2; simp only at this; omega
  obtain ⟨r, d', g', o', t1, t2, t3, t4⟩ := p_loop hp hl hcs l 0 fu fu _ g1 o1 0 0 0 _ _ _ _ _ _ (by omega) (by rw [fu_eq]; omega) (by rw [fu_eq]; omega) (Nat.le_refl 0) (fun _ => rfl) (PgM_Pf hm f1) hPB
  refine ⟨r, d', g', o', ?_, ?_, Pf_tr f1 t3, t4⟩
  · unfold FX1_drawFrom
    rw [e1, b1_some, if_pos (by omega), lT_eq, lT_eq, lT_eq]
    exact t1
  · unfold FX7_read
    rw [lT_eq, lT_eq, lT_eq, lT_eq]
    exact e2.trans t2
