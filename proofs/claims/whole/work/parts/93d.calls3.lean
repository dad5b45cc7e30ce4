/-! calls that change the net -/
def Fq (o o' : Ob) : Prop := (∀ i, 180 ≤ i → oA o' 0 i = oA o 0 i) ∧ (∀ i, 540 ≤ i → oA o' 1 i = oA o 1 i) ∧ (∀ i, 8 ≤ i → oA o' 2 i = oA o 2 i) ∧ (∀ i, i ≠ 0 → oA o' 3 i = oA o 3 i) ∧ (∀ k, Pk k → k ≠ 6 → oA o' k = oA o k) ∧ ∀ k, oV o' k = oV o k
theorem Fq_rf (o : Ob) : Fq o o := ⟨fun _ _ => rfl, fun _ _ => rfl, fun _ _ => rfl, fun _ _ => rfl, fun _ _ _ => rfl, fun _ => rfl⟩
theorem Fq_tr {o o' o'' : Ob} (h : Fq o o') (h' : Fq o' o'') : Fq o o'' := ⟨fun i a => (h'.1 i a).trans (h.1 i a), fun i a => (h'.2.1 i a).trans (h.2.1 i a), fun i a => (h'.2.2.1 i a).trans (h.2.2.1 i a), fun i a => (h'.2.2.2.1 i a).trans (h.2.2.2.1 i a), fun k a b => (h'.2.2.2.2.1 k a b).trans (h.2.2.2.2.1 k a b), fun k => (h'.2.2.2.2.2 k).trans (h.2.2.2.2.2 k)⟩
theorem Fq_Fm {o o' : Ob} (h : Fm 0 o o') : Fq o o' := ⟨fun i hi => h.1 i (by omega), fun i hi => h.2.1 i (by omega), fun i hi => h.2.2.1 i (by omega), h.2.2.2.1, fun k hk _ => h.2.2.2.2.1 k (by unfold Pk at hk; omega) (by unfold Pk at hk; omega), h.2.2.2.2.2.1⟩
theorem Fq_6 (o : Ob) (i : Nat) (v : Int32) : Fq o (sA o 6 i v) := ⟨fun _ _ => by rw [sA_ne _ _ _ (by omega)], fun _ _ => by rw [sA_ne _ _ _ (by omega)], fun _ _ => by rw [sA_ne _ _ _ (by omega)], fun _ _ => by rw [sA_ne _ _ _ (by omega)], fun k _ h => sA_ne _ _ _ h, fun _ => rfl⟩
theorem Fq_3 (o : Ob) (v : Int32) : Fq o (sA o 3 0 v) := ⟨fun _ _ => by rw [sA_ne _ _ _ (by omega)], fun _ _ => by rw [sA_ne _ _ _ (by omega)], fun _ _ => by rw [sA_ne _ _ _ (by omega)], fun i hi => by rw [sA_rw, if_neg hi], fun k hk _ => sA_ne _ _ _ (by unfold Pk at hk; omega), fun _ => rfl⟩
theorem Fq_0 (o : Ob) {i : Nat} (hi : i < 180) (v : Int32) : Fq o (sA o 0 i v) := ⟨fun j hj => by rw [sA_rw, if_neg (by omega)], fun _ _ => by rw [sA_ne _ _ _ (by omega)], fun _ _ => by rw [sA_ne _ _ _ (by omega)], fun _ _ => by rw [sA_ne _ _ _ (by omega)], fun k hk _ => sA_ne _ _ _ (by unfold Pk at hk; omega), fun _ => rfl⟩
theorem Fq_ms {o : Ob} {p : Port} (hp : vm p) (v : Int32) : Fq o (ms 0 o p v) := Fq_Fm (Fm_ms hp)
theorem Sl1_F0 {o o' : Ob} {K : Kd} {w : Wr} {r : Nat} (h : Sl 1 o K w r) (hf : Fq o o') : Sl 1 o' K w r := by
  obtain ⟨f0, f1, f2, f3, -⟩ := hf
  refine ⟨⟨fun n hn => ?_, h.1.2⟩, ⟨fun p q hp => ?_, fun i hi hp => ?_⟩, ?_⟩
  · rw [f0 _ (by omega)]; exact h.1.1 n hn
  · obtain ⟨a, b', d⟩ := h.2.1.1 p q hp
    refine ⟨a, b', ?_⟩
    rw [← d]
    unfold ma
    rcases a with ⟨a1, a2⟩ | ⟨a1, a2⟩
    · rw [if_neg (by omega), if_neg (by omega)]
      exact f1 _ (by omega)
    · rw [if_pos a1, if_pos a1]
      exact f2 _ (by omega)
  · rw [f2 _ (by omega)]; exact h.2.1.2 i hi hp
  · rw [f3 1 (by omega)]; exact h.2.2
section C3
variable {n : Nat} {M : Nat → Ob} {o : Ob}
theorem Bq_now {N N' N1 : Nt} {t hi s s' l : Nat} {cs : Nat → Nat} (h : Bq n M o N N' t hi s s' l cs) {g' o' : Ob} (hn : NB g' o' 0 6 N1) (hf : Fq o o') (ht : t ≠ 0) : Bq n (sM M 3 g') o' N1 N' t hi s s' l cs := by
  obtain ⟨a1, a2, a3, a4, a5, a6, a7, a8, a9⟩ := h
  have pk : ∀ k, Pk k → k ≠ 6 → oA o' k = oA o k := hf.2.2.2.2.1
  have pv := hf.2.2.2.2.2
  unfold Bq
  simp only [sM_at]
  rw [if_pos trivial, if_neg (by omega), if_neg (by omega), if_neg (by omega), if_neg (by omega), if_neg (by omega)]
  have sb : ∀ x vs r1 r2 r3 s, Pk r1 → r1 ≠ 6 → Pk r2 → r2 ≠ 6 → Pk r3 → r3 ≠ 6 → SB x o vs r1 r2 r3 s → SB x o' vs r1 r2 r3 s := fun x vs r1 r2 r3 s h1 h1' h2 h2' h3 h3' ⟨b1, b2, b3, b4, b5⟩ => ⟨b1, b2, by rw [pv vs]; exact b3, by rw [pk r1 h1 h1', pk r2 h2 h2', pk r3 h3 h3']; exact b4, b5⟩
  refine ⟨hn, by rw [pv 4]; exact a2, FB_v a3 (pv 5) (pv 42) (pv 43), a4, fun z => absurd z ht, fun z => ?_, sb _ _ _ _ _ _ (by unfold Pk; omega) (by omega) (by unfold Pk; omega) (by omega) (by unfold Pk; omega) (by omega) a7, sb _ _ _ _ _ _ (by unfold Pk; omega) (by omega) (by unfold Pk; omega) (by omega) (by unfold Pk; omega) (by omega) a8, PgB_v a9 (pv 11) (pk 12 (by unfold Pk; omega) (by omega))⟩
  obtain ⟨b1, b2, b3, b4, b5⟩ := a6 z
  exact ⟨b1, b2, Sl1_F0 b3 hf, by rw [pk 45 (by unfold Pk; omega) (by omega)]; exact b4, by rw [pk 45 (by unfold Pk; omega) (by omega)]; exact b5⟩
theorem s_setKind {N : Nat} {g : Ob} {K : Kd} {w : Wr} {r : Nat} (hN : N ≤ 1000) (hg : RGr N g K w r) {m k k' : Nat} (hm : K m = some k) (hk' : k' ≤ 3) : FX2_setKind N (jI m) (jI k') g = some (sA g 0 m (jI k')) ∧ RGr N (sA g 0 m (jI k')) (ku K m (some k')) w r := by
  have hbd := RGr_bd hg
  have hmN : m < N := by
    rcases Nat.lt_or_ge m N with c | c
    · exact c
    · rw [hbd m c] at hm; cases hm
  obtain ⟨T, t, ⟨b1, b2, b3, b4, b5⟩, a2, a3, a4, a5, a6⟩ := hg
  refine ⟨?_, T, t, ⟨b1, b2, fun j hj => ?_, fun j hj => ?_, fun j k2 hj => ?_⟩, RW_other a2 (sA_ne _ _ _ (by omega)), a3, a4, fun j hj => ?_, ?_⟩
  · unfold FX2_setKind
    rw [if_neg (by rw [j_0, jI_lt (by omega) (by omega) (by omega) (by omega)]; omega), jI_ofNat, if_neg (by rw [jI_le (by omega) (by omega) (by omega) (by omega)]; omega), if_pos (by rw [jI_inb (by omega) (by omega)]; omega), lT_eq, jc _ (by omega)]
  · rw [sA_rw]
    unfold ku
    by_cases c : j = m
    · rw [if_pos c, if_pos c]; rfl
    · rw [if_neg c, if_neg c]; exact b3 j hj
  · unfold ku
    rw [if_neg (fun z => by rw [z, ] at hj; rw [b4 m hj] at hm; cases hm)]
    exact b4 j hj
  · unfold ku at hj
    by_cases c : j = m
    · rw [if_pos c] at hj; cases hj; exact hk'
    · rw [if_neg c] at hj; exact b5 j k2 hj
  · unfold ku
    by_cases c : j = m
    · rw [if_pos c]; exact fun z => by cases z
    · rw [if_neg c]; exact a5 j hj
  · rw [oV_sA, a6]
    congr 2
    refine cnt_same (fun j _ => ?_)
    unfold ku
    by_cases c : j = m
    · rw [if_pos c, c, hm]; simp
    · rw [if_neg c]
theorem Sl_kind {b : Nat} {o : Ob} {K : Kd} {w : Wr} {r : Nat} (h : Sl b o K w r) {m k k' : Nat} (hm : K m = some k) (hk' : k' ≤ 3) : Sl b (sA o 0 (180 * b + m) (jI k')) (ku K m (some k')) w r := by
  obtain ⟨⟨h1, h2, h3⟩, h4, h5⟩ := h
  have hm180 : m < 180 := by
    rcases Nat.lt_or_ge m 180 with c | c
    · exact c
    · rw [h2 m c] at hm; cases hm
  refine ⟨⟨fun j hj => ?_, fun j hj => ?_, fun j k2 hj => ?_⟩, RMw_k0 h4 (by omega) (by omega), by rw [sA_ne _ _ _ (by omega)]; exact h5⟩
  · rw [sA_rw]
    unfold ku
    by_cases c : j = m
    · rw [if_pos (by omega), if_pos c]; rfl
    · rw [if_neg (by omega), if_neg c]; exact h1 j hj
  · unfold ku
    rw [if_neg (by omega)]; exact h2 j hj
  · unfold ku at hj
    by_cases c : j = m
    · rw [if_pos c] at hj; cases hj; exact hk'
    · rw [if_neg c] at hj; exact h3 j k2 hj
theorem WF_kind {K : Kd} {w : Wr} (h : WF K w) {m k k' : Nat} (hm : K m = some (k + 1)) : WF (ku K m (some (k' + 1))) w := by
  refine WF_of h.1 (fun j => ?_) h.2.2
  have := WF_to h j
  unfold ku
  by_cases c : j = m
  · subst c
    rw [if_pos rfl]
    rw [hm] at this
    refine ⟨this.1.trans (by simp), this.2.1.trans ?_, this.2.2.trans ?_⟩
    · exact ⟨fun _ => ⟨k', rfl⟩, fun _ => ⟨k, rfl⟩⟩
    · exact ⟨fun _ => ⟨k', rfl⟩, fun _ => ⟨k, rfl⟩⟩
  · rw [if_neg c]; exact this
theorem bd_kind {K : Kd} {m : Nat} {v : Option Nat} (h : ∃ B, ∀ n, B ≤ n → K n = none) : ∃ B, ∀ n, B ≤ n → ku K m v n = none := bd_ku h m v
theorem ok_change (hb : Bd n M o) (x1 x2 : Int32) : ∃ (r : Int32) (M' : Nat → Ob) (o' : Ob), FX6_change x1 x2 M = some (r, M') ∧ FX7_change x1 x2 o = some (r, o') ∧ Bd (n + 1) M' o' := by
  obtain ⟨N, N', t, hi, s, s', l, cs, h⟩ := hb
  obtain ⟨a, rfl, a1, a2⟩ := int_jI x1
  obtain ⟨b, rfl, b1', b2'⟩ := int_jI x2
  have hs := sV_self h.2.1
  have notB : FX2_kindOf 60 (jI a) (M 3) = some (-1) ∨ FX2_kindOf 60 (jI a) (M 3) = some (jI 0) → FX7_isBracket (jI a) o = some 0 → ∃ (r : Int32) (M' : Nat → Ob) (o' : Ob), FX6_change (jI a) (jI b) M = some (r, M') ∧ FX7_change (jI a) (jI b) o = some (r, o') ∧ Bd (n + 1) M' o' := by
    intro e1 e2
    refine ⟨-101, M, o, ?_, ?_, Bq_up h⟩
    · unfold FX6_change
      rcases e1 with e1 | e1
      · rw [e1, b1_some, if_neg (by decide)]
      · rw [e1, b1_some, if_neg (by decide)]
    · unfold FX7_change
      rw [lT_eq, hs, e2, b1_some, if_pos rfl]
  rcases who h.1.2.1 (Bq_MS h) a1 a2 with ⟨m, k, rfl, hk, hm, k3, e1, e2, e3, e4⟩ | ⟨e1, e2, e4⟩
  · by_cases k0 : k = 0
    · subst k0
      exact notB (Or.inr e1) e4
    · rw [if_neg k0] at e4
      by_cases cb : 1 ≤ b ∧ b ≤ 3
      · obtain ⟨v, rfl⟩ := Int.eq_ofNat_of_zero_le (show 0 ≤ b by omega)
        obtain ⟨k', rfl⟩ : ∃ k', k = k' + 1 := ⟨k - 1, by omega⟩
        obtain ⟨v', rfl⟩ : ∃ v', v = v' + 1 := ⟨v - 1, by omega⟩
        obtain ⟨q1, q2⟩ := s_setKind (N := 60) (by omega) h.1.2.1 hk (k' := v' + 1) (by omega)
        have q3 := Sl_kind h.1.2.2.1 hk (k' := v' + 1) (by omega)
        rw [Nat.mul_zero, Nat.zero_add] at q3
        have ht : t ≠ 0 := fun z => by rw [(h.2.2.2.2.1 z).1 m] at hk; cases hk
        refine ⟨jI ((k' + 1 : Nat)), sM M 3 (sA (M 3) 0 m (jI ((v' + 1 : Nat)))), sA o 0 m (jI ((v' + 1 : Nat))), ?_, ?_, Bq_up (Bq_now h (N1 := (ku N.1 m (some (v' + 1)), N.2.1, N.2.2)) ⟨⟨WF_kind h.1.1.1 hk, bd_kind h.1.1.2⟩, q2, q3, ?_, ?_⟩ (Fq_0 o (by omega) _) ht)⟩
        · unfold FX6_change
          rw [e1, b1_some, if_pos (by rw [j_1, jI_le (by omega) (by omega) (by omega) (by omega)]; omega), if_neg (by rw [j_1, jI_lt (by omega) (by omega) (by omega) (by omega)]; omega), if_pos (by rw [j_3, jI_le (by omega) (by omega) (by omega) (by omega)]; omega), q1, b1_some, lT_eq]
        · unfold FX7_change
          rw [lT_eq, hs, e4, b1_some, if_neg (by decide), j_1, j_3, within_jI (by omega) (by omega) (by omega) (by omega) (by omega) (by omega), if_pos (by omega), b1_some, if_neg (by decide), e3, b1_some, if_pos (by rw [jI_inb (by omega) (by omega)]; omega), lT_eq, jc _ (by omega)]
        · rw [sA_ne _ _ _ (by omega), sA_ne _ _ _ (by omega)]; exact h.1.2.2.2.1
        · rw [sA_ne _ _ _ (by omega), sA_ne _ _ _ (by omega)]; exact h.1.2.2.2.2
      · refine ⟨-102, M, o, ?_, ?_, Bq_up h⟩
        · unfold FX6_change
          rw [e1, b1_some, if_pos (by rw [j_1, jI_le (by omega) (by omega) (by omega) (by omega)]; omega)]
          by_cases c1 : b < 1
          · rw [if_pos (by rw [j_1, jI_lt (by omega) (by omega) (by omega) (by omega)]; omega)]
          · rw [if_neg (by rw [j_1, jI_lt (by omega) (by omega) (by omega) (by omega)]; omega), if_neg (by rw [j_3, jI_le (by omega) (by omega) (by omega) (by omega)]; omega)]
        · unfold FX7_change
          rw [lT_eq, hs, e4, b1_some, if_neg (by decide), j_1, j_3, within_jI (by omega) (by omega) (by omega) (by omega) (by omega) (by omega), if_neg (by omega), b1_some, if_pos rfl]
  · exact notB (Or.inl e1) e4
theorem Mt_flip {w : Wr} (h : Mt w) {p q a b : Port} (hp : w p = some a) (hq : w q = some b) (hpq : p ≠ q) (haq : a ≠ q) : Mt (wl q a (wl p b w)) ∧ ∀ r, (wl q a (wl p b w) r ≠ none ↔ w r ≠ none) := by
  have ha := h p a hp
  have hb := h q b hq
  have hbp : b ≠ p := fun z => haq (by rw [z] at hb; exact Option.some.inj (hp.symm.trans hb.1))
  have hab : a ≠ b := fun z => hpq (by rw [z, hb.1] at ha; exact (Option.some.inj ha.1).symm)
  have e : ∀ r, wl q a (wl p b w) r = if r = a then some q else if r = q then some a else if r = b then some p else if r = p then some b else w r := fun r => rfl
  refine ⟨fun r s hr => ?_, fun r => ?_⟩
  · rw [e r] at hr
    rw [e s]
    have h' := h r s
    have h2 := h s r
    grind
  · rw [e r]
    grind
theorem ok_flip (hb : Bd n M o) (x1 : Int32) : ∃ (r : Int32) (M' : Nat → Ob) (o' : Ob), FX6_flip x1 M = some (r, M') ∧ FX7_flip x1 o = some (r, o') ∧ Bd (n + 1) M' o' := by
  obtain ⟨N, N', t, hi, s, s', l, cs, h⟩ := hb
  obtain ⟨a, rfl, a1, a2⟩ := int_jI x1
  have hs := sV_self h.2.1
  have notB : FX2_kindOf 60 (jI a) (M 3) = some (-1) ∨ FX2_kindOf 60 (jI a) (M 3) = some (jI 0) → FX7_isBracket (jI a) o = some 0 → ∃ (r : Int32) (M' : Nat → Ob) (o' : Ob), FX6_flip (jI a) M = some (r, M') ∧ FX7_flip (jI a) o = some (r, o') ∧ Bd (n + 1) M' o' := by
    intro e1 e2
    refine ⟨-101, M, o, ?_, ?_, Bq_up h⟩
    · unfold FX6_flip
      rcases e1 with e1 | e1
      · rw [e1, b1_some, if_neg (by decide)]
      · rw [e1, b1_some, if_neg (by decide)]
    · unfold FX7_flip
      rw [lT_eq, hs, e2, b1_some, if_pos rfl]
  rcases who h.1.2.1 (Bq_MS h) a1 a2 with ⟨m, k, rfl, hk, hm, k3, e1, e2, e3, e4⟩ | ⟨e1, e2, e4⟩
  · by_cases k0 : k = 0
    · subst k0
      exact notB (Or.inr e1) e4
    · rw [if_neg k0] at e4
      obtain ⟨k', rfl⟩ : ∃ k', k = k' + 1 := ⟨k - 1, by omega⟩
      have ht : t ≠ 0 := fun z => by rw [(h.2.2.2.2.1 z).1 m] at hk; cases hk
      have hF := h.1.1.1
      have oc := WF_to hF m
      obtain ⟨p, hp⟩ := some_of (oc.2.1.mpr ⟨k', hk⟩)
      obtain ⟨q, hq⟩ := some_of (oc.2.2.mpr ⟨k', hk⟩)
      have hms := Bq_MS h
      obtain ⟨T, t0, gK, gW, g3, g4, g5, g6⟩ := h.1.2.1
      obtain ⟨v1, v2, -⟩ := gW.1 _ _ hp
      obtain ⟨v3, v4, -⟩ := gW.1 _ _ hq
      obtain ⟨u1, u2, -⟩ := hms.2.2.1.1 _ _ hp
      obtain ⟨u3, u4, -⟩ := hms.2.2.1.1 _ _ hq
      have r1 : ((3 : Int32) * jI (m : Int)) + 1 = jI (mp (m, 1)) := by rw [j_3, j_1, jI_mul, jI_add]; rfl
      have r2 : ((3 : Int32) * jI (m : Int)) + 2 = jI (mp (m, 2)) := by rw [j_3, j_2, jI_mul, jI_add]; rfl
      have lp := mp_lt u2
      have l1 := mp_lt u3
      have sw : FX2_swapSides 60 (jI (m : Int)) (M 3) = if p = (m, 2) then some (M 3) else some (sA (sA (sA (sA (M 3) 1 (cp (m, 1)) (jI (cp q))) 1 (cp q) (jI (cp (m, 1)))) 1 (cp (m, 2)) (jI (cp p))) 1 (cp p) (jI (cp (m, 2)))) := by
        have lp' := cp_lt v2
        have l3' := cp_lt v3
        unfold FX2_swapSides
        rw [j_1, j_2, s_port1, b1_some, s_port2, b1_some, s_across (by omega) gW hp, b1_some, s_across (by omega) gW hq, b1_some]
        by_cases c : p = (m, 2)
        · rw [if_pos (by rw [c]), if_pos c]
        · rw [if_neg (by rw [jI_eq (by omega) (by omega) (by omega) (by omega)]; exact fun z => c (cp_inj v2 v3 (by omega))), if_neg c, s_link (by omega) v1 v4, b1_some, s_link (by omega) v3 v2, b1_some]
      by_cases c : p = (m, 2)
      · rw [if_pos c] at sw
        refine ⟨jI (mp p), M, o, ?_, ?_, Bq_up h⟩
        · unfold FX6_flip
          rw [e1, b1_some, if_pos (by rw [j_1, jI_le (by omega) (by omega) (by omega) (by omega)]; omega), sw, b1_some, lT_eq, sM_self, j_1, s_port1, b1_some, told (by omega) hF h.1.2.1 hp, b1_some]
        · unfold FX7_flip
          rw [lT_eq, hs, e4, b1_some, if_neg (by decide), r1, r2, m_told (by omega) hms hp, b1_some, m_told (by omega) hms hq, b1_some, if_pos (by rw [c]), b1_some]
      · rw [if_neg c] at sw
        have hq1 : (m, 1) ≠ q := fun z => by
          have := (hF.1 _ _ hq).1
          rw [← z, hp] at this
          exact c (Option.some.inj this)
        obtain ⟨f1, f2⟩ := Mt_flip hF.1 hp hq (show ((m, 1) : Port) ≠ (m, 2) by simp) c
        have hW' : WF N.1 (wl (m, 2) p (wl (m, 1) q N.2.1)) := by
          refine WF_of f1 (fun j => ?_) (fun j s hs hw => hF.2.2 j s hs ((f2 _).mp hw))
          have := WF_to hF j
          rw [f2, f2, f2]
          exact this
        have gW' := RW_wl (RW_wl gW v1 v4 hq1) v3 v2 (fun z => c z.symm)
        have oW := RMw_wl (RMw_wl hms.2.2.1 u1 u4 hq1) u3 u2 (fun z => c z.symm)
        let g' := sA (sA (sA (sA (M 3) 1 (cp (m, 1)) (jI (cp q))) 1 (cp q) (jI (cp (m, 1)))) 1 (cp (m, 2)) (jI (cp p))) 1 (cp p) (jI (cp (m, 2)))
        have rg : RGr 60 g' N.1 (wl (m, 2) p (wl (m, 1) q N.2.1)) N.2.2 := ⟨T, t0, RK_sA1 (RK_sA1 (RK_sA1 (RK_sA1 gK _ _) _ _) _ _) _ _, gW', g3, g4, g5, g6⟩
        have d3 : ∀ k, k ≠ 1 → oA g' k = oA (M 3) k := fun k hk => by
          show oA (sA (sA (sA (sA (M 3) 1 _ _) 1 _ _) 1 _ _) 1 _ _) k = _
          rw [sA_ne _ _ _ hk, sA_ne _ _ _ hk, sA_ne _ _ _ hk, sA_ne _ _ _ hk]
        let o1 := ms 0 (ms 0 o (m, 1) (jI (mp q))) q (jI (mp (m, 1)))
        let o2 := ms 0 (ms 0 o1 (m, 2) (jI (mp p))) p (jI (mp (m, 2)))
        have f0 : Fq o o2 := Fq_tr (Fq_tr (Fq_ms u1 _) (Fq_ms u4 _)) (Fq_tr (Fq_ms u3 _) (Fq_ms u2 _))
        have o1v : oV o1 4 = jI ((0 : Nat) : Int) := by show oV (ms 0 (ms 0 o _ _) _ _) 4 = _; rw [ms_v, ms_v]; exact hms.1
        have o2v : oV o2 4 = jI ((0 : Nat) : Int) := by show oV (ms 0 (ms 0 o1 _ _) _ _) 4 = _; rw [ms_v, ms_v]; exact o1v
        have o2k : ∀ k, k ≠ 1 → k ≠ 2 → oA o2 k = oA o k := fun k h1 h2 => by
          show oA (ms 0 (ms 0 (ms 0 (ms 0 o _ _) _ _) _ _) _ _) k = _
          rw [ms_o h1 h2, ms_o h1 h2, ms_o h1 h2, ms_o h1 h2]
        have ms2 : MS 0 o2 N.1 (wl (m, 2) p (wl (m, 1) q N.2.1)) N.2.2 := ⟨o2v, RMk_ms (RMk_ms (RMk_ms (RMk_ms hms.2.1 _ _) _ _) _ _) _ _, oW, by rw [o2k 3 (by omega) (by omega)]; exact hms.2.2.2⟩
        have w1 : wl (m, 2) p (wl (m, 1) q N.2.1) (m, 1) = some q := by
          have hp1 : (m, 1) ≠ p := (hF.1 _ _ hp).2
          unfold wl
          rw [if_neg hp1, if_neg (by simp), if_neg hq1, if_pos rfl]
        refine ⟨jI (mp q), sM M 3 g', o2, ?_, ?_, Bq_up (Bq_now h (N1 := (N.1, wl (m, 2) p (wl (m, 1) q N.2.1), N.2.2)) ⟨⟨hW', h.1.1.2⟩, rg, ms2.2, ?_, ?_⟩ f0 ht)⟩
        · unfold FX6_flip
          rw [e1, b1_some, if_pos (by rw [j_1, jI_le (by omega) (by omega) (by omega) (by omega)]; omega), sw, b1_some, lT_eq, j_1, s_port1, b1_some, show (sM M 3 g') 3 = g' from rfl, told (by omega) hW' rg w1, b1_some]
        · unfold FX7_flip
          rw [lT_eq, hs, e4, b1_some, if_neg (by decide), r1, r2, m_told (by omega) hms hp, b1_some, m_told (by omega) hms hq, b1_some, if_neg (by rw [jI_eq (by omega) (by omega) (by omega) (by omega)]; exact fun z => c (mp_inj u2 u3 (by omega))), m_wire (b := 0) (by omega) hms.1 u1 u4, b1_some, m_wire (b := 0) (by omega) o1v u3 u2, b1_some, m_told (by omega) ms2 w1, b1_some]
        · rw [d3 3 (by omega), o2k 6 (by omega) (by omega)]; exact h.1.2.2.2.1
        · rw [d3 3 (by omega), o2k 6 (by omega) (by omega)]; exact h.1.2.2.2.2
  · exact notB (Or.inl e1) e4
end C3
