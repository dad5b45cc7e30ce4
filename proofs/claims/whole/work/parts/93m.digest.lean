/-! the digest -/
section CA
variable {n : Nat} {M : Nat → Ob} {N N' : Nt} {t hi s s' l : Nat} {cs : Nat → Nat}
theorem mx (v : Int64) (o : Ob) : FX7_mix v o = some (sL o 49 (((31 : Int64) * (oL o 49)) + v)) := rfl
theorem Bq_mx {o : Ob} (h : Bq n M o N N' t hi s s' l cs) (v : Int64) : Bq n M (sL o 49 v) N N' t hi s s' l cs := Bq_o h (fun _ _ => rfl) (fun _ => rfl)
theorem kn : jI (kI none) = (-1 : Int32) := rfl
theorem dg_node {m k : Nat} (hk : N.1 m = some k) : ∀ (d v f f' : Nat) (o : Ob) (h : Int64), v + d = 5 → Bq n M o N N' t hi s s' l cs → oL o 49 = h → ∃ h1 o1, (∀ E, LX6_hashOfNodes_38 (jI m) M E (f + d + 1) h (jI v) = E h1) ∧ (∀ E, LX7_digest_38 (jI m) E (f' + d + 1) (jI v) o = E o1) ∧ Bq n M o1 N N' t hi s s' l cs ∧ oL o1 49 = h1 := by
  intro d
  induction d with
  | zero =>
    intro v f f' o h hv hb hh
    refine ⟨h, o, fun E => ?_, fun E => ?_, hb, hh⟩
    · rw [LX6_hashOfNodes_38.eq_2, if_pos (by rw [j_4, jI_lt (by omega) (by omega) (by omega) (by omega)]; omega)]
    · rw [LX7_digest_38.eq_2, if_pos (by rw [j_5, jI_le (by omega) (by omega) (by omega) (by omega)]; omega)]
  | succ d ih =>
    intro v f f' o h hv hb hh
    obtain ⟨r, e1, e2⟩ := node_told hb hk (v := v) (by omega)
    obtain ⟨h1, o1, i1, i2, i3, i4⟩ := ih (v + 1) f f' (sL o 49 (((31 : Int64) * (oL o 49)) + r.toInt64)) (((31 : Int64) * h) + r.toInt64) (by omega) (Bq_mx hb _) (by rw [oL_sL, hh])
    refine ⟨h1, o1, fun E => ?_, fun E => ?_, i3, i4⟩
    · rw [LX6_hashOfNodes_38.eq_2, if_neg (by rw [j_4, jI_lt (by omega) (by omega) (by omega) (by omega)]; omega), e1, b1_some, lT_eq, lT_eq, jI_p1]
      exact i1 E
    · rw [LX7_digest_38.eq_2, if_neg (by rw [j_5, jI_le (by omega) (by omega) (by omega) (by omega)]; omega), e2, b2_some, mx, b1_some, lT_eq, jI_p1]
      exact i2 E
theorem dg_nodes : ∀ (d i f f' : Nat) (o : Ob) (h : Int64), i + d = 60 → Bq n M o N N' t hi s s' l cs → oL o 49 = h → ∃ h1 o1, LX6_hashOfNodes_5 M (f + d + 1) h (jI i) = some h1 ∧ (∀ E, LX7_digest_14 E (f' + d) (jI i) o = LX7_digest_14 E f' (jI ((60 : Nat))) o1) ∧ Bq n M o1 N N' t hi s s' l cs ∧ oL o1 49 = h1 := by
  intro d
  induction d with
  | zero =>
    intro i f f' o h hv hb hh
    refine ⟨h, o, ?_, fun E => ?_, hb, hh⟩
    · rw [LX6_hashOfNodes_5.eq_2, if_pos (by rw [j_60, jI_le (by omega) (by omega) (by omega) (by omega)]; omega)]
    · rw [show i = 60 by omega]; rfl
  | succ d ih =>
    intro i f f' o h hv hb hh
    obtain ⟨T, t0, gK, -⟩ := hb.1.2.1
    have hms := Bq_MS hb
    have c1 := s_kindOf (N := 60) (by omega) gK i (by omega)
    have r1 := m_kindOf (b := 0) (by omega) hms.1 hms.2.1 (n := i) (by omega)
    cases hk : N.1 i with
    | none =>
      rw [hk] at c1 r1
      obtain ⟨h1, o1, i1, i2, i3, i4⟩ := ih (i + 1) f f' o h (by omega) hb hh
      refine ⟨h1, o1, ?_, fun E => ?_, i3, i4⟩
      · rw [LX6_hashOfNodes_5.eq_2, if_neg (by rw [j_60, jI_le (by omega) (by omega) (by omega) (by omega)]; omega), c1, b1_some, if_pos kn, lT_eq, jI_p1]
        exact i1
      · rw [← i2 E, show f' + (d + 1) = f' + d + 1 from rfl, LX7_digest_14.eq_2, if_neg (by rw [j_180, jI_le (by omega) (by omega) (by omega) (by omega)]; omega), r1, b1_some, if_pos kn, lT_eq, jI_p1]
    | some k =>
      rw [hk] at c1 r1
      have k3 := gK.2.2.2.2 i k hk
      have ne : jI (kI (some k)) ≠ (-1 : Int32) := by
        rw [show (-1 : Int32) = jI (-1) from rfl]
        intro z
        rw [jI_eq (by unfold kI; simp only; omega) (by unfold kI; simp only; omega) (by omega) (by omega)] at z
        unfold kI at z
        simp only at z
        omega
      obtain ⟨h2, o2, a1, a2, a3, a4⟩ := dg_node hk 5 0 4994 4994 (sL o 49 (((31 : Int64) * (oL o 49)) + (jI (i : Int)).toInt64)) (((31 : Int64) * h) + (jI (i : Int)).toInt64) (by omega) (Bq_mx hb _) (by rw [oL_sL, hh])
      obtain ⟨h1, o1, i1, i2, i3, i4⟩ := ih (i + 1) f f' o2 h2 (by omega) a3 a4
      refine ⟨h1, o1, ?_, fun E => ?_, i3, i4⟩
      · rw [LX6_hashOfNodes_5.eq_2, if_neg (by rw [j_60, jI_le (by omega) (by omega) (by omega) (by omega)]; omega), c1, b1_some, if_neg ne, lT_eq]
        refine (a1 _).trans ?_
        rw [lT_eq, jI_p1]
        exact i1
      · rw [← i2 E, show f' + (d + 1) = f' + d + 1 from rfl, LX7_digest_14.eq_2, if_neg (by rw [j_180, jI_le (by omega) (by omega) (by omega) (by omega)]; omega), r1, b1_some, if_neg ne, mx, b1_some]
        refine (a2 _).trans ?_
        rw [lT_eq, jI_p1]
theorem dg_tail {o : Ob} (hb : Bq n M o N N' t hi s s' l cs) (E : Ob → Option (Int64 × Ob)) : ∀ (d i f : Nat), i + d = 180 → 60 ≤ i → LX7_digest_14 E (f + d + 1) (jI i) o = E o := by
  intro d
  have hms := Bq_MS hb
  have hbd := RGr_bd hb.1.2.1
  induction d with
  | zero =>
    intro i f hv h6
    rw [LX7_digest_14.eq_2, if_pos (by rw [j_180, jI_le (by omega) (by omega) (by omega) (by omega)]; omega)]
  | succ d ih =>
    intro i f hv h6
    have r1 := m_kindOf (b := 0) (by omega) hms.1 hms.2.1 (n := i) (by omega)
    rw [hbd i (by omega)] at r1
    rw [LX7_digest_14.eq_2, if_neg (by rw [j_180, jI_le (by omega) (by omega) (by omega) (by omega)]; omega), r1, b1_some, if_pos kn, lT_eq, jI_p1]
    exact ih (i + 1) f (by omega) (by omega)
theorem dg_wires : ∀ (d i f f' : Nat) (o : Ob) (h : Int64), i + d = 8 → Bq n M o N N' t hi s s' l cs → oL o 49 = h → ∃ h1 o1, LX6_hashOfWires_5 M (f + d + 1) h (jI i) = some h1 ∧ (∀ E, LX7_digest_68 E (f' + d + 1) (jI i) o = E o1) ∧ Bq n M o1 N N' t hi s s' l cs ∧ oL o1 49 = h1 := by
  intro d
  induction d with
  | zero =>
    intro i f f' o h hv hb hh
    refine ⟨h, o, ?_, fun E => ?_, hb, hh⟩
    · rw [LX6_hashOfWires_5.eq_2, if_pos (by rw [j_8, jI_le (by omega) (by omega) (by omega) (by omega)]; omega)]
    · rw [LX7_digest_68.eq_2, if_pos (by rw [j_8, jI_le (by omega) (by omega) (by omega) (by omega)]; omega)]
  | succ d ih =>
    intro i f f' o h hv hb hh
    have hG := hb.1.2.1
    obtain ⟨T, t0, gK, gW, -⟩ := hb.1.2.1
    have hms := Bq_MS hb
    have c1 := s_isOpen (N := 60) (by omega) gW (i := i) (by omega)
    have r1 := m_isOpen (b := 0) (by omega) hms (i := i) (by omega)
    cases hw : N.2.1 (i, 3) with
    | none =>
      rw [hw, if_pos rfl] at c1 r1
      obtain ⟨h1, o1, i1, i2, i3, i4⟩ := ih (i + 1) f f' o h (by omega) hb hh
      refine ⟨h1, o1, ?_, fun E => ?_, i3, i4⟩
      · rw [LX6_hashOfWires_5.eq_2, if_neg (by rw [j_8, jI_le (by omega) (by omega) (by omega) (by omega)]; omega), c1, b1_some, if_pos rfl, lT_eq, jI_p1]
        exact i1
      · rw [LX7_digest_68.eq_2, if_neg (by rw [j_8, jI_le (by omega) (by omega) (by omega) (by omega)]; omega), r1, b1_some, if_pos rfl, lT_eq, jI_p1]
        exact i2 E
    | some q =>
      rw [hw, if_neg (by intro z; cases z)] at c1 r1
      let oa := sL o 49 (((31 : Int64) * (oL o 49)) + (jI (i : Int)).toInt64)
      have hoa : Bq n M oa N N' t hi s s' l cs := Bq_mx hb _
      have la : oL oa 49 = ((31 : Int64) * h) + (jI (i : Int)).toInt64 := by
        show oL (sL o 49 _) 49 = _
        rw [oL_sL, hh]
      obtain ⟨h1, o1, i1, i2, i3, i4⟩ := ih (i + 1) f f' (sL oa 49 (((31 : Int64) * (oL oa 49)) + (jI (mp q : Int)).toInt64)) (((31 : Int64) * (((31 : Int64) * h) + (jI (i : Int)).toInt64)) + (jI (mp q : Int)).toInt64) (by omega) (Bq_mx hoa _) (by rw [oL_sL, la])
      refine ⟨h1, o1, ?_, fun E => ?_, i3, i4⟩
      · rw [LX6_hashOfWires_5.eq_2, if_neg (by rw [j_8, jI_le (by omega) (by omega) (by omega) (by omega)]; omega), c1, b1_some, if_neg (by decide), lT_eq, show FX2_toldAcross 60 (jI (i : Int)) (M 3) = some (jI (mp q)) from told (p := (i, 3)) (by omega) hb.1.1.1 hG hw, b1_some, lT_eq, lT_eq, jI_p1]
        exact i1
      · rw [LX7_digest_68.eq_2, if_neg (by rw [j_8, jI_le (by omega) (by omega) (by omega) (by omega)]; omega), r1, b1_some, if_neg (by decide), mx, b1_some, show (900 : Int32) + jI (i : Int) = jI (mp (i, 3)) from by rw [j_900, jI_add]; rfl]
        rw [show FX7_at (jI (mp (i, 3))) (sL o 49 (((31 : Int64) * (oL o 49)) + (jI (i : Int)).toInt64)) = some (jI (mp q)) from m_told (b := 0) (by omega) (Bq_MS hoa) hw, b1_some, mx, b1_some, lT_eq, jI_p1]
        exact i2 E
theorem dg_signs {o8 : Ob} {L : List Nat} (h1 : oV o8 2 = jI L.length) (h2 : SgA (oA o8 0) L) (h3 : L.length ≤ 556) : ∀ (d i f f' : Nat) (o : Ob) (h : Int64), i + d = L.length → oV o 34 = jI L.length → SgA (oA o 33) L → Bq n M o N N' t hi s s' l cs → oL o 49 = h → ∃ v o1, LX5_hashedInto_5 o8 (f + d + 1) h (jI i) = some v ∧ LX7_mixSigns_2 (f' + d + 1) (jI i) o = some o1 ∧ Bq n M o1 N N' t hi s s' l cs ∧ oL o1 49 = v := by
  intro d
  induction d with
  | zero =>
    intro i f f' o h hv g1 g2 hb hh
    refine ⟨h, o, ?_, ?_, hb, hh⟩
    · rw [LX5_hashedInto_5.eq_2, h1, if_pos (by rw [jI_le (by omega) (by omega) (by omega) (by omega)]; omega)]
    · rw [LX7_mixSigns_2.eq_2, g1, if_pos (by rw [jI_le (by omega) (by omega) (by omega) (by omega)]; omega)]
  | succ d ih =>
    intro i f f' o h hv g1 g2 hb hh
    have hg : L[i]? = some (L[i]'(by omega)) := List.getElem?_eq_getElem (by omega)
    have e1 := c_at h1 h2 h3 (v := i) (by omega)
    have e2 := g2 i _ hg
    rw [hg] at e1
    have e1' : FX5_at (jI i) o8 = some (jI (L[i]'(by omega) : Nat)) := e1
    obtain ⟨v, o1, i1, i2, i3, i4⟩ := ih (i + 1) f f' (sL o 49 (((31 : Int64) * (oL o 49)) + (jI (L[i]'(by omega) : Nat)).toInt64)) (((31 : Int64) * h) + (jI (L[i]'(by omega) : Nat)).toInt64) (by omega) g1 g2 (Bq_mx hb _) (by rw [oL_sL, hh])
    refine ⟨v, o1, ?_, ?_, i3, i4⟩
    · rw [LX5_hashedInto_5.eq_2, h1, if_neg (by rw [jI_le (by omega) (by omega) (by omega) (by omega)]; omega), e1', b1_some, lT_eq, lT_eq, jI_p1]
      exact i1
    · rw [LX7_mixSigns_2.eq_2, g1, if_neg (by rw [jI_le (by omega) (by omega) (by omega) (by omega)]; omega), j_1000, if_neg (by rw [jI_le (by omega) (by omega) (by omega) (by omega)]; omega), if_pos (by rw [jI_inb (by omega) (by omega)]; omega), jc _ (by omega), e2, mx, b1_some, lT_eq, jI_p1]
      exact i2
theorem dg_end {x3 : Int32} {e : Nat → Int32} {M1 : Nat → Ob} (hc : ∀ v : Nat, v < 7 → FX6_toldOfEnding x3 (jI v) M1 = some (e v)) (hr : ∀ o, Bq n M o N N' t hi s s' l cs → ∀ v : Nat, v < 7 → ∃ o', FX7_endingNow (jI v) o = some (e v, o') ∧ Wk o o' ∧ oV o' 4 = 0) : ∀ (d v f f' : Nat) (o : Ob) (h : Int64), v + d = 7 → Bq n M o N N' t hi s s' l cs → oL o 49 = h → ∃ h1 o1, (∀ E, LX6_hashOfEnding_6 x3 M1 E (f + d + 1) h (jI v) = E h1) ∧ (∀ E, LX7_mixNet_11 E (f' + d + 1) (jI v) o = E o1) ∧ Bq n M o1 N N' t hi s s' l cs ∧ oL o1 49 = h1 := by
  intro d
  induction d with
  | zero =>
    intro v f f' o h hv hb hh
    refine ⟨h, o, fun E => ?_, fun E => ?_, hb, hh⟩
    · rw [LX6_hashOfEnding_6.eq_2, if_pos (by rw [j_6, jI_lt (by omega) (by omega) (by omega) (by omega)]; omega)]
    · rw [LX7_mixNet_11.eq_2, if_pos (by rw [show (7 : Int32) = jI 7 from rfl, jI_le (by omega) (by omega) (by omega) (by omega)]; omega)]
  | succ d ih =>
    intro v f f' o h hv hb hh
    obtain ⟨o2, e1, e2, e3⟩ := hr o hb v (by omega)
    have hb2 := Bq_Wk hb e2 e3
    obtain ⟨h1, o1, i1, i2, i3, i4⟩ := ih (v + 1) f f' (sL o2 49 (((31 : Int64) * (oL o2 49)) + (e v).toInt64)) (((31 : Int64) * h) + (e v).toInt64) (by omega) (Bq_mx hb2 _) (by rw [oL_sL, e2.2.2.2.2.2.2, hh])
    refine ⟨h1, o1, fun E => ?_, fun E => ?_, i3, i4⟩
    · rw [LX6_hashOfEnding_6.eq_2, if_neg (by rw [j_6, jI_lt (by omega) (by omega) (by omega) (by omega)]; omega), hc v (by omega), b1_some, lT_eq, lT_eq, jI_p1]
      exact i1 E
    · rw [LX7_mixNet_11.eq_2, if_neg (by rw [show (7 : Int32) = jI 7 from rfl, jI_le (by omega) (by omega) (by omega) (by omega)]; omega), e1, b2_some, mx, b1_some, lT_eq, jI_p1]
      exact i2 E
theorem dg_page {pg : Ob} (hp : PgC pg l cs) (hl : l ≤ 80) : ∀ (d i f f' : Nat) (o : Ob) (h : Int64), i + d = l → PgM o l cs → Bq n M o N N' t hi s s' l cs → oL o 49 = h → ∃ v o1, LX3_hashedInto_5 pg (f + d + 1) h (jI i) = some v ∧ (∀ E, LX7_digest_121 E (f' + d + 1) (jI i) o = E o1) ∧ Bq n M o1 N N' t hi s s' l cs ∧ oL o1 49 = v := by
  intro d
  induction d with
  | zero =>
    intro i f f' o h hv g1 hb hh
    refine ⟨h, o, ?_, fun E => ?_, hb, hh⟩
    · rw [LX3_hashedInto_5.eq_2, hp.1, if_pos (by rw [jI_le (by omega) (by omega) (by omega) (by omega)]; omega)]
    · rw [LX7_digest_121.eq_2, g1.1, if_pos (by rw [jI_le (by omega) (by omega) (by omega) (by omega)]; omega)]
  | succ d ih =>
    intro i f f' o h hv g1 hb hh
    obtain ⟨v, o1, i1, i2, i3, i4⟩ := ih (i + 1) f f' (sL o 49 (((31 : Int64) * (oL o 49)) + (jI (cs i)).toInt64)) (((31 : Int64) * h) + (jI (cs i)).toInt64) (by omega) g1 (Bq_mx hb _) (by rw [oL_sL, hh])
    refine ⟨v, o1, ?_, fun E => ?_, i3, i4⟩
    · rw [LX3_hashedInto_5.eq_2, hp.1, if_neg (by rw [jI_le (by omega) (by omega) (by omega) (by omega)]; omega), p_at hp hl (by omega), b1_some, lT_eq, lT_eq, jI_p1]
      exact i1
    · rw [LX7_digest_121.eq_2, g1.1, if_neg (by rw [jI_le (by omega) (by omega) (by omega) (by omega)]; omega), if_pos (by rw [jI_inb (by omega) (by omega)]; omega), jc _ (by omega), g1.2 i (by omega), mx, b1_some, lT_eq, jI_p1]
      exact i2 E
theorem dg_count : ∀ (d v f f' : Nat) (M : Nat → Ob) (o : Ob) (h : Int64), v + d = 15 → Bq n M o N N' t hi s s' l cs → oL o 49 = h → ∃ h1 M1 o1, LX6_digest_62 (f + d + 1) h (jI v) M = some (h1, M1) ∧ LX7_digest_148 (f' + d + 1) (jI v) o = some (h1, o1) ∧ Bq n M1 o1 N N' t hi s s' l cs := by
  intro d
  induction d with
  | zero =>
    intro v f f' M o h hv hb hh
    refine ⟨h, M, o, ?_, ?_, hb⟩
    · rw [LX6_digest_62.eq_2, if_pos (by rw [show (14 : Int32) = jI 14 from rfl, jI_lt (by omega) (by omega) (by omega) (by omega)]; omega)]
    · rw [LX7_digest_148.eq_2, if_pos (by rw [show (15 : Int32) = jI 15 from rfl, jI_le (by omega) (by omega) (by omega) (by omega)]; omega), hh]
  | succ d ih =>
    intro v f f' M o h hv hb hh
    obtain ⟨r, M2, e1, e2, e3⟩ := count_val hb (v := v) (by omega)
    obtain ⟨h1, M1, o1, i1, i2, i3⟩ := ih (v + 1) f f' M2 (sL o 49 (((31 : Int64) * (oL o 49)) + r.toInt64)) (((31 : Int64) * h) + r.toInt64) (by omega) (Bq_mx (Bq_Cls hb e3) _) (by rw [oL_sL, hh])
    refine ⟨h1, M1, o1, ?_, ?_, i3⟩
    · rw [LX6_digest_62.eq_2, if_neg (by rw [show (14 : Int32) = jI 14 from rfl, jI_lt (by omega) (by omega) (by omega) (by omega)]; omega), e1, b2_some, lT_eq, lT_eq, jI_p1]
      exact i1
    · rw [LX7_digest_148.eq_2, if_neg (by rw [show (15 : Int32) = jI 15 from rfl, jI_le (by omega) (by omega) (by omega) (by omega)]; omega), e2, b2_some, mx, b1_some, lT_eq, jI_p1]
      exact i2
theorem dg_rest {o : Ob} {h : Int64} (hb : Bq n M o N N' t hi s s' l cs) (hh : oL o 49 = h) : ∃ v h1 M1 o1, FX3_hashedInto h (M 1) = some v ∧ LX6_digest_62 fu v 0 M = some (h1, M1) ∧ LX7_digest_121 (fun o0_59 => LX7_digest_148 fu (0 : Int32) o0_59) fu (0 : Int32) o = some (h1, o1) ∧ Bq n M1 o1 N N' t hi s s' l cs := by
  obtain ⟨p1, p2, p3, p4⟩ := hb.2.2.2.2.2.2.2.2
  obtain ⟨v, o1, a1, a2, a3, a4⟩ := dg_page p2 p1 l 0 (4999 - l) (4999 - l) o h (by omega) p3 hb hh
  obtain ⟨h1, M1, o2, b1, b2, b3⟩ := dg_count 15 0 4984 4984 M o1 v (by omega) a3 a4
  rw [show 4999 - l + l + 1 = fu from by rw [show fu = 5000 from rfl]; omega] at a1 a2
  refine ⟨v, h1, M1, o2, a1, b1, ?_, b3⟩
  refine (a2 _).trans ?_
  exact b2
theorem ok_digest (hn : n < 64) {o : Ob} (hbd : Bd n M o) : ∃ (r : Int64) (M' : Nat → Ob) (o' : Ob), FX6_digest M = some (r, M') ∧ FX7_digest o = some (r, o') ∧ Bd (n + 1) M' o' := by
  obtain ⟨N, N', t, hi, s, s', l, cs, h⟩ := hbd
  obtain ⟨n0, n1, n2⟩ := isNet_t h.2.2.1 h.2.2.2.1 (by omega)
  obtain ⟨bd1, bd2⟩ := NB_bd h.1
  have hs := sV_self h.2.1
  obtain ⟨h1, o1, a1, a2, a3, a4⟩ := dg_nodes 60 0 4939 4940 (sL o 49 1153) 1153 (by omega) (Bq_mx h _) (oL_sL _ _ _)
  obtain ⟨h2, o2, w1, w2, w3, w4⟩ := dg_wires 8 0 4991 4991 o1 h1 (by omega) a3 a4
  have C1 : FX6_digest M = (if (oV (M 0) 10) = 0 then
    b1 (FX3_hashedInto h2 (M 1)) fun r_27 =>
    LX6_digest_62  fu r_27 (0 : Int32) M
  else
    b1 (FX5_tellAll 60 (M 8) (M 3)) fun s_5 =>
    lT (sM M 8 s_5) fun M_7 =>
    b1 (FX5_hashedInto h2 (M_7 8)) fun r_9 =>
    b2 (FX6_findEnding_3 M_7) fun r_11 M_12 =>
    b2 (FX6_hashOfEnding r_9 r_11 M_12) fun r_14 M_15 =>
    b1 (FX3_hashedInto r_14 (M_15 1)) fun r_17 =>
    LX6_digest_62  fu r_17 (0 : Int32) M_15) := by
    unfold FX6_digest FX6_hashOfNodes FX6_hashOfWires
    rw [show LX6_hashOfNodes_5 M fu 1153 0 = some h1 from a1, b1_some, show LX6_hashOfWires_5 M fu h1 0 = some h2 from w1, b1_some]
  have R1 : FX7_digest o = (b1 (FX7_isNet o2) fun r_40 =>
    if r_40 = 0 then
    LX7_digest_121 (fun o0_59 =>
     LX7_digest_148 fu (0 : Int32) o0_59) fu (0 : Int32) o2
    else
    b1 (FX7_mixNet o2) fun o0_42 =>
    LX7_digest_121 (fun o0_50 =>
     LX7_digest_148 fu (0 : Int32) o0_50) fu (0 : Int32) o0_42) := by
    unfold FX7_digest
    rw [lT_eq, hs, lT_eq]
    refine (a2 _).trans ?_
    refine (dg_tail a3 _ 120 60 4819 (by omega) (by omega)).trans ?_
    exact w2 _
  obtain ⟨m0, m1, -⟩ := isNet_t w3.2.2.1 w3.2.2.2.1 (by omega)
  by_cases t0 : t = 0
  · obtain ⟨v, h3, M3, o3, c1, c2, c3, c4⟩ := dg_rest w3 w4
    refine ⟨h3, M3, o3, ?_, ?_, Bq_up c4⟩
    · rw [C1, if_pos (n2.mpr t0), c1, b1_some, c2]
    · rw [R1, m0 t0, b1_some, if_pos rfl, c3]
  · obtain ⟨o8, e1, e2, e3, e4⟩ := c_tellAll (N := 60) (by omega) h.1.1.1 h.1.2.1 (M 8)
    obtain ⟨o3, f1, f2, f3, f4, f5, f6, f7⟩ := m_layReading (b := 0) (by omega) w3.1.1.1 w3.1.2.2.1 bd1
    have hb3 := Bq_Wk w3 f6 f5
    obtain ⟨h4, o4, g1, g2, g3, g4⟩ := dg_signs e2 e3 e4 (rdg N.1 N.2.1).length 0 (4999 - (rdg N.1 N.2.1).length) (4999 - (rdg N.1 N.2.1).length) o3 h2 (by omega) f2 f3 hb3 (by rw [f6.2.2.2.2.2.2, w4])
    rw [show 4999 - (rdg N.1 N.2.1).length + (rdg N.1 N.2.1).length + 1 = fu from by rw [show fu = 5000 from rfl]; omega] at g1 g2
    have g1' : FX5_hashedInto h2 o8 = some h4 := g1
    have g2' : FX7_mixSigns o3 = some o4 := g2
    have C2 : FX6_digest M = (b2 (FX6_findEnding_3 (sM M 8 o8)) fun r_11 M_12 =>
    b2 (FX6_hashOfEnding h4 r_11 M_12) fun r_14 M_15 =>
    b1 (FX3_hashedInto r_14 (M_15 1)) fun r_17 =>
    LX6_digest_62  fu r_17 (0 : Int32) M_15) := by
      rw [C1, if_neg (fun z => t0 (n2.mp z)), e1, b1_some, lT_eq, show (sM M 8 o8) 8 = o8 from rfl, g1', b1_some]
    have R2 : FX7_digest o = (b1 (LX7_mixNet_11 (fun o0_13 =>
   b2 (FX7_layEnding (0 : Int32) o0_13) fun r_14 o0_15 =>
   if r_14 = 0 then
    some o0_15
   else
    b1 (FX7_layReading (2 : Int32) o0_15) fun o0_17 =>
    b1 (FX7_mixSigns o0_17) fun o0_19 =>
    some o0_19) fu (0 : Int32) o4) fun o0_42 =>
    LX7_digest_121 (fun o0_50 =>
     LX7_digest_148 fu (0 : Int32) o0_50) fu (0 : Int32) o0_42) := by
      rw [R1, m1 t0, b1_some, if_neg (by decide)]
      unfold FX7_mixNet
      rw [show FX7_layReading 0 o2 = some o3 from f1, b1_some, g2', b1_some]
    obtain ⟨x1, x2, hh⟩ := c_find (M := sM M 8 o8) h.1.1 h.1.2.1
    have g3' : Bq n (sM M 8 o8) o4 N N' t hi s s' l cs := Bq_Cls g3 (Cls_sM M _ (by omega))
    rcases hh with ⟨R, ss, M1, y1, y2, y3, y4, y5⟩ | ⟨y1, y2⟩
    · obtain ⟨rr1, gd1, nf1⟩ := EndD_Rs h.1.1 y2
      obtain ⟨h5, o5, z1, z2, z3, z4⟩ := dg_end (x3 := 1) (e := fun v => jI (ev R ss M1 v)) (M1 := sM (sM (sM M 8 o8) 5 x1) 5 x2) (fun v hv => c_told y3 y4 y5 rfl hv) (fun o ho v hv => m_told2 ho.1.1 ho.1.2.2.1 bd2 bd1 y2 hv) 7 0 4992 4992 o4 h4 (by omega) g3' g4
      obtain ⟨o6, M2, q1, q2, q3, q4, q5, q6, q7, q8, q9⟩ := m_end (b := 0) (by omega) z3.1.1 z3.1.2.2.1 bd2 bd1 y2
      obtain ⟨o9, e1, e2, e3, e4⟩ := c_tellAll (N := 180) (by omega) gd1.1 y3 o8
      obtain ⟨o7, p1, p2, p3, p4, p5, p6, p7⟩ := m_layReading (b := 2) (by omega) q3.1 q2 q2.1.2.1
      rw [q9] at p2 p3 p4
      have hb7 := Bq_Wk (Bq_Wk z3 q6 q4) p6 p5
      obtain ⟨h8, o10, k1, k2, k3, k4⟩ := dg_signs e2 e3 e4 (rdg M1.1 M1.2.1).length 0 (4999 - (rdg M1.1 M1.2.1).length) (4999 - (rdg M1.1 M1.2.1).length) o7 h5 (by omega) p2 p3 hb7 (by rw [p6.2.2.2.2.2.2, q6.2.2.2.2.2.2, z4])
      rw [show 4999 - (rdg M1.1 M1.2.1).length + (rdg M1.1 M1.2.1).length + 1 = fu from by rw [show fu = 5000 from rfl]; omega] at k1 k2
      have k1' : FX5_hashedInto h5 o9 = some h8 := k1
      have k2' : FX7_mixSigns o7 = some o10 := k2
      have k3' : Bq n (sM (sM (sM (sM M 8 o8) 5 x1) 5 x2) 8 o9) o10 N N' t hi s s' l cs := Bq_Cls k3 (Cls_tr (Cls_55 _ _ _) (Cls_sM _ _ (by omega)))
      obtain ⟨v, h9, M9, o11, c1, c2, c3, c4⟩ := dg_rest k3' k4
      refine ⟨h9, M9, o11, ?_, ?_, Bq_up c4⟩
      · rw [C2, y1, b2_some]
        have u1 : FX6_hashOfEnding h4 1 (sM (sM (sM M 8 o8) 5 x1) 5 x2) = some (h8, sM (sM (sM (sM M 8 o8) 5 x1) 5 x2) 8 o9) := by
          unfold FX6_hashOfEnding
          refine (z1 _).trans ?_
          rw [if_neg (by decide), show (sM (sM (sM M 8 o8) 5 x1) 5 x2) 5 = x2 from rfl, show (sM (sM (sM M 8 o8) 5 x1) 5 x2) 8 = o8 from rfl, e1, b1_some, lT_eq, show (sM (sM (sM (sM M 8 o8) 5 x1) 5 x2) 8 o9) 8 = o9 from rfl, k1', b1_some]
        rw [u1, b2_some, c1, b1_some, c2]
      · rw [R2]
        have u2 := z2 (fun o0_13 =>
   b2 (FX7_layEnding (0 : Int32) o0_13) fun r_14 o0_15 =>
   if r_14 = 0 then
    some o0_15
   else
    b1 (FX7_layReading (2 : Int32) o0_15) fun o0_17 =>
    b1 (FX7_mixSigns o0_17) fun o0_19 =>
    some o0_19)
        rw [show FX7_layEnding 0 o5 = some (1, o6) from q1, b2_some, if_neg (by decide), show FX7_layReading 2 o6 = some o7 from p1, b1_some, k2', b1_some] at u2
        rw [show LX7_mixNet_11 _ fu 0 o4 = some o10 from u2, b1_some, c3]
    · obtain ⟨h5, o5, z1, z2, z3, z4⟩ := dg_end (x3 := 0) (e := fun _ => -1) (M1 := sM (sM (sM M 8 o8) 5 x1) 5 x2) (fun v hv => by unfold FX6_toldOfEnding; rw [if_pos rfl]) (fun o ho v hv => m_told0 ho.1.1 ho.1.2.2.1 bd2 y2 (jI v)) 7 0 4992 4992 o4 h4 (by omega) g3' g4
      obtain ⟨o6, q1, q2, q3⟩ := m_noend (b := 0) (by omega) z3.1.1 z3.1.2.2.1 bd2 y2
      have k3' : Bq n (sM (sM (sM M 8 o8) 5 x1) 5 x2) o6 N N' t hi s s' l cs := Bq_Cls (Bq_Wk z3 q3 q2) (Cls_55 _ _ _)
      obtain ⟨v, h9, M9, o11, c1, c2, c3, c4⟩ := dg_rest k3' (by rw [q3.2.2.2.2.2.2, z4])
      refine ⟨h9, M9, o11, ?_, ?_, Bq_up c4⟩
      · rw [C2, y1, b2_some]
        have u1 : FX6_hashOfEnding h4 0 (sM (sM (sM M 8 o8) 5 x1) 5 x2) = some (h5, sM (sM (sM M 8 o8) 5 x1) 5 x2) := by
          unfold FX6_hashOfEnding
          refine (z1 _).trans ?_
          rw [if_pos rfl]
        rw [u1, b2_some, c1, b1_some, c2]
      · rw [R2]
        have u2 := z2 (fun o0_13 =>
   b2 (FX7_layEnding (0 : Int32) o0_13) fun r_14 o0_15 =>
   if r_14 = 0 then
    some o0_15
   else
    b1 (FX7_layReading (2 : Int32) o0_15) fun o0_17 =>
    b1 (FX7_mixSigns o0_17) fun o0_19 =>
    some o0_19)
        rw [show FX7_layEnding 0 o5 = some (0, o6) from q1, b2_some, if_pos rfl] at u2
        rw [show LX7_mixNet_11 _ fu 0 o4 = some o6 from u2, b1_some, c3]
end CA
