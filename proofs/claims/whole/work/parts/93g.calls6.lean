/-! the ending, readings -/
def EndD (N : Nt) (R : Nat) (ss : List Nat) (M1 : Nt) : Prop := Rnd R N ss M1 ∧ ss.length ≤ 60 ∧ ∀ m, 180 ≤ m → M1.1 m = none
def NoEnd (N : Nt) : Prop := ∀ l' M, Rs l' N M → Nf M → 60 < l'.length
def ev (R : Nat) (ss : List Nat) (M1 : Nt) (v : Nat) : Nat := if v = 4 then R else if v = 5 then cnt M1.1 180 else if v = 6 then M1.2.2 else dnc ss v
theorem sV_sV (o : Ob) (k : Nat) (x y : Int32) : sV (sV o k x) k y = sV o k y := by
  have e : ∀ f : Nat → Int32, upd (upd f k x) k y = upd f k y := fun f => by
    funext j
    unfold upd
    by_cases c : j = k
    · rw [if_pos c, if_pos c]
    · rw [if_neg c, if_neg c, if_neg c]
  unfold sV
  rw [e]
section C6
variable {n : Nat} {M : Nat → Ob} {o : Ob}
theorem EndD_Rs {N M1 : Nt} {R : Nat} {ss : List Nat} (hG : Good N) (h : EndD N R ss M1) : Rs ss N M1 ∧ Good M1 ∧ Nf M1 := by
  obtain ⟨a, b, c⟩ := Rnd_Rs R N ss M1 hG h.1
  exact ⟨a, b, mtn_Nf (n := 180) b h.2.2 c⟩
/-- the class finds an ending -/
theorem c_end {g g5 : Ob} {N : Nt} (hG : Good N) (hR : RGr 60 g N.1 N.2.1 N.2.2) : ∃ g1 g2, FX2_copyFrom 180 60 g5 g = some g1 ∧ ((∃ R ss M1, FX2_finish 180 g1 = some (1, g2) ∧ EndD N R ss M1 ∧ RGr 180 g2 M1.1 M1.2.1 M1.2.2 ∧ oV g2 9 = jI R ∧ ∀ j, j < 4 → oA g2 3 j = jI (dnc ss j)) ∨ (FX2_finish 180 g1 = some (0, g2) ∧ NoEnd N)) := by
  have hbd := RGr_bd hR
  obtain ⟨g1, e1, r1, -⟩ := s_copyFrom (N := 180) (N' := 60) (by omega) (by omega) hG.1 hR (g0 := g5) (fun j hj => hbd j (by omega))
  have hc : cnt N.1 180 ≤ 60 := by rw [cnt_60 hR]; exact cnt_le _ _
  rcases s_finish hG r1 hc with ⟨g2, R, ss, M1, f1, f2, f3, f4, f5, f6⟩ | ⟨g2, f1, f2⟩
  · exact ⟨g1, g2, e1, Or.inl ⟨R, ss, M1, f1, ⟨f2, f3, RGr_bd f4⟩, f4, f5, f6⟩⟩
  · exact ⟨g1, g2, e1, Or.inr ⟨f1, f2⟩⟩
/-- the reference's, by what the class found -/
theorem m_end {b : Nat} (hb : b < 2) {o : Ob} {N M1 : Nt} {R : Nat} {ss : List Nat} (hG : Good N) (hS : Sl b o N.1 N.2.1 N.2.2) (hc : cnt N.1 180 ≤ 60) (hbd : ∀ m, 180 ≤ m → N.1 m = none) (hE : EndD N R ss M1) : ∃ o' M2, FX7_layEnding (jI b) o = some (1, o') ∧ Sl 2 o' M2.1 M2.2.1 M2.2.2 ∧ Good M2 ∧ oV o' 4 = 0 ∧ (∀ j, j < 4 → oA o' 30 j = jI (dnc ss j)) ∧ Wk o o' ∧ cnt M2.1 180 = cnt M1.1 180 ∧ M2.2.2 = M1.2.2 ∧ rdg M2.1 M2.2.1 = rdg M1.1 M1.2.1 := by
  obtain ⟨r1, g1, nf1⟩ := EndD_Rs hG hE
  rcases m_layEnding hG hb hS hc with ⟨o', l, M2, q1, q2, q3, q4, q5, q6, q7, q8, q9⟩ | ⟨o', q1, q2, q3, q4⟩
  · obtain ⟨i1, i2, i3⟩ := conf_end hG r1 nf1 q3 q4
    have hb2 : ∀ m, 180 ≤ m → M2.1 m = none := q6.1.2.1
    have c1 := Rs_cnt180 hG r1 hbd hE.2.2
    have c2 := Rs_cnt180 hG q3 hbd hb2
    rw [i2 1, i2 2] at c1
    refine ⟨o', M2, q1, q6, q2, q7, fun j hj => ?_, q9, by omega, ?_, rdg_iso q2 hb2 i1⟩
    · rw [q8 j hj]
      congr 2
      unfold dnc
      split
      · exact i3.symm
      · exact (i2 j).symm
    · obtain ⟨f, g, hh, -⟩ := i1
      exact hh.2.2.2
  · exfalso
    have := q4 ss M1 r1 nf1
    have := hE.2.1
    omega
theorem m_noend {b : Nat} (hb : b < 2) {o : Ob} {N : Nt} (hG : Good N) (hS : Sl b o N.1 N.2.1 N.2.2) (hc : cnt N.1 180 ≤ 60) (hE : NoEnd N) : ∃ o', FX7_layEnding (jI b) o = some (0, o') ∧ oV o' 4 = 0 ∧ Wk o o' := by
  rcases m_layEnding hG hb hS hc with ⟨o', l, M2, q1, q2, q3, q4, q5, q6, q7, q8, q9⟩ | ⟨o', q1, q2, q3, q4⟩
  · exfalso
    have := hE l M2 q3 q4
    omega
  · exact ⟨o', q1, q2, q3⟩
theorem c_told {g2 : Ob} {M1 : Nt} {R : Nat} {ss : List Nat} (rg : RGr 180 g2 M1.1 M1.2.1 M1.2.2) (h9 : oV g2 9 = jI R) (hd : ∀ j, j < 4 → oA g2 3 j = jI (dnc ss j)) {M : Nat → Ob} (hM : M 5 = g2) {v : Nat} (hv : v < 7) : FX6_toldOfEnding 1 (jI v) M = some (jI (ev R ss M1 v)) := by
  unfold FX6_toldOfEnding ev
  rw [if_neg (by decide), hM]
  have n6 := RGr_6 rg
  obtain ⟨T, t, -, -, a3, -⟩ := rg
  have lit : ∀ k : Nat, k < 100 → ((jI (v : Int) = jI k) ↔ v = k) := fun k hk => by rw [jI_eq (by omega) (by omega) (by omega) (by omega)]; omega
  by_cases c4 : v = 4
  · rw [if_pos (by rw [c4]; rfl), if_pos c4]
    unfold FX2_rounds
    rw [b1_some, h9]
  · rw [if_neg (by rw [j_4]; exact fun z => c4 ((lit 4 (by omega)).mp z)), if_neg c4]
    by_cases c5 : v = 5
    · rw [if_pos (by rw [c5]; rfl), if_pos c5, n6, b1_some]
    · rw [if_neg (by rw [j_5]; exact fun z => c5 ((lit 5 (by omega)).mp z)), if_neg c5]
      by_cases c6 : v = 6
      · rw [if_pos (by rw [c6]; rfl), if_pos c6]
        unfold FX2_rings
        rw [b1_some, a3]
      · rw [if_neg (by rw [j_6]; exact fun z => c6 ((lit 6 (by omega)).mp z)), if_neg c6]
        unfold FX2_done
        rw [if_neg (by rw [j_0, jI_lt (by omega) (by omega) (by omega) (by omega)]; omega), if_neg (by rw [j_4, jI_le (by omega) (by omega) (by omega) (by omega)]; omega), if_pos (by rw [jI_inb (by omega) (by omega)]; omega), jc _ (by omega), b1_some, hd v (by omega)]
theorem m_told2 {o : Ob} {N M1 : Nt} {R : Nat} {ss : List Nat} (hG : Good N) (hS : Sl 0 o N.1 N.2.1 N.2.2) (hc : cnt N.1 180 ≤ 60) (hbd : ∀ m, 180 ≤ m → N.1 m = none) (hE : EndD N R ss M1) {v : Nat} (hv : v < 7) : ∃ o', FX7_endingNow (jI v) o = some (jI (ev R ss M1 v), o') ∧ Wk o o' ∧ oV o' 4 = 0 := by
  obtain ⟨o1, M2, e1, s2, g2, v4, h30, w1, cn, rn, -⟩ := m_end (b := 0) (by omega) hG hS hc hbd hE
  have e1' : FX7_layEnding (0 : Int32) o = some (1, o1) := e1
  unfold FX7_endingNow
  rw [e1', b2_some, if_neg (by decide)]
  by_cases c4 : 4 ≤ v
  · rw [if_pos (by rw [j_4, jI_le (by omega) (by omega) (by omega) (by omega)]; omega)]
    by_cases c44 : v = 4
    · obtain ⟨o3, q1, q2, q3, q4⟩ := m_layRounds hG (Sl_Wk (by omega) hS w1) hE.1 hE.2.1 hc
      rw [if_pos (by rw [c44]; rfl), q1, b1_some, q2, show ev R ss M1 v = R from by unfold ev; rw [if_pos c44]]
      exact ⟨o3, rfl, Wk_tr w1 q4, q3⟩
    · have ms2 : MS 2 (sV o1 4 2) M2.1 M2.2.1 M2.2.2 := ⟨rfl, s2⟩
      have hs : sV (sV o1 4 2) 4 0 = o1 := by
        rw [sV_sV]
        exact sV_self v4
      rw [if_neg (by rw [j_4, jI_eq (by omega) (by omega) (by omega) (by omega)]; omega), lT_eq, MS_nodes (by omega) ms2, b1_some, lT_eq, hs]
      by_cases c5 : v = 5
      · rw [if_pos (by rw [c5]; rfl), show ev R ss M1 v = cnt M1.1 180 from by unfold ev; rw [if_neg c44, if_pos c5], cn]
        exact ⟨o1, rfl, w1, v4⟩
      · rw [if_neg (by rw [j_5, jI_eq (by omega) (by omega) (by omega) (by omega)]; omega), show ev R ss M1 v = M1.2.2 from by unfold ev; rw [if_neg c44, if_neg c5, if_pos (by omega)], show (2 : Int32).toNatClampNeg = 2 from rfl, s2.2.2, rn]
        exact ⟨o1, rfl, w1, v4⟩
  · rw [if_neg (by rw [j_4, jI_le (by omega) (by omega) (by omega) (by omega)]; omega), if_pos (by rw [jI_inb (by omega) (by omega)]; omega), jc _ (by omega), h30 v (by omega), show ev R ss M1 v = dnc ss v from by unfold ev; rw [if_neg (by omega), if_neg (by omega), if_neg (by omega)]]
    exact ⟨o1, rfl, w1, v4⟩
theorem m_told0 {o : Ob} {N : Nt} (hG : Good N) (hS : Sl 0 o N.1 N.2.1 N.2.2) (hc : cnt N.1 180 ≤ 60) (hE : NoEnd N) (x : Int32) : ∃ o', FX7_endingNow x o = some (-1, o') ∧ Wk o o' ∧ oV o' 4 = 0 := by
  obtain ⟨o1, e1, v4, w1⟩ := m_noend (b := 0) (by omega) hG hS hc hE
  unfold FX7_endingNow
  rw [show (0 : Int32) = jI ((0 : Nat) : Int) from rfl, e1, b2_some, if_pos (by rfl)]
  exact ⟨o1, rfl, w1, v4⟩
theorem c_find {N : Nt} (hG : Good N) (hR : RGr 60 (M 3) N.1 N.2.1 N.2.2) : ∃ g1 g2, (∃ R ss M1, FX6_findEnding_3 M = some (1, sM (sM M 5 g1) 5 g2) ∧ EndD N R ss M1 ∧ RGr 180 g2 M1.1 M1.2.1 M1.2.2 ∧ oV g2 9 = jI R ∧ ∀ j, j < 4 → oA g2 3 j = jI (dnc ss j)) ∨ (FX6_findEnding_3 M = some (0, sM (sM M 5 g1) 5 g2) ∧ NoEnd N) := by
  obtain ⟨g1, g2, e1, hh⟩ := c_end (g5 := M 5) hG hR
  refine ⟨g1, g2, ?_⟩
  unfold FX6_findEnding_3
  rw [e1, b1_some, lT_eq, show (sM M 5 g1) 5 = g1 from rfl]
  rcases hh with ⟨R, ss, M1, f1, f2⟩ | ⟨f1, f2⟩
  · left
    rw [f1, b2_some, lT_eq, if_pos isb1]
    exact ⟨R, ss, M1, rfl, f2⟩
  · right
    rw [f1, b2_some, lT_eq, if_pos isb0]
    exact ⟨rfl, f2⟩
theorem c_find4 {N : Nt} (hG : Good N) (hR : RGr 60 (M 4) N.1 N.2.1 N.2.2) : ∃ g1 g2, (∃ R ss M1, FX6_findEnding_4 M = some (1, sM (sM M 5 g1) 5 g2) ∧ EndD N R ss M1 ∧ RGr 180 g2 M1.1 M1.2.1 M1.2.2 ∧ oV g2 9 = jI R ∧ ∀ j, j < 4 → oA g2 3 j = jI (dnc ss j)) ∨ (FX6_findEnding_4 M = some (0, sM (sM M 5 g1) 5 g2) ∧ NoEnd N) := by
  obtain ⟨g1, g2, e1, hh⟩ := c_end (g5 := M 5) hG hR
  refine ⟨g1, g2, ?_⟩
  unfold FX6_findEnding_4
  rw [e1, b1_some, lT_eq, show (sM M 5 g1) 5 = g1 from rfl]
  rcases hh with ⟨R, ss, M1, f1, f2⟩ | ⟨f1, f2⟩
  · left
    rw [f1, b2_some, lT_eq, if_pos isb1]
    exact ⟨R, ss, M1, rfl, f2⟩
  · right
    rw [f1, b2_some, lT_eq, if_pos isb0]
    exact ⟨rfl, f2⟩
theorem Cls_55 (M : Nat → Ob) (x y : Ob) : Cls M (sM (sM M 5 x) 5 y) := Cls_tr (Cls_sM M x (by omega)) (Cls_sM _ y (by omega))
theorem NB_bd {g o : Ob} {b dr : Nat} {N : Nt} (h : NB g o b dr N) : (∀ m, 180 ≤ m → N.1 m = none) ∧ cnt N.1 180 ≤ 60 := ⟨fun m hm => RGr_bd h.2.1 m (by omega), by rw [cnt_60 h.2.1]; exact cnt_le _ _⟩
theorem ok_ending (hn : n < 64) (hb : Bd n M o) (x1 : Int32) : ∃ (r : Int32) (M' : Nat → Ob) (o' : Ob), FX6_ending x1 M = some (r, M') ∧ FX7_ending x1 o = some (r, o') ∧ Bd (n + 1) M' o' := by
  obtain ⟨N, N', t, hi, s, s', l, cs, h⟩ := hb
  obtain ⟨a, rfl, a1, a2⟩ := int_jI x1
  obtain ⟨n0, n1, n2⟩ := isNet_t h.2.2.1 h.2.2.2.1 (by omega)
  by_cases c : 0 ≤ a ∧ a ≤ 6
  · obtain ⟨v, rfl⟩ := Int.eq_ofNat_of_zero_le (show 0 ≤ a by omega)
    have wi : FX7_within (jI (v : Int)) (0 : Int32) (6 : Int32) = some 1 := by
      have z := within_jI (a := v) (lo := 0) (hi := 6) (by omega) (by omega) (by omega) (by omega) (by omega) (by omega)
      rw [if_pos (by omega)] at z
      exact z
    by_cases t0 : t = 0
    · refine ⟨-103, M, o, ?_, ?_, Bq_up h⟩
      · unfold FX6_ending
        rw [if_neg (by rw [j_0, jI_lt (by omega) (by omega) (by omega) (by omega)]; omega), if_pos (by rw [j_6, jI_le (by omega) (by omega) (by omega) (by omega)]; omega), if_pos (n2.mpr t0)]
      · unfold FX7_ending
        rw [wi, b1_some, if_neg (by decide), n0 t0, b1_some, if_pos rfl]
    · obtain ⟨bd1, bd2⟩ := NB_bd h.1
      have cls0 : FX6_ending (jI (v : Int)) M = b2 (FX6_findEnding_3 M) fun r_1 M_2 => b1 (FX6_toldOfEnding r_1 (jI v) M_2) fun r_4 => some (r_4, M_2) := by
        unfold FX6_ending
        rw [if_neg (by rw [j_0, jI_lt (by omega) (by omega) (by omega) (by omega)]; omega), if_pos (by rw [j_6, jI_le (by omega) (by omega) (by omega) (by omega)]; omega), if_neg (fun z => t0 (n2.mp z))]
      have ref0 : FX7_ending (jI (v : Int)) o = b2 (FX7_endingNow (jI v) o) fun r_5 o0_6 => some (r_5, o0_6) := by
        unfold FX7_ending
        rw [wi, b1_some, if_neg (by decide), n1 t0, b1_some, if_neg (by decide)]
      obtain ⟨g1, g2, hh⟩ := c_find (M := M) h.1.1 h.1.2.1
      rcases hh with ⟨R, ss, M1, f1, f2, f3, f4, f5⟩ | ⟨f1, f2⟩
      · obtain ⟨o', q1, q2, q3⟩ := m_told2 h.1.1 h.1.2.2.1 bd2 bd1 f2 (v := v) (by omega)
        rw [f1, b2_some, c_told f3 f4 f5 rfl (by omega), b1_some] at cls0
        rw [q1, b2_some] at ref0
        exact ⟨_, _, _, cls0, ref0, Bq_up (Bq_Cls (Bq_Wk h q2 q3) (Cls_55 M _ _))⟩
      · obtain ⟨o', q1, q2, q3⟩ := m_told0 h.1.1 h.1.2.2.1 bd2 f2 (jI v)
        rw [f1, b2_some] at cls0
        unfold FX6_toldOfEnding at cls0
        rw [if_pos rfl, b1_some] at cls0
        rw [q1, b2_some] at ref0
        exact ⟨_, _, _, cls0, ref0, Bq_up (Bq_Cls (Bq_Wk h q2 q3) (Cls_55 M _ _))⟩
  · refine ⟨-102, M, o, ?_, ?_, Bq_up h⟩
    · unfold FX6_ending
      by_cases c1 : a < 0
      · rw [if_pos (by rw [j_0, jI_lt (by omega) (by omega) (by omega) (by omega)]; omega)]
      · rw [if_neg (by rw [j_0, jI_lt (by omega) (by omega) (by omega) (by omega)]; omega), if_neg (by rw [j_6, jI_le (by omega) (by omega) (by omega) (by omega)]; omega)]
    · unfold FX7_ending
      have z := within_jI (lo := 0) (hi := 6) a1 a2 (by omega) (by omega) (by omega) (by omega)
      rw [if_neg (by omega)] at z
      rw [show FX7_within (jI a) (0 : Int32) (6 : Int32) = some 0 from z, b1_some, if_pos rfl]
/-- a sign of a reading -/
theorem c_at {o8 : Ob} {l : List Nat} (h1 : oV o8 2 = jI l.length) (h2 : SgA (oA o8 0) l) (h3 : l.length ≤ 556) {v : Nat} (hv : v < 2147483648) : FX5_at (jI v) o8 = some (jI (kI l[v]?)) := by
  unfold FX5_at
  rw [if_neg (by rw [j_0, jI_lt (by omega) (by omega) (by omega) (by omega)]; omega), h1]
  by_cases c : v < l.length
  · have hg : l[v]? = some (l[v]'c) := List.getElem?_eq_getElem c
    rw [if_neg (by rw [jI_le (by omega) (by omega) (by omega) (by omega)]; omega), j_556, if_neg (by rw [jI_le (by omega) (by omega) (by omega) (by omega)]; omega), if_pos (by rw [jI_inb (by omega) (by omega)]; omega), jc _ (by omega), h2 v _ hg, hg]
    rfl
  · rw [if_pos (by rw [jI_le (by omega) (by omega) (by omega) (by omega)]; omega), List.getElem?_eq_none (by omega)]
    rfl
theorem m_signAt {o' : Ob} {l : List Nat} (h1 : oV o' 34 = jI l.length) (h2 : SgA (oA o' 33) l) (h3 : l.length ≤ 556) {v : Nat} (hv : v < 1000) : FX7_signAt (jI v) o' = some (jI (kI l[v]?)) := by
  unfold FX7_signAt
  rw [h1]
  by_cases c : v < l.length
  · have hg : l[v]? = some (l[v]'c) := List.getElem?_eq_getElem c
    rw [if_neg (by rw [jI_le (by omega) (by omega) (by omega) (by omega)]; omega), if_pos (by rw [jI_inb (by omega) (by omega)]; omega), jc _ (by omega), h2 v _ hg, hg]
    rfl
  · rw [if_pos (by rw [jI_le (by omega) (by omega) (by omega) (by omega)]; omega), List.getElem?_eq_none (by omega)]
    rfl
theorem ok_reading (hn : n < 64) (hb : Bd n M o) (x1 : Int32) : ∃ (r : Int32) (M' : Nat → Ob) (o' : Ob), FX6_reading x1 M = some (r, M') ∧ FX7_reading x1 o = some (r, o') ∧ Bd (n + 1) M' o' := by
  obtain ⟨N, N', t, hi, s, s', l, cs, h⟩ := hb
  obtain ⟨a, rfl, a1, a2⟩ := int_jI x1
  obtain ⟨n0, n1, n2⟩ := isNet_t h.2.2.1 h.2.2.2.1 (by omega)
  obtain ⟨bd1, bd2⟩ := NB_bd h.1
  by_cases c : 0 ≤ a ∧ a ≤ 999
  · obtain ⟨v, rfl⟩ := Int.eq_ofNat_of_zero_le (show 0 ≤ a by omega)
    have wi : FX7_within (jI (v : Int)) (0 : Int32) (999 : Int32) = some 1 := by
      have z := within_jI (a := v) (lo := 0) (hi := 999) (by omega) (by omega) (by omega) (by omega) (by omega) (by omega)
      rw [if_pos (by omega)] at z
      exact z
    by_cases t0 : t = 0
    · refine ⟨-103, M, o, ?_, ?_, Bq_up h⟩
      · unfold FX6_reading
        rw [if_neg (by rw [j_0, jI_lt (by omega) (by omega) (by omega) (by omega)]; omega), if_pos (by rw [j_999, jI_le (by omega) (by omega) (by omega) (by omega)]; omega), if_pos (n2.mpr t0)]
      · unfold FX7_reading
        rw [wi, b1_some, if_neg (by decide), n0 t0, b1_some, if_pos rfl]
    · obtain ⟨o8, e1, e2, e3, e4⟩ := c_tellAll (N := 60) (by omega) h.1.1.1 h.1.2.1 (M 8)
      obtain ⟨o', f1, f2, f3, f4, f5, f6, f7⟩ := m_layReading (b := 0) (by omega) h.1.1.1 h.1.2.2.1 bd1
      refine ⟨jI (kI (rdg N.1 N.2.1)[v]?), sM M 8 o8, o', ?_, ?_, Bq_up (Bq_Cls (Bq_Wk h f6 f5) (Cls_sM M _ (by omega)))⟩
      · unfold FX6_reading
        rw [if_neg (by rw [j_0, jI_lt (by omega) (by omega) (by omega) (by omega)]; omega), if_pos (by rw [j_999, jI_le (by omega) (by omega) (by omega) (by omega)]; omega), if_neg (fun z => t0 (n2.mp z)), e1, b1_some, lT_eq, show (sM M 8 o8) 8 = o8 from rfl, c_at e2 e3 e4 (by omega), b1_some]
      · unfold FX7_reading
        rw [wi, b1_some, if_neg (by decide), n1 t0, b1_some, if_neg (by decide), show (0 : Int32) = jI ((0 : Nat) : Int) from rfl, f1, b1_some, m_signAt f2 f3 f4 (by omega), b1_some]
  · refine ⟨-102, M, o, ?_, ?_, Bq_up h⟩
    · unfold FX6_reading
      by_cases c1 : a < 0
      · rw [if_pos (by rw [j_0, jI_lt (by omega) (by omega) (by omega) (by omega)]; omega)]
      · rw [if_neg (by rw [j_0, jI_lt (by omega) (by omega) (by omega) (by omega)]; omega), if_neg (by rw [j_999, jI_le (by omega) (by omega) (by omega) (by omega)]; omega)]
    · unfold FX7_reading
      have z := within_jI (lo := 0) (hi := 999) a1 a2 (by omega) (by omega) (by omega) (by omega)
      rw [if_neg (by omega)] at z
      rw [show FX7_within (jI a) (0 : Int32) (999 : Int32) = some 0 from z, b1_some, if_pos rfl]
theorem ok_endReading (hn : n < 64) (hb : Bd n M o) (x1 : Int32) : ∃ (r : Int32) (M' : Nat → Ob) (o' : Ob), FX6_endReading x1 M = some (r, M') ∧ FX7_endReading x1 o = some (r, o') ∧ Bd (n + 1) M' o' := by
  obtain ⟨N, N', t, hi, s, s', l, cs, h⟩ := hb
  obtain ⟨a, rfl, a1, a2⟩ := int_jI x1
  obtain ⟨n0, n1, n2⟩ := isNet_t h.2.2.1 h.2.2.2.1 (by omega)
  obtain ⟨bd1, bd2⟩ := NB_bd h.1
  by_cases c : 0 ≤ a ∧ a ≤ 999
  · obtain ⟨v, rfl⟩ := Int.eq_ofNat_of_zero_le (show 0 ≤ a by omega)
    have wi : FX7_within (jI (v : Int)) (0 : Int32) (999 : Int32) = some 1 := by
      have z := within_jI (a := v) (lo := 0) (hi := 999) (by omega) (by omega) (by omega) (by omega) (by omega) (by omega)
      rw [if_pos (by omega)] at z
      exact z
    by_cases t0 : t = 0
    · refine ⟨-103, M, o, ?_, ?_, Bq_up h⟩
      · unfold FX6_endReading
        rw [if_neg (by rw [j_0, jI_lt (by omega) (by omega) (by omega) (by omega)]; omega), if_pos (by rw [j_999, jI_le (by omega) (by omega) (by omega) (by omega)]; omega), if_pos (n2.mpr t0)]
      · unfold FX7_endReading
        rw [wi, b1_some, if_neg (by decide), n0 t0, b1_some, if_pos rfl]
    · have z0 : (0 : Int32) = jI ((0 : Nat) : Int) := rfl
      obtain ⟨g1, g2, hh⟩ := c_find (M := M) h.1.1 h.1.2.1
      rcases hh with ⟨R, ss, M1, f1, f2, f3, f4, f5⟩ | ⟨f1, f2⟩
      · obtain ⟨r1, gd1, nf1⟩ := EndD_Rs h.1.1 f2
        obtain ⟨o1, M2, q1, q2, q3, q4, q5, q6, q7, q8, q9⟩ := m_end (b := 0) (by omega) h.1.1 h.1.2.2.1 bd2 bd1 f2
        obtain ⟨o8, e1, e2, e3, e4⟩ := c_tellAll (N := 180) (by omega) gd1.1 f3 (M 8)
        obtain ⟨o2, p1, p2, p3, p4, p5, p6, p7⟩ := m_layReading (b := 2) (by omega) q3.1 q2 q2.1.2.1
        rw [q9] at p2 p3 p4
        refine ⟨jI (kI (rdg M1.1 M1.2.1)[v]?), sM (sM (sM M 5 g1) 5 g2) 8 o8, o2, ?_, ?_, Bq_up (Bq_Cls (Bq_Wk (Bq_Wk h q6 q4) p6 p5) (Cls_tr (Cls_55 M _ _) (Cls_sM _ _ (by omega))))⟩
        · unfold FX6_endReading
          rw [if_neg (by rw [j_0, jI_lt (by omega) (by omega) (by omega) (by omega)]; omega), if_pos (by rw [j_999, jI_le (by omega) (by omega) (by omega) (by omega)]; omega), if_neg (fun z => t0 (n2.mp z)), f1, b2_some, if_neg (by decide), show (sM (sM M 5 g1) 5 g2) 5 = g2 from rfl, show (sM (sM M 5 g1) 5 g2) 8 = M 8 from rfl, e1, b1_some, lT_eq, show (sM (sM (sM M 5 g1) 5 g2) 8 o8) 8 = o8 from rfl, c_at e2 e3 e4 (by omega), b1_some]
        · unfold FX7_endReading
          rw [wi, b1_some, if_neg (by decide), n1 t0, b1_some, if_neg (by decide), z0, q1, b2_some, if_neg (by decide), show (2 : Int32) = jI ((2 : Nat) : Int) from rfl, p1, b1_some, m_signAt p2 p3 p4 (by omega), b1_some]
      · obtain ⟨o1, q1, q2, q3⟩ := m_noend (b := 0) (by omega) h.1.1 h.1.2.2.1 bd2 f2
        refine ⟨-2, sM (sM M 5 g1) 5 g2, o1, ?_, ?_, Bq_up (Bq_Cls (Bq_Wk h q3 q2) (Cls_55 M _ _))⟩
        · unfold FX6_endReading
          rw [if_neg (by rw [j_0, jI_lt (by omega) (by omega) (by omega) (by omega)]; omega), if_pos (by rw [j_999, jI_le (by omega) (by omega) (by omega) (by omega)]; omega), if_neg (fun z => t0 (n2.mp z)), f1, b2_some, if_pos rfl]
        · unfold FX7_endReading
          rw [wi, b1_some, if_neg (by decide), n1 t0, b1_some, if_neg (by decide), z0, q1, b2_some, if_pos (by rfl)]
  · refine ⟨-102, M, o, ?_, ?_, Bq_up h⟩
    · unfold FX6_endReading
      by_cases c1 : a < 0
      · rw [if_pos (by rw [j_0, jI_lt (by omega) (by omega) (by omega) (by omega)]; omega)]
      · rw [if_neg (by rw [j_0, jI_lt (by omega) (by omega) (by omega) (by omega)]; omega), if_neg (by rw [j_999, jI_le (by omega) (by omega) (by omega) (by omega)]; omega)]
    · unfold FX7_endReading
      have z := within_jI (lo := 0) (hi := 999) a1 a2 (by omega) (by omega) (by omega) (by omega)
      rw [if_neg (by omega)] at z
      rw [show FX7_within (jI a) (0 : Int32) (999 : Int32) = some 0 from z, b1_some, if_pos rfl]
end C6
