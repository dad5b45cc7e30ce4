/-! THE BOND between class and reference -/
theorem int_jI (x : Int32) : ∃ a : Int, x = jI a ∧ -2147483648 ≤ a ∧ a < 2147483648 := ⟨x.toInt, (Int32.ofInt_toInt x).symm, Int32.le_toInt x, Int32.toInt_lt x⟩
theorem sV_self {o : Ob} {k : Nat} {x : Int32} (h : oV o k = x) : sV o k x = o := by
  obtain ⟨a, b, c⟩ := o
  show (a, upd b k x, c) = (a, b, c)
  have : upd b k x = b := by
    funext j
    unfold upd
    by_cases z : j = k
    · rw [if_pos z, z]; exact h.symm
    · rw [if_neg z]
  rw [this]
theorem sM_at (M : Nat → Ob) (k : Nat) (x : Ob) (j : Nat) : sM M k x j = if j = k then x else M j := rfl
def NB (g o : Ob) (b dr : Nat) (N : Nt) : Prop := Good N ∧ RGr 60 g N.1 N.2.1 N.2.2 ∧ Sl b o N.1 N.2.1 N.2.2 ∧ (∀ j, 1 ≤ j → j < 4 → oA g 3 j = oA o dr j) ∧ oA g 3 0 = oA o dr 1 + oA o dr 2 + oA o dr 3
def SB (x o : Ob) (vs r1 r2 r3 s : Nat) : Prop := s ≤ 6 ∧ oV x 3 = jI s ∧ oV o vs = jI s ∧ (∀ i, i < 6 → oA x 0 i = oA o r1 i ∧ oA x 1 i = oA o r2 i ∧ oA x 2 i = oA o r3 i) ∧ ∀ i, i < s → ∃ v : Nat, v < 4 ∧ oA x 1 i = jI v
def FB (m0 o : Ob) (t hi : Nat) : Prop := oV m0 10 = jI ((if 0 < t then 1 else 0 : Nat)) ∧ oV m0 11 = jI hi ∧ oV m0 12 = jI t ∧ oV o 5 = jI t ∧ hi ≤ 1 ∧ (hi = 1 → 0 < t ∧ oV o 42 = 1 ∧ oV o 43 = jI t) ∧ (hi = 0 → oV o 42 = 0 ∨ ∃ t' : Nat, t' < t ∧ oV o 43 = jI t')
def PgB (pg o : Ob) (l : Nat) (cs : Nat → Nat) : Prop := l ≤ 80 ∧ PgC pg l cs ∧ PgM o l cs ∧ ∀ i, i < l → 32 ≤ cs i ∧ cs i < 127
def Bq (n : Nat) (M : Nat → Ob) (o : Ob) (N N' : Nt) (t hi s s' l : Nat) (cs : Nat → Nat) : Prop :=
  NB (M 3) o 0 6 N ∧ oV o 4 = 0 ∧ FB (M 0) o t hi ∧ t ≤ n ∧ (t = 0 → (∀ m, N.1 m = none) ∧ ∀ p, N.2.1 p = none) ∧ (hi = 1 → NB (M 4) o 1 45 N') ∧ SB (M 6) o 7 8 9 10 s ∧ SB (M 7) o 44 46 47 48 s' ∧ PgB (M 1) o l cs
def Bd (n : Nat) (M : Nat → Ob) (o : Ob) : Prop := ∃ N N' t hi s s' l cs, Bq n M o N N' t hi s s' l cs
theorem Bd_mono {n : Nat} {M : Nat → Ob} {o : Ob} (h : Bd n M o) : Bd (n + 1) M o := by
  obtain ⟨N, N', t, hi, s, s', l, cs, h1, h2, h3, h4, h5⟩ := h
  exact ⟨N, N', t, hi, s, s', l, cs, h1, h2, h3, by omega, h5⟩
/-- the reference's scratch -/
theorem NB_Wk {g o o' : Ob} {b dr : Nat} {N : Nt} (hb : b < 2) (hd : Pk dr) (h : NB g o b dr N) (hw : Wk o o') : NB g o' b dr N := by
  obtain ⟨h1, h2, h3, h4, h5⟩ := h
  exact ⟨h1, h2, Sl_Wk hb h3 hw, by rw [hw.2.2.2.2.1 dr hd]; exact h4, by rw [hw.2.2.2.2.1 dr hd]; exact h5⟩
theorem SB_Wk {x o o' : Ob} {vs r1 r2 r3 s : Nat} (h0 : Pv vs) (h1 : Pk r1) (h2 : Pk r2) (h3 : Pk r3) (h : SB x o vs r1 r2 r3 s) (hw : Wk o o') : SB x o' vs r1 r2 r3 s := by
  obtain ⟨a1, a2, a3, a4, a5⟩ := h
  exact ⟨a1, a2, by rw [hw.2.2.2.2.2.1 vs h0]; exact a3, by rw [hw.2.2.2.2.1 r1 h1, hw.2.2.2.2.1 r2 h2, hw.2.2.2.2.1 r3 h3]; exact a4, a5⟩
theorem FB_v {m0 o o' : Ob} {t hi : Nat} (h : FB m0 o t hi) (h5 : oV o' 5 = oV o 5) (h42 : oV o' 42 = oV o 42) (h43 : oV o' 43 = oV o 43) : FB m0 o' t hi := by
  unfold FB
  rw [h5, h42, h43]
  exact h
theorem PgB_v {pg o o' : Ob} {l : Nat} {cs : Nat → Nat} (h : PgB pg o l cs) (h11 : oV o' 11 = oV o 11) (h12 : oA o' 12 = oA o 12) : PgB pg o' l cs := by
  unfold PgB PgM
  rw [h11, h12]
  exact h
theorem Bq_Wk {n : Nat} {M : Nat → Ob} {o o' : Ob} {N N' : Nt} {t hi s s' l : Nat} {cs : Nat → Nat} (h : Bq n M o N N' t hi s s' l cs) (hw : Wk o o') (h4 : oV o' 4 = 0) : Bq n M o' N N' t hi s s' l cs := by
  obtain ⟨a1, a2, a3, a4, a5, a6, a7, a8, a9⟩ := h
  refine ⟨NB_Wk (by omega) (by unfold Pk; omega) a1 hw, h4, FB_v a3 (hw.2.2.2.2.2.1 5 (by unfold Pv; omega)) (hw.2.2.2.2.2.1 42 (by unfold Pv; omega)) (hw.2.2.2.2.2.1 43 (by unfold Pv; omega)), a4, a5, fun z => NB_Wk (by omega) (by unfold Pk; omega) (a6 z) hw, SB_Wk (by unfold Pv; omega) (by unfold Pk; omega) (by unfold Pk; omega) (by unfold Pk; omega) a7 hw, SB_Wk (by unfold Pv; omega) (by unfold Pk; omega) (by unfold Pk; omega) (by unfold Pk; omega) a8 hw, PgB_v a9 (hw.2.2.2.2.2.1 11 (by unfold Pv; omega)) (hw.2.2.2.2.1 12 (by unfold Pk; omega))⟩
/-- the class's scratch, and its list of meetings -/
def Cls (M M' : Nat → Ob) : Prop := M' 0 = M 0 ∧ M' 1 = M 1 ∧ M' 4 = M 4 ∧ M' 6 = M 6 ∧ M' 7 = M 7 ∧ Fl (M 3) (M' 3)
theorem Fl_rf (g : Ob) : Fl g g := ⟨fun _ _ => rfl, fun _ _ => rfl, fun _ => rfl⟩
theorem Cls_rf (M : Nat → Ob) : Cls M M := ⟨rfl, rfl, rfl, rfl, rfl, Fl_rf _⟩
theorem Cls_tr {M M' M'' : Nat → Ob} (h : Cls M M') (h' : Cls M' M'') : Cls M M'' := ⟨h'.1.trans h.1, h'.2.1.trans h.2.1, h'.2.2.1.trans h.2.2.1, h'.2.2.2.1.trans h.2.2.2.1, h'.2.2.2.2.1.trans h.2.2.2.2.1, Fl_tr h.2.2.2.2.2 h'.2.2.2.2.2⟩
theorem Cls_sM (M : Nat → Ob) {k : Nat} (x : Ob) (hk : k = 2 ∨ k = 5 ∨ k = 8 ∨ k = 9 ∨ k = 10) : Cls M (sM M k x) := by
  unfold Cls
  simp only [sM_at]
  rw [if_neg (by omega), if_neg (by omega), if_neg (by omega), if_neg (by omega), if_neg (by omega), if_neg (by omega)]
  exact ⟨rfl, rfl, rfl, rfl, rfl, Fl_rf _⟩
theorem Cls_3 (M : Nat → Ob) {x : Ob} (h : Fl (M 3) x) : Cls M (sM M 3 x) := by
  unfold Cls
  simp only [sM_at]
  rw [if_neg (by omega), if_neg (by omega), if_neg (by omega), if_neg (by omega), if_neg (by omega), if_pos trivial]
  exact ⟨rfl, rfl, rfl, rfl, rfl, h⟩
theorem NB_Fl {g g' o : Ob} {b dr : Nat} {N : Nt} (h : NB g o b dr N) (hf : Fl g g') : NB g' o b dr N := by
  obtain ⟨h1, h2, h3, h4, h5⟩ := h
  exact ⟨h1, RGr_Fl h2 hf, h3, by rw [hf.1 3 (by omega)]; exact h4, by rw [hf.1 3 (by omega)]; exact h5⟩
theorem Bq_Cls {n : Nat} {M M' : Nat → Ob} {o : Ob} {N N' : Nt} {t hi s s' l : Nat} {cs : Nat → Nat} (h : Bq n M o N N' t hi s s' l cs) (hc : Cls M M') : Bq n M' o N N' t hi s s' l cs := by
  obtain ⟨a1, a2, a3, a4, a5, a6, a7, a8, a9⟩ := h
  obtain ⟨c0, c1, c4, c6, c7, c3⟩ := hc
  unfold Bq
  rw [c0, c1, c4, c6, c7]
  exact ⟨NB_Fl a1 c3, a2, a3, a4, a5, a6, a7, a8, a9⟩
theorem Bq_up {n : Nat} {M : Nat → Ob} {o : Ob} {N N' : Nt} {t hi s s' l : Nat} {cs : Nat → Nat} (h : Bq n M o N N' t hi s s' l cs) : Bd (n + 1) M o := Bd_mono ⟨N, N', t, hi, s, s', l, cs, h⟩
theorem Bq_MS {n : Nat} {M : Nat → Ob} {o : Ob} {N N' : Nt} {t hi s s' l : Nat} {cs : Nat → Nat} (h : Bq n M o N N' t hi s s' l cs) : MS 0 o N.1 N.2.1 N.2.2 := ⟨h.2.1, h.1.2.2.1⟩
theorem isNet_t {m0 o : Ob} {t hi n : Nat} (h : FB m0 o t hi) (ht : t ≤ n) (hn : n < 65) : (t = 0 → FX7_isNet o = some 0) ∧ (t ≠ 0 → FX7_isNet o = some 1) ∧ (oV m0 10 = 0 ↔ t = 0) := by
  obtain ⟨h1, -, -, h4, -⟩ := h
  refine ⟨fun c => ?_, fun c => ?_, ?_⟩
  · unfold FX7_isNet
    rw [h4, if_pos (by rw [j_0, jI_le (by omega) (by omega) (by omega) (by omega)]; omega)]
  · unfold FX7_isNet
    rw [h4, if_neg (by rw [j_0, jI_le (by omega) (by omega) (by omega) (by omega)]; omega)]
  · rw [h1]
    by_cases c : 0 < t
    · rw [if_pos c]
      exact ⟨fun z => absurd z (by decide), fun z => by omega⟩
    · rw [if_neg c]
      exact ⟨fun _ => by omega, fun _ => rfl⟩
/-- a number that is asked for -/
theorem who {g o : Ob} {K : Kd} {w : Wr} {r : Nat} (hg : RGr 60 g K w r) (ho : MS 0 o K w r) {a : Int} (h1 : -2147483648 ≤ a) (h2 : a < 2147483648) : (∃ m k : Nat, a = m ∧ K m = some k ∧ m < 60 ∧ k ≤ 3 ∧ FX2_kindOf 60 (jI a) g = some (jI k) ∧ FX7_isThere (jI a) o = some 1 ∧ FX7_kindOf (jI a) o = some (jI k) ∧ FX7_isBracket (jI a) o = some (if k = 0 then 0 else 1)) ∨ (FX2_kindOf 60 (jI a) g = some (-1) ∧ FX7_isThere (jI a) o = some 0 ∧ FX7_isBracket (jI a) o = some 0) := by
  have hbd := RGr_bd hg
  obtain ⟨T, t, hK, hW, -⟩ := hg
  have no : FX7_isThere (jI a) o = some 0 → FX7_isBracket (jI a) o = some 0 := fun z => by
    unfold FX7_isBracket
    rw [z, b1_some, if_pos rfl]
  by_cases c0 : 0 ≤ a
  · obtain ⟨m, rfl⟩ := Int.eq_ofNat_of_zero_le c0
    have hT := hK.2.1
    by_cases ck : K m = none
    · right
      have e1 : FX2_kindOf 60 (jI (m : Int)) g = some (-1) := by
        unfold FX2_kindOf
        rw [if_neg (by rw [j_0, jI_lt (by omega) (by omega) (by omega) (by omega)]; omega), hK.1]
        by_cases cT : T ≤ m
        · rw [if_pos (by rw [jI_le (by omega) (by omega) (by omega) (by omega)]; omega)]
        · rw [if_neg (by rw [jI_le (by omega) (by omega) (by omega) (by omega)]; omega), jI_ofNat, if_neg (by rw [jI_le (by omega) (by omega) (by omega) (by omega)]; omega), if_pos (by rw [jI_inb (by omega) (by omega)]; omega), jc _ (by omega), hK.2.2.1 m (by omega), ck]
          rfl
      have e2 : FX7_isThere (jI (m : Int)) o = some 0 := by
        unfold FX7_isThere FX7_within
        rw [if_neg (by rw [j_0, jI_lt (by omega) (by omega) (by omega) (by omega)]; omega), show (179 : Int32) = jI 179 from rfl]
        by_cases c : 179 < m
        · rw [if_pos (by rw [jI_lt (by omega) (by omega) (by omega) (by omega)]; omega), b1_some, if_pos rfl]
        · rw [if_neg (by rw [jI_lt (by omega) (by omega) (by omega) (by omega)]; omega), b1_some, if_neg (by decide), m_kindOf (b := 0) (by omega) ho.1 ho.2.1 (by omega), b1_some, ck, if_pos (by rfl)]
      exact ⟨e1, e2, no e2⟩
    · left
      obtain ⟨k, hk⟩ := some_of ck
      have hm : m < 60 := by
        rcases Nat.lt_or_ge m 60 with c | c
        · exact c
        · exact absurd (hbd m c) ck
      have k3 := hK.2.2.2.2 m k hk
      have e3 : FX7_kindOf (jI (m : Int)) o = some (jI k) := by
        rw [m_kindOf (b := 0) (by omega) ho.1 ho.2.1 (by omega), hk]; rfl
      have e2 : FX7_isThere (jI (m : Int)) o = some 1 := by
        unfold FX7_isThere FX7_within
        rw [if_neg (by rw [j_0, jI_lt (by omega) (by omega) (by omega) (by omega)]; omega), show (179 : Int32) = jI 179 from rfl, if_neg (by rw [jI_lt (by omega) (by omega) (by omega) (by omega)]; omega), b1_some, if_neg (by decide), e3, b1_some, if_neg (by rw [j_m1, jI_eq (by omega) (by omega) (by omega) (by omega)]; omega)]
      refine ⟨m, k, rfl, hk, hm, k3, ?_, e2, e3, ?_⟩
      · rw [s_kindOf (by omega) hK m (by omega), hk]; rfl
      · unfold FX7_isBracket
        rw [e2, b1_some, if_neg (by decide), e3, b1_some]
        by_cases c : k = 0
        · rw [if_pos c, c, if_pos (by rfl)]
        · rw [if_neg c, if_neg (by rw [j_0, jI_eq (by omega) (by omega) (by omega) (by omega)]; omega)]
  · right
    have e2 : FX7_isThere (jI a) o = some 0 := by
      unfold FX7_isThere FX7_within
      rw [if_pos (by rw [j_0, jI_lt (by omega) (by omega) (by omega) (by omega)]; omega), b1_some, if_pos rfl]
    refine ⟨?_, e2, no e2⟩
    unfold FX2_kindOf
    rw [if_pos (by rw [j_0, jI_lt (by omega) (by omega) (by omega) (by omega)]; omega)]
theorem whoOpen {g o : Ob} {K : Kd} {w : Wr} {r : Nat} (hg : RGr 60 g K w r) (ho : MS 0 o K w r) {a : Int} (h1 : -2147483648 ≤ a) (h2 : a < 2147483648) : (∃ i : Nat, a = i ∧ i < 8 ∧ w (i, 3) ≠ none ∧ FX2_isOpen 60 (jI a) g = some 1 ∧ FX7_isOpen (jI a) o = some 1) ∨ (FX2_isOpen 60 (jI a) g = some 0 ∧ FX7_isOpen (jI a) o = some 0) := by
  obtain ⟨T, t, hK, hW, -⟩ := hg
  by_cases c0 : 0 ≤ a ∧ a < 8
  · obtain ⟨i, rfl⟩ := Int.eq_ofNat_of_zero_le c0.1
    have e1 := s_isOpen (N := 60) (by omega) hW (i := i) (by omega)
    have e2 := m_isOpen (b := 0) (by omega) ho (i := i) (by omega)
    by_cases c : w (i, 3) = none
    · rw [if_pos c] at e1 e2
      exact Or.inr ⟨e1, e2⟩
    · rw [if_neg c] at e1 e2
      exact Or.inl ⟨i, rfl, by omega, c, e1, e2⟩
  · right
    refine ⟨?_, ?_⟩
    · unfold FX2_isOpen
      by_cases c : a < 0
      · rw [if_pos (by rw [j_0, jI_lt (by omega) (by omega) (by omega) (by omega)]; omega)]
      · rw [if_neg (by rw [j_0, jI_lt (by omega) (by omega) (by omega) (by omega)]; omega), if_pos (by rw [j_8, jI_le (by omega) (by omega) (by omega) (by omega)]; omega)]
    · unfold FX7_isOpen FX7_within
      by_cases c : a < 0
      · rw [if_pos (by rw [j_0, jI_lt (by omega) (by omega) (by omega) (by omega)]; omega), b1_some, if_pos rfl]
      · rw [if_neg (by rw [j_0, jI_lt (by omega) (by omega) (by omega) (by omega)]; omega), if_pos (by rw [j_7, jI_lt (by omega) (by omega) (by omega) (by omega)]; omega), b1_some, if_pos rfl]
theorem within_jI {a : Int} (h1 : -2147483648 ≤ a) (h2 : a < 2147483648) {lo hi : Int} (h3 : -2147483648 ≤ lo) (h4 : lo < 2147483648) (h5 : -2147483648 ≤ hi) (h6 : hi < 2147483648) : FX7_within (jI a) (jI lo) (jI hi) = some (if lo ≤ a ∧ a ≤ hi then 1 else 0) := by
  unfold FX7_within
  by_cases c1 : a < lo
  · rw [if_pos (by rw [jI_lt h1 h2 h3 h4]; exact c1), if_neg (by omega)]
  · rw [if_neg (by rw [jI_lt h1 h2 h3 h4]; exact c1)]
    by_cases c2 : hi < a
    · rw [if_pos (by rw [jI_lt h5 h6 h1 h2]; exact c2), if_neg (by omega)]
    · rw [if_neg (by rw [jI_lt h5 h6 h1 h2]; exact c2), if_pos (by omega)]
/-- a place is told alike -/
theorem told {g : Ob} {K : Kd} {w : Wr} {r N : Nat} (hN : N ≤ 1000) (hF : WF K w) (hg : RGr N g K w r) {p q : Port} (hp : w p = some q) : FX2_toldAcross N (jI (cp p)) g = some (jI (mp q)) := by
  obtain ⟨T, t, hK, hW, -⟩ := hg
  obtain ⟨v1, v2, -⟩ := hW.1 p q hp
  have lq := cp_lt v2
  unfold FX2_toldAcross
  rw [s_across hN hW hp, b1_some, if_neg (by rw [j_m1, jI_eq (by omega) (by omega) (by omega) (by omega)]; omega)]
  rcases v2 with ⟨a, b⟩ | ⟨a, b⟩
  · have e1 : cp q = 16 + 3 * q.1 + q.2 := by unfold cp; rw [if_neg (by omega)]
    have e2 : mp q = 3 * q.1 + q.2 := by unfold mp; rw [if_neg (by omega)]
    rw [if_pos (by rw [j_8, jI_le (by omega) (by omega) (by omega) (by omega)]; omega), j_16, jI_sub]
    congr 2
    omega
  · have e1 : cp q = q.1 := by unfold cp; rw [if_pos a]
    have e2 : mp q = 900 + q.1 := by unfold mp; rw [if_pos a]
    have h8 := hF.2.2 q.1 q.2 (by omega) (show w (q.1, q.2) ≠ none by rw [show ((q.1, q.2) : Port) = q from rfl, (hF.1 _ _ hp).1]; exact fun z => by cases z)
    rw [if_neg (by rw [j_8, jI_le (by omega) (by omega) (by omega) (by omega)]; omega), j_900, jI_add]
    congr 2
    omega
theorem m_told {b : Nat} {o : Ob} {K : Kd} {w : Wr} {r : Nat} (hb : b < 4) (h : MS b o K w r) {p q : Port} (hp : w p = some q) : FX7_at (jI (mp p)) o = some (jI (mp q)) := by
  obtain ⟨a1, a2, a3⟩ := h.2.2.1.1 p q hp
  rw [m_at hb h.1 a1, a3]
