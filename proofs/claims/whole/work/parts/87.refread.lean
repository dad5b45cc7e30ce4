/-! a reading comes to its end; the reference's layReading -/
theorem rdL_ok {K : Kd} {w : Wr} (hF : WF K w) (hb : ∀ m, 180 ≤ m → K m = none) {t : Nat} : ∀ (f : Nat) (st : List It) (s : RS) (X : List Port) (V : List Nat), RI K w t st s X V → st.length + 3 * (180 - V.length) ≤ f → ∃ s' X' V', rdL K w f st s = some s' ∧ RI K w t [] s' X' V' := by
  intro f
  induction f with
  | zero =>
    intro st s X V h hf
    cases st with
    | nil => exact ⟨s, X, V, rfl, h⟩
    | cons i st => simp only [List.length_cons] at hf; omega
  | succ f ih =>
    intro st s X V h hf
    cases st with
    | nil => exact ⟨s, X, V, rfl, h⟩
    | cons i st =>
      simp only [List.length_cons] at hf
      cases i with
      | inl c =>
        obtain ⟨s', X', V', h1, h2⟩ := ih st _ X V (RI_code h) (by omega)
        exact ⟨s', X', V', h1, h2⟩
      | inr p =>
        have hw : w p ≠ none := h.2.2.2.2.2.2.2.2 p (List.mem_cons_self ..)
        obtain ⟨q, hq⟩ := some_of hw
        have e0 : rdL K w (f + 1) (.inr p :: st) s = rdL K w f ((rd1 K w (.inr p) s).1 ++ st) (rd1 K w (.inr p) s).2 := rfl
        rw [e0]
        unfold rd1
        simp only [hq]
        by_cases c : q.2 = 0
        · rw [if_pos c]
          obtain ⟨n, z⟩ := q
          simp only at c
          subst c
          have ha := alive_of hF (n := n) (s := 0) (by omega) (by rw [(hF.1 _ _ hq).1]; exact fun z => by cases z)
          obtain ⟨k, hk⟩ := some_of ha
          simp only [hk]
          by_cases ck : k = 0
          · rw [if_pos ck]
            obtain ⟨s', X', V', h1, h2⟩ := ih st _ (p :: X) V (RI_leaf h (rput_len 42 s)) (by omega)
            exact ⟨s', X', V', h1, h2⟩
          · rw [if_neg ck]
            obtain ⟨k', rfl⟩ : ∃ k', k = k' + 1 := ⟨k - 1, by omega⟩
            have hr := RI_node hF (c := clo (k' + 1)) (s' := rput (opn (k' + 1)) s) h hq hk (rput_len _ s)
            have hv := nodup_lt 180 (n :: V) hr.2.2.2.2.1 (fun m hm => by
              rcases Nat.lt_or_ge m 180 with c | c
              · exact c
              · obtain ⟨k, hk⟩ := hr.2.2.2.2.2.1 m hm
                rw [hb m c] at hk; cases hk)
            simp only [List.length_cons] at hv
            obtain ⟨s', X', V', h1, h2⟩ := ih _ _ _ _ hr (by simp only [List.length_cons]; omega)
            exact ⟨s', X', V', h1, h2⟩
        · rw [if_neg c]
          obtain ⟨s', X', V', h1, h2⟩ := ih st _ (p :: X) V (RI_leaf h (rnm_len p q s)) (by omega)
          exact ⟨s', X', V', h1, h2⟩
/-- names are fewer than signs -/
def NmOk (s : RS) : Prop := (∀ p k, s.1 p = some k → k < s.2.1) ∧ s.2.1 ≤ s.2.2.length
theorem NmOk_put {s : RS} (h : NmOk s) (c : Nat) : NmOk (rput c s) := ⟨h.1, by rw [rput_len]; exact Nat.le_succ_of_le h.2⟩
theorem NmOk_nm {s : RS} (h : NmOk s) (p q : Port) : NmOk (rnm p q s) := by
  refine ⟨fun r k hk => ?_, ?_⟩
  · unfold rnm at hk ⊢
    cases hp : s.1 p with
    | some k' => rw [hp] at hk; exact h.1 r k hk
    | none =>
      rw [hp] at hk
      simp only at hk ⊢
      by_cases c : r = p ∨ r = q
      · rw [if_pos c] at hk; cases hk; omega
      · rw [if_neg c] at hk
        have := h.1 r k hk
        omega
  · rw [rnm_len]
    unfold rnm
    cases hp : s.1 p with
    | some k' => exact Nat.le_succ_of_le h.2
    | none => exact Nat.succ_le_succ h.2
theorem NmOk_rd1 {K : Kd} {w : Wr} {s : RS} (h : NmOk s) (i : It) : NmOk (rd1 K w i s).2 := by
  unfold rd1
  cases i with
  | inl c => exact NmOk_put h c
  | inr p =>
    simp only
    cases w p with
    | none => exact h
    | some q =>
      simp only
      by_cases c : q.2 = 0
      · rw [if_pos c]
        cases K q.1 with
        | none => exact h
        | some k =>
          simp only
          by_cases ck : k = 0
          · rw [if_pos ck]; exact NmOk_put h _
          · rw [if_neg ck]; exact NmOk_put h _
      · rw [if_neg c]; exact NmOk_nm h _ _
/-- rows of signs, of a stack, of names -/
def SgA (row : Nat → Int32) (l : List Nat) : Prop := ∀ (i v : Nat), l[i]? = some v → row i = jI v
theorem SgA_push {row row' : Nat → Int32} {l : List Nat} {c : Nat} (h : SgA row l) (h1 : row' l.length = jI c) (h2 : ∀ j, j < l.length → row' j = row j) : SgA row' (l ++ [c]) := by
  intro i v hv
  rcases Nat.lt_or_ge i l.length with a | a
  · rw [List.getElem?_append_left a] at hv
    rw [h2 i a]
    exact h i v hv
  · rw [List.getElem?_append_right a] at hv
    have : i - l.length = 0 := by
      rcases Nat.eq_zero_or_pos (i - l.length) with z | z
      · exact z
      · rw [List.getElem?_eq_none (by simp only [List.length_cons, List.length_nil]; omega)] at hv; cases hv
    rw [this] at hv
    cases hv
    rw [show i = l.length by omega]
    exact h1
def itc (x : It) : Int32 := match x with
  | .inl c => jI ((2000 + c : Nat))
  | .inr p => jI (mp p)
def StA (row : Nat → Int32) (st : List It) : Prop := ∀ (j : Nat) (x : It), st[j]? = some x → row (st.length - 1 - j) = itc x
theorem StA_push {row row' : Nat → Int32} {st : List It} {x : It} (h : StA row st) (h1 : row' st.length = itc x) (h2 : ∀ j, j < st.length → row' j = row j) : StA row' (x :: st) := by
  intro j y hy
  cases j with
  | zero =>
    cases hy
    simpa using h1
  | succ j =>
    have hy' : st[j]? = some y := hy
    have hj : j < st.length := by
      rcases Nat.lt_or_ge j st.length with a | a
      · exact a
      · rw [List.getElem?_eq_none a] at hy'; cases hy'
    simp only [List.length_cons]
    rw [show st.length + 1 - 1 - (j + 1) = st.length - 1 - j by omega, h2 _ (by omega)]
    exact h j y hy'
theorem StA_pop {row : Nat → Int32} {st : List It} {x : It} (h : StA row (x :: st)) : row st.length = itc x ∧ StA row st := by
  refine ⟨?_, fun j y hy => ?_⟩
  · have := h 0 x rfl
    simpa using this
  · have := h (j + 1) y hy
    simp only [List.length_cons] at this
    rw [← this]
    congr 1
    omega
def RepM (o : Ob) (s : RS) : Prop := oV o 34 = jI s.2.2.length ∧ SgA (oA o 33) s.2.2 ∧ oV o 38 = jI s.2.1 ∧ ∀ p, vm p → oA o 37 (mp p) = jI (kI (s.1 p))
def StM (o : Ob) (st : List It) : Prop := oV o 36 = jI st.length ∧ StA (oA o 35) st
def Rf (o o' : Ob) : Prop := (∀ k, k ≠ 33 → k ≠ 35 → k ≠ 37 → oA o' k = oA o k) ∧ (∀ k, k ≠ 34 → k ≠ 36 → k ≠ 38 → oV o' k = oV o k) ∧ ∀ k, oL o' k = oL o k
theorem Rf_rf (o : Ob) : Rf o o := ⟨fun _ _ _ _ => rfl, fun _ _ _ _ => rfl, fun _ => rfl⟩
theorem Rf_tr {o o' o'' : Ob} (h : Rf o o') (h' : Rf o' o'') : Rf o o'' := ⟨fun k a b c => (h'.1 k a b c).trans (h.1 k a b c), fun k a b c => (h'.2.1 k a b c).trans (h.2.1 k a b c), fun k => (h'.2.2 k).trans (h.2.2 k)⟩
theorem MS_Rf {b : Nat} {o o' : Ob} {K : Kd} {w : Wr} {r : Nat} (h : MS b o K w r) (hf : Rf o o') : MS b o' K w r :=
  ⟨(hf.2.1 4 (by omega) (by omega) (by omega)).trans h.1, Sl_o h.2 (hf.1 0 (by omega) (by omega) (by omega)) (hf.1 1 (by omega) (by omega) (by omega)) (hf.1 2 (by omega) (by omega) (by omega)) (hf.1 3 (by omega) (by omega) (by omega))⟩
theorem sA_rw (o : Ob) (k i : Nat) (v : Int32) (j : Nat) : oA (sA o k i v) k j = if j = i then v else oA o k j := by
  rw [oA_sA]
  by_cases c : j = i
  · rw [if_pos ⟨rfl, c⟩, if_pos c]
  · rw [if_neg (fun z => c z.2), if_neg c]
theorem sA_ne (o : Ob) {k k' : Nat} (i : Nat) (v : Int32) (h : k' ≠ k) : oA (sA o k i v) k' = oA o k' := by
  funext j
  rw [oA_sA, if_neg (fun z => h z.1)]
theorem jc (n : Nat) (h : n < 2147483648) : (jI (n : Int)).toNatClampNeg = n := by rw [jI_cl (by omega) (by omega), Int.toNat_natCast]
theorem m_put {o : Ob} {s : RS} {c : Nat} (h : RepM o s) (hl : s.2.2.length < 1000) : ∃ o', FX7_put (jI c) o = some o' ∧ RepM o' (rput c s) ∧ Rf o o' ∧ (oA o' 35 = oA o 35 ∧ oA o' 37 = oA o 37 ∧ oV o' 36 = oV o 36 ∧ oV o' 38 = oV o 38) := by
  obtain ⟨h1, h2, h3, h4⟩ := h
  refine ⟨sV (sA o 33 s.2.2.length (jI c)) 34 (jI ((s.2.2.length + 1 : Nat))), ?_, ⟨?_, ?_, ?_, ?_⟩, ⟨fun k a b d => ?_, fun k a b d => ?_, fun _ => rfl⟩, ?_, ?_, rfl, rfl⟩
  · unfold FX7_put
    rw [h1, if_neg (by rw [j_1000, jI_le (by omega) (by omega) (by omega) (by omega)]; omega), if_pos (by rw [jI_inb (by omega) (by omega)]; omega), lT_eq, lT_eq, jc _ (by omega), oV_sA, h1, jI_p1]
  · rw [oV_sV, if_pos rfl, rput_len]
  · refine SgA_push h2 ?_ (fun j hj => ?_)
    · rw [oA_sV, sA_rw, if_pos rfl]
    · rw [oA_sV, sA_rw, if_neg (by omega)]
  · exact h3
  · intro p hp
    rw [oA_sV, sA_ne _ _ _ (by omega)]
    exact h4 p hp
  · rw [oA_sV, sA_ne _ _ _ a]
  · rw [oV_sV, if_neg a, oV_sA]
  · rw [oA_sV, sA_ne _ _ _ (by omega)]
  · rw [oA_sV, sA_ne _ _ _ (by omega)]
theorem kI_s (k : Nat) : kI (some k) = (k : Int) := rfl
theorem kI_n : kI none = -1 := rfl
section RR
variable {b : Nat} {o : Ob} {K : Kd} {w : Wr} {r : Nat}
theorem m_name {s : RS} {p q : Port} (h : RepM o s) (hn : NmOk s) (hp : vm p) (hq : vm q) (hpq : p ≠ q) (hl : s.2.2.length < 1000) : ∃ o', BX7_tellFrom_140 (jI (mp p)) (jI (mp q)) o = some o' ∧ RepM o' (rnm p q s) ∧ Rf o o' ∧ oA o' 35 = oA o 35 ∧ oV o' 36 = oV o 36 := by
  obtain ⟨h1, h2, h3, h4⟩ := h
  have lp := mp_lt hp
  have lq := mp_lt hq
  have vp' := h4 p hp
  unfold BX7_tellFrom_140
  rw [if_pos (by rw [jI_inb (by omega) (by omega)]; omega), jc _ (by omega), vp']
  cases hs : s.1 p with
  | some k =>
    have hk := hn.1 p k hs
    have hk2 := hn.2
    rw [kI_s, if_neg (by rw [j_m1, jI_eq (by omega) (by omega) (by omega) (by omega)]; omega)]
    obtain ⟨o', e, q1, q2, q3⟩ := m_put (c := 97 + k) (o := o) (s := s) ⟨h1, h2, h3, h4⟩ hl
    rw [show (97 : Int32) + jI (k : Int) = jI ((97 + k : Nat)) from by rw [show (97 : Int32) = jI 97 from rfl, jI_add]; rfl, e, b1_some]
    exact ⟨o', rfl, by unfold rnm; rw [hs]; exact q1, q2, q3.1, q3.2.2.1⟩
  | none =>
    rw [kI_n, if_pos (by rfl), lT_eq, if_pos (by rw [jI_inb (by omega) (by omega)]; omega), lT_eq, lT_eq, jc _ (by omega)]
    let o1 := sV (sA (sA o 37 (mp p) (oV o 38)) 37 (mp q) (oV o 38)) 38 (oV o 38 + 1)
    have r1 : RepM o1 (fun r => if r = p ∨ r = q then some s.2.1 else s.1 r, s.2.1 + 1, s.2.2) := by
      refine ⟨h1, ?_, ?_, fun u hu => ?_⟩
      · show SgA (oA (sV (sA (sA o 37 (mp p) (oV o 38)) 37 (mp q) (oV o 38)) 38 (oV o 38 + 1)) 33) s.2.2
        rw [oA_sV, sA_ne _ _ _ (by omega), sA_ne _ _ _ (by omega)]
        exact h2
      · show oV (sV (sA (sA o 37 (mp p) (oV o 38)) 37 (mp q) (oV o 38)) 38 (oV o 38 + 1)) 38 = _
        rw [oV_sV, if_pos rfl, h3, jI_p1]
      · show oA (sV (sA (sA o 37 (mp p) (oV o 38)) 37 (mp q) (oV o 38)) 38 (oV o 38 + 1)) 37 (mp u) = _
        rw [oA_sV, sA_rw, sA_rw]
        simp only
        by_cases c1 : u = q
        · rw [if_pos (by rw [c1]), if_pos (Or.inr c1), h3]; rfl
        · rw [if_neg (fun z => c1 (mp_inj hu hq z))]
          by_cases c2 : u = p
          · rw [if_pos (by rw [c2]), if_pos (Or.inl c2), h3]; rfl
          · rw [if_neg (fun z => c2 (mp_inj hu hp z)), if_neg (fun z => z.elim c2 c1)]
            exact h4 u hu
    have e1 : oA o1 37 (mp p) = jI s.2.1 := by
      rw [r1.2.2.2 p hp]
      simp only [true_or, if_true]
      rfl
    obtain ⟨o', e, q1, q2, q3⟩ := m_put (c := 97 + s.2.1) r1 hl
    refine ⟨o', ?_, ?_, Rf_tr (o' := o1) ⟨fun k a b d => ?_, fun k a b d => ?_, fun _ => rfl⟩ q2, ?_, ?_⟩
    · have e2 : (oV (sA o 37 (mp p) (oV o 38)) 38) = oV o 38 := rfl
      rw [e2]
      show b1 (FX7_put ((97 : Int32) + oA o1 37 (mp p)) o1) _ = _
      rw [e1, show (97 : Int32) + jI (s.2.1 : Int) = jI ((97 + s.2.1 : Nat)) from by rw [show (97 : Int32) = jI 97 from rfl, jI_add]; rfl, e, b1_some]
    · unfold rnm
      rw [hs]
      exact q1
    · show oA (sV (sA (sA o 37 (mp p) (oV o 38)) 37 (mp q) (oV o 38)) 38 (oV o 38 + 1)) k = _
      rw [oA_sV, sA_ne _ _ _ d, sA_ne _ _ _ d]
    · show oV (sV (sA (sA o 37 (mp p) (oV o 38)) 37 (mp q) (oV o 38)) 38 (oV o 38 + 1)) k = _
      rw [oV_sV, if_neg d]
      rfl
    · rw [q3.1]
      show oA (sV (sA (sA o 37 (mp p) (oV o 38)) 37 (mp q) (oV o 38)) 38 (oV o 38 + 1)) 35 = _
      rw [oA_sV, sA_ne _ _ _ (by omega), sA_ne _ _ _ (by omega)]
    · rw [q3.2.2.1]; rfl
theorem m_brk (hb : b < 4) (h : MS b o K w r) {s : RS} {st : List It} {n k : Nat} (hk : K n = some (k + 1)) (hs : RepM o s) (hst : StM o st) (hl : s.2.2.length < 1000) (hl2 : st.length + 3 ≤ 400) {c0 : Nat} : ∃ o', BX7_tellFrom_71 (jI n) (jI c0) o = some o' ∧ RepM o' (rput c0 s) ∧ StM o' (.inr (n, 1) :: .inr (n, 2) :: .inl (clo (k + 1)) :: st) ∧ Rf o o' := by
  have hn : n < 180 := MS_lt h hk
  have hk3 := h.2.1.2.2 n _ hk
  obtain ⟨o1, e1, r1, f1, k1, k2, k3, k4⟩ := m_put (c := c0) hs hl
  have h1 := MS_Rf h f1
  have hkind := m_kindOf hb h1.1 h1.2.1 hn
  rw [hk] at hkind
  have ecl : FX7_closing (jI (kI (some (k + 1)))) = some (jI (clo (k + 1))) := by
    unfold FX7_closing kI clo
    simp only
    rcases (show k = 0 ∨ k = 1 ∨ k = 2 by omega) with rfl | rfl | rfl <;> rfl
  have L0 : oV o1 36 = jI st.length := by rw [k3]; exact hst.1
  unfold BX7_tellFrom_71
  rw [e1, b1_some, hkind, b1_some, ecl, b1_some, L0, if_pos (by rw [jI_inb (by omega) (by omega)]; omega), lT_eq]
  have p1 : jI (st.length : Int) + 1 = jI ((st.length + 1 : Nat)) := jI_p1 _
  have p2 : jI (st.length : Int) + 2 = jI ((st.length + 2 : Nat)) := by rw [j_2, jI_add]; rfl
  have p3 : jI (st.length : Int) + 3 = jI ((st.length + 3 : Nat)) := by rw [j_3, jI_add]; rfl
  have v0 : (2000 : Int32) + jI (clo (k + 1) : Int) = jI ((2000 + clo (k + 1) : Nat)) := by rw [j_2000, jI_add]; rfl
  have v1 : ((3 : Int32) * jI (n : Int)) + 1 = jI (mp (n, 1)) := by rw [j_3, j_1, jI_mul, jI_add]; rfl
  have v2 : ((3 : Int32) * jI (n : Int)) + 2 = jI (mp (n, 2)) := by rw [j_3, j_2, jI_mul, jI_add]; rfl
  simp only [lT_eq, oV_sA, L0, p1, p2, p3, v0, v1, v2]
  rw [if_pos (by rw [jI_inb (by omega) (by omega)]; omega), if_pos (by rw [jI_inb (by omega) (by omega)]; omega), jc _ (by omega), jc _ (by omega), jc _ (by omega)]
  let o2 := sV (sA (sA (sA o1 35 st.length (jI ((2000 + clo (k + 1) : Nat)))) 35 (st.length + 1) (jI (mp (n, 2)))) 35 (st.length + 2) (jI (mp (n, 1)))) 36 (jI ((st.length + 3 : Nat)))
  refine ⟨o2, rfl, ⟨r1.1, ?_, r1.2.2.1, fun p hp => ?_⟩, ⟨rfl, ?_⟩, Rf_tr (o'' := o2) f1 ⟨fun k a b c => ?_, fun k a b c => ?_, fun _ => rfl⟩⟩
  · show SgA (oA o2 33) _
    rw [show oA o2 33 = oA o1 33 from by show oA (sV (sA (sA (sA o1 35 _ _) 35 _ _) 35 _ _) 36 _) 33 = _; rw [oA_sV, sA_ne _ _ _ (by omega), sA_ne _ _ _ (by omega), sA_ne _ _ _ (by omega)]]
    exact r1.2.1
  · rw [show oA o2 37 = oA o1 37 from by show oA (sV (sA (sA (sA o1 35 _ _) 35 _ _) 35 _ _) 36 _) 37 = _; rw [oA_sV, sA_ne _ _ _ (by omega), sA_ne _ _ _ (by omega), sA_ne _ _ _ (by omega)]]
    exact r1.2.2.2 p hp
  · have a0 : StA (oA o1 35) st := by rw [k1]; exact hst.2
    have a1 : StA (oA (sA o1 35 st.length (jI ((2000 + clo (k + 1) : Nat)))) 35) (.inl (clo (k + 1)) :: st) := StA_push a0 (by rw [sA_rw, if_pos rfl]; rfl) (fun j hj => by rw [sA_rw, if_neg (by omega)])
    have a2 : StA (oA (sA (sA o1 35 st.length (jI ((2000 + clo (k + 1) : Nat)))) 35 (st.length + 1) (jI (mp (n, 2)))) 35) (.inr (n, 2) :: .inl (clo (k + 1)) :: st) := StA_push a1 (by rw [sA_rw, if_pos (by simp)]; rfl) (fun j hj => by rw [sA_rw, if_neg (by simp only [List.length_cons] at hj; omega)])
    exact StA_push (x := .inr (n, 1)) a2 (by show oA (sA _ 35 _ _) 35 _ = _; rw [sA_rw, if_pos (by simp)]; rfl) (fun j hj => by show oA (sA _ 35 _ _) 35 _ = _; rw [sA_rw, if_neg (by simp only [List.length_cons] at hj; omega)])
  · show oA (sV (sA (sA (sA o1 35 _ _) 35 _ _) 35 _ _) 36 _) k = _
    rw [oA_sV, sA_ne _ _ _ b, sA_ne _ _ _ b, sA_ne _ _ _ b]
  · show oV (sV (sA (sA (sA o1 35 _ _) 35 _ _) 35 _ _) 36 _) k = _
    rw [oV_sV, if_neg b]
    rfl
theorem mp0_div (n : Nat) (h : n < 1000) : jI (mp (n, 0)) / (3 : Int32) = jI n := by
  rw [j_3, jI_div3 (by omega) (by show ((3 * n + 0 : Nat) : Int) < _; omega)]
  congr 1
  show ((3 * n + 0 : Nat) : Int) / 3 = n
  omega
theorem mp_rem {q : Port} (hq : vm q) (h3 : q.2 < 3) : jI (mp q) - jI (mp q) / (3 : Int32) * (3 : Int32) = jI q.2 := by
  have := mp_lt hq
  rw [j_3, jI_rem3 (by omega) (by omega)]
  congr 1
  unfold mp
  rw [if_neg (by omega)]
  omega
/-- one thing told -/
theorem m_step (hb : b < 4) (h : MS b o K w r) (hF : WF K w) {s : RS} {st : List It} {i : It} (hs : RepM o s) (hn : NmOk s) (hst : StM o (i :: st)) (hl : s.2.2.length < 1000) (hl2 : st.length + 3 ≤ 400) (hi : ∀ p, i = .inr p → w p ≠ none) (hc : ∀ c, i = .inl c → c < 1000) (x2 : Int32) (E : Ob → Option Ob) (f : Nat) : ∃ o', LX7_layReading_78 x2 E (f + 1) o = LX7_layReading_78 x2 E f o' ∧ RepM o' (rd1 K w i s).2 ∧ StM o' ((rd1 K w i s).1 ++ st) ∧ Rf o o' := by
  obtain ⟨g1, g2⟩ := hst
  simp only [List.length_cons] at g1
  obtain ⟨t1, t2⟩ := StA_pop g2
  have e36 : oV o 36 - 1 = jI st.length := by rw [g1, jI_s1 (by omega)]; rfl
  let o1 := sV o 36 (jI st.length)
  have f1 : Rf o o1 := ⟨fun _ _ _ _ => rfl, fun k a b c => by show oV (sV o 36 _) k = _; rw [oV_sV, if_neg b], fun _ => rfl⟩
  have s1 : RepM o1 s := hs
  have st1 : StM o1 st := ⟨rfl, t2⟩
  have m1 : MS b o1 K w r := MS_Rf h f1
  have v1 : oV o1 36 = jI st.length := rfl
  have w1 : oA o1 35 st.length = itc i := t1
  rw [LX7_layReading_78.eq_2, if_neg (by rw [g1, j_0, jI_le (by omega) (by omega) (by omega) (by omega)]; omega), lT_eq, e36]
  show ∃ o', (if inb (oV o1 36) 400 then _ else none) = _ ∧ _
  rw [v1, if_pos (by rw [jI_inb (by omega) (by omega)]; omega), jc _ (by omega)]
  cases i with
  | inl c =>
    have := hc c rfl
    have w2 : oA o1 35 st.length = jI ((2000 + c : Nat)) := w1
    rw [w2, if_neg (by rw [j_2000, jI_lt (by omega) (by omega) (by omega) (by omega)]; omega), show jI ((2000 + c : Nat) : Int) - (2000 : Int32) = jI c from by rw [j_2000, jI_sub]; congr 1; omega]
    obtain ⟨o2, e2, r2, f2, k1, k2, k3, k4⟩ := m_put (c := c) s1 hl
    rw [e2, b1_some]
    exact ⟨o2, rfl, r2, ⟨by rw [k3]; exact st1.1, by rw [k1]; exact st1.2⟩, Rf_tr f1 f2⟩
  | inr p =>
    obtain ⟨q, hq⟩ := some_of (hi p rfl)
    obtain ⟨vpp, vq, em⟩ := m1.2.2.1.1 p q hq
    have hpq := (hF.1 _ _ hq).2
    have lp := mp_lt vpp
    have lq := mp_lt vq
    have w2 : oA o1 35 st.length = jI (mp p) := w1
    rw [w2, if_pos (by rw [j_2000, jI_lt (by omega) (by omega) (by omega) (by omega)]; omega)]
    unfold FX7_tellFrom
    rw [m_at hb m1.1 vpp, b1_some, em]
    unfold rd1
    simp only [hq]
    by_cases c : q.2 = 0
    · obtain ⟨n, z⟩ := q
      simp only at c
      subst c
      have vn : n < 180 := by
        rcases vq with a | a
        · exact a.2
        · have := a.1; simp only at this; omega
      have ha := alive_of hF (n := n) (s := 0) (by omega) (by rw [(hF.1 _ _ hq).1]; exact fun z => by cases z)
      obtain ⟨k, hk⟩ := some_of ha
      have hk3 := m1.2.1.2.2 n k hk
      have kd := m_kindOf hb m1.1 m1.2.1 vn
      rw [hk] at kd
      simp only [kI] at kd
      rw [if_neg (by rw [j_900, jI_le (by omega) (by omega) (by omega) (by omega)]; show ¬ (900 : Int) ≤ ((3 * n + 0 : Nat) : Int); omega), mp_rem vq (by simp only; omega), if_pos (by rfl), mp0_div n (by omega), lT_eq, kd, b1_some, if_pos rfl]
      simp only [hk]
      by_cases ck : k = 0
      · subst ck
        rw [if_pos (by rfl), if_pos rfl]
        obtain ⟨o2, e2, r2, f2, k1, k2, k3, k4⟩ := m_put (c := 42) s1 hl
        rw [show (42 : Int32) = jI ((42 : Nat) : Int) from rfl, e2, b1_some, b1_some]
        exact ⟨o2, rfl, r2, ⟨by rw [k3]; exact st1.1, by rw [k1]; exact st1.2⟩, Rf_tr f1 f2⟩
      · rw [if_neg (by rw [j_0, jI_eq (by omega) (by omega) (by omega) (by omega)]; omega), if_neg ck]
        obtain ⟨k', rfl⟩ : ∃ k', k = k' + 1 := ⟨k - 1, by omega⟩
        simp only [b1_some]
        rcases (show k' = 0 ∨ k' = 1 ∨ k' = 2 by omega) with rfl | rfl | rfl
        · rw [if_pos (by rfl)]
          obtain ⟨o2, e2, r2, st2, f2⟩ := m_brk hb m1 hk s1 st1 hl hl2 (c0 := 40)
          rw [show (40 : Int32) = jI ((40 : Nat) : Int) from rfl, e2, b1_some]
          exact ⟨o2, rfl, r2, st2, Rf_tr f1 f2⟩
        · rw [if_neg (by decide), if_pos (by rfl)]
          obtain ⟨o2, e2, r2, st2, f2⟩ := m_brk hb m1 hk s1 st1 hl hl2 (c0 := 91)
          rw [show (91 : Int32) = jI ((91 : Nat) : Int) from rfl, e2, b1_some]
          exact ⟨o2, rfl, r2, st2, Rf_tr f1 f2⟩
        · rw [if_neg (by decide), if_neg (by decide)]
          obtain ⟨o2, e2, r2, st2, f2⟩ := m_brk hb m1 hk s1 st1 hl hl2 (c0 := 123)
          rw [show (123 : Int32) = jI ((123 : Nat) : Int) from rfl, e2, b1_some]
          exact ⟨o2, rfl, r2, st2, Rf_tr f1 f2⟩
    · rw [if_neg c]
      obtain ⟨o2, e2, r2, f2, k1, k2⟩ := m_name s1 hn vpp vq hpq hl
      have fin : ∃ o', b1 (BX7_tellFrom_140 (jI (mp p)) (jI (mp q)) o1) (fun o0_27 => LX7_layReading_78 x2 E f o0_27) = LX7_layReading_78 x2 E f o' ∧ RepM o' (rnm p q s) ∧ StM o' st ∧ Rf o o' := by
        rw [e2, b1_some]
        exact ⟨o2, rfl, r2, ⟨by rw [k2]; exact st1.1, by rw [k1]; exact st1.2⟩, Rf_tr f1 f2⟩
      rcases vq with ⟨a1, a2⟩ | ⟨a1, a2⟩
      · have e : mp q = 3 * q.1 + q.2 := by unfold mp; rw [if_neg (by omega)]
        rw [if_neg (by rw [j_900, jI_le (by omega) (by omega) (by omega) (by omega)]; omega), mp_rem (Or.inl ⟨a1, a2⟩) a1, if_neg (by rw [j_0, jI_eq (by omega) (by omega) (by omega) (by omega)]; omega)]
        exact fin
      · have e : mp q = 900 + q.1 := by unfold mp; rw [if_pos a1]
        rw [if_pos (by rw [j_900, jI_le (by omega) (by omega) (by omega) (by omega)]; omega)]
        exact fin
end RR
