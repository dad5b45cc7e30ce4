/-! the reference's layReading, whole -/
def Cok (st : List It) : Prop := ∀ c, .inl c ∈ st → c < 1000
theorem clo_lt (k : Nat) : clo k < 1000 := by
  unfold clo
  split
  · omega
  · split <;> omega
theorem RI_V {K : Kd} {w : Wr} {t : Nat} {st : List It} {s : RS} {X : List Port} {V : List Nat} (hb : ∀ m, 180 ≤ m → K m = none) (h : RI K w t st s X V) : V.length ≤ 180 :=
  nodup_lt 180 V h.2.2.2.2.1 (fun m hm => by
    rcases Nat.lt_or_ge m 180 with c | c
    · exact c
    · obtain ⟨k, hk⟩ := h.2.2.2.2.2.1 m hm
      rw [hb m c] at hk; cases hk)
theorem RI_rd1 {K : Kd} {w : Wr} {t : Nat} {st : List It} {s : RS} {X : List Port} {V : List Nat} (hF : WF K w) {i : It} (h : RI K w t (i :: st) s X V) (hc : Cok (i :: st)) : ∃ X' V', RI K w t ((rd1 K w i s).1 ++ st) (rd1 K w i s).2 X' V' ∧ Cok ((rd1 K w i s).1 ++ st) := by
  have hc' : Cok st := fun c hm => hc c (List.mem_cons_of_mem _ hm)
  cases i with
  | inl c => exact ⟨X, V, RI_code h, hc'⟩
  | inr p =>
    have hw : w p ≠ none := h.2.2.2.2.2.2.2.2 p (List.mem_cons_self ..)
    obtain ⟨q, hq⟩ := some_of hw
    unfold rd1
    simp only [hq]
    by_cases c : q.2 = 0
    · rw [if_pos c]
      obtain ⟨n, z⟩ := q
      simp only at c
      subst c
      have ha := alive_of hF (n := n) (s := 0) (by omega) (by rw [(hF.1 _ _ hq).1]; exact fun z => by cases z)
      obtain ⟨k, hk⟩ := some_of ha
      simp only [hk]
      by_cases ck : k = 0
      · rw [if_pos ck]
        exact ⟨p :: X, V, RI_leaf h (rput_len 42 s), hc'⟩
      · rw [if_neg ck]
        obtain ⟨k', rfl⟩ : ∃ k', k = k' + 1 := ⟨k - 1, by omega⟩
        refine ⟨_, _, RI_node hF (c := clo (k' + 1)) (s' := rput (opn (k' + 1)) s) h hq hk (rput_len _ s), fun c hm => ?_⟩
        have hm' : Sum.inl c ∈ ([.inr (n, 1), .inr (n, 2), .inl (clo (k' + 1))] : List It) ∨ Sum.inl c ∈ st := List.mem_append.mp hm
        rcases hm' with hm' | hm'
        · simp only [List.mem_cons, List.not_mem_nil, or_false, reduceCtorEq, false_or] at hm'
          rw [Sum.inl.inj hm']
          exact clo_lt _
        · exact hc' c hm'
    · rw [if_neg c]
      exact ⟨p :: X, V, RI_leaf h (rnm_len p q s), hc'⟩
section RL
variable {b : Nat} {K : Kd} {w : Wr} {r : Nat}
theorem m_rdL (hb : b < 4) (hF : WF K w) (hbd : ∀ m, 180 ≤ m → K m = none) (x2 : Int32) (E : Ob → Option Ob) {t : Nat} (ht : t ≤ 8) : ∀ (f : Nat) (st : List It) (s s' : RS) (X : List Port) (V : List Nat) (F : Nat) (o : Ob), RI K w t st s X V → Cok st → NmOk s → MS b o K w r → RepM o s → StM o st → f < F → rdL K w f st s = some s' → ∃ o', LX7_layReading_78 x2 E F o = E o' ∧ RepM o' s' ∧ NmOk s' ∧ Rf o o' := by
  intro f
  induction f with
  | zero =>
    intro st s s' X V F o hR hC hN hM hs hst hF' h
    cases st with
    | nil =>
      cases h
      obtain ⟨F, rfl⟩ : ∃ f', F = f' + 1 := ⟨F - 1, by omega⟩
      refine ⟨o, ?_, hs, hN, Rf_rf o⟩
      rw [LX7_layReading_78.eq_2, hst.1, if_pos (by rfl)]
    | cons i st => cases h
  | succ f ih =>
    intro st s s' X V F o hR hC hN hM hs hst hF' h
    obtain ⟨F, rfl⟩ : ∃ f', F = f' + 1 := ⟨F - 1, by omega⟩
    cases st with
    | nil =>
      cases h
      refine ⟨o, ?_, hs, hN, Rf_rf o⟩
      rw [LX7_layReading_78.eq_2, hst.1, if_pos (by rfl)]
    | cons i st =>
      have hV := RI_V hbd hR
      have l1 := hR.2.2.2.2.2.2.1
      have l2 := hR.2.2.2.2.2.2.2.1
      simp only [List.length_cons] at l1 l2
      obtain ⟨o1, e1, r1, st1, f1⟩ := m_step (st := st) (i := i) hb hM hF hs hN hst (by omega) (by omega) (fun p hp => hR.2.2.2.2.2.2.2.2 p (by rw [hp]; exact List.mem_cons_self ..)) (fun c hc => hC c (by rw [hc]; exact List.mem_cons_self ..)) x2 E F
      obtain ⟨X', V', hR', hC'⟩ := RI_rd1 hF hR hC
      obtain ⟨o', e2, r2, n2, f2⟩ := ih _ _ s' X' V' F o1 hR' hC' (NmOk_rd1 hN i) (MS_Rf hM f1) r1 st1 (by omega) h
      exact ⟨o', e1.trans e2, r2, n2, Rf_tr f1 f2⟩
theorem RI_start {i : Nat} {s : RS} {X : List Port} {V : List Nat} (h : RI K w i [] s X V) (hw : w (i, 3) ≠ none) : RI K w (i + 1) [.inr (i, 3), .inl 59] s X V := by
  obtain ⟨h1, h2, h3, h4, h5, h6, h7, h8, h9⟩ := h
  have e : ports [.inr (i, 3), .inl 59] = [(i, 3)] := rfl
  rw [RI, e]
  have nx : ((i, 3) : Port) ∉ X := fun hx => by
    rcases h4 _ (Or.inl hx) with c | c
    · have := c.2; simp only at this; omega
    · rcases c.2 with c | c <;> simp at c
  refine ⟨fun p hp => ?_, List.nodup_cons.mpr ⟨List.not_mem_nil, List.nodup_nil⟩, h3, fun p hp => ?_, h5, h6, ?_, ?_, fun p hp => ?_⟩
  · rcases List.mem_cons.mp hp with c | c
    · rw [c]; exact nx
    · cases c
  · rcases hp with c | c
    · rcases h4 p (Or.inl c) with d | d
      · exact Or.inl ⟨d.1, by omega⟩
      · exact Or.inr d
    · rcases List.mem_cons.mp c with c | c
      · rw [c]; exact Or.inl ⟨rfl, by simp⟩
      · cases c
  · simp only [List.length_cons, List.length_nil] at h7 ⊢; omega
  · simp only [List.length_cons, List.length_nil]; omega
  · rcases List.mem_cons.mp hp with c | c
    · rw [c]; exact hw
    · cases c
theorem RI_skip {i : Nat} {s : RS} {X : List Port} {V : List Nat} (h : RI K w i [] s X V) : RI K w (i + 1) [] s X V := by
  obtain ⟨h1, h2, h3, h4, h5, h6, h7, h8, h9⟩ := h
  refine ⟨h1, h2, h3, fun p hp => ?_, h5, h6, by omega, h8, h9⟩
  rcases h4 p hp with d | d
  · exact Or.inl ⟨d.1, by omega⟩
  · exact Or.inr d
theorem rdW_ok (hF : WF K w) (hb : ∀ m, 180 ≤ m → K m = none) : ∀ (d i : Nat) (s : RS) (X : List Port) (V : List Nat), RI K w i [] s X V → ∃ s' X' V', rdW K w 600 d i s = some s' ∧ RI K w (i + d) [] s' X' V' := by
  intro d
  induction d with
  | zero => intro i s X V h; exact ⟨s, X, V, rfl, h⟩
  | succ d ih =>
    intro i s X V h
    unfold rdW
    by_cases c : w (i, 3) = none
    · rw [if_pos c]
      obtain ⟨s', X', V', h1, h2⟩ := ih (i + 1) s X V (RI_skip h)
      exact ⟨s', X', V', h1, by rw [show i + (d + 1) = i + 1 + d by omega]; exact h2⟩
    · rw [if_neg c]
      obtain ⟨s1, X1, V1, h1, h2⟩ := rdL_ok hF hb 600 _ _ _ _ (RI_start h c) (by simp only [List.length_cons, List.length_nil]; omega)
      rw [h1]
      obtain ⟨s', X', V', h3, h4⟩ := ih (i + 1) s1 X1 V1 h2
      exact ⟨s', X', V', h3, by rw [show i + (d + 1) = i + 1 + d by omega]; exact h4⟩
def rs0 : RS := (fun _ => none, 0, [])
theorem RI_0 (K : Kd) (w : Wr) : RI K w 0 [] rs0 [] [] := by
  refine ⟨fun p h => (by cases h), List.nodup_nil, fun n h => (by cases h), fun p h => ?_, List.nodup_nil, fun n h => (by cases h), Nat.le_refl 0, by simp, fun p h => by cases h⟩
  rcases h with h | h <;> cases h
/-- THE READING of a net -/
def rdg (K : Kd) (w : Wr) : List Nat := match rdW K w 600 8 0 rs0 with
  | none => []
  | some s => s.2.2
theorem rdg_ok (hF : WF K w) (hb : ∀ m, 180 ≤ m → K m = none) : ∃ s, rdW K w 600 8 0 rs0 = some s ∧ rdg K w = s.2.2 ∧ s.2.2.length ≤ 556 := by
  obtain ⟨s', X', V', h1, h2⟩ := rdW_ok hF hb 8 0 rs0 [] [] (RI_0 K w)
  refine ⟨s', h1, by unfold rdg; rw [h1], ?_⟩
  have := RI_V hb h2
  have := h2.2.2.2.2.2.2.1
  simp only [List.length_nil] at this
  omega
theorem m_isOpen {o : Ob} (hb : b < 4) (h : MS b o K w r) {i : Nat} (hi : i < 8) : FX7_isOpen (jI i) o = some (if w (i, 3) = none then 0 else 1) := by
  unfold FX7_isOpen FX7_within
  rw [if_neg (by rw [j_0, jI_lt (by omega) (by omega) (by omega) (by omega)]; omega), if_neg (by rw [j_7, jI_lt (by omega) (by omega) (by omega) (by omega)]; omega), b1_some, if_neg (by decide), h.1, show (8 : Int32) * jI (b : Int) + jI (i : Int) = jI ((8 * b + i : Nat)) from by rw [j_8, jI_mul, jI_add]; rfl, if_pos (by rw [jI_inb (by omega) (by omega)]; omega), jc _ (by omega)]
  by_cases c : w (i, 3) = none
  · rw [if_pos c, h.2.2.1.2 i hi c, if_pos (by rfl)]
  · rw [if_neg c]
    obtain ⟨q, hq⟩ := some_of c
    obtain ⟨a1, a2, a3⟩ := h.2.2.1.1 _ _ hq
    have := mp_lt a2
    unfold ma at a3
    rw [if_pos rfl] at a3
    simp only at a3
    rw [a3, if_neg (by rw [j_m1, jI_eq (by omega) (by omega) (by omega) (by omega)]; omega)]
theorem m_rdW (hb : b < 4) (hF : WF K w) (hbd : ∀ m, 180 ≤ m → K m = none) (E : Ob → Option Ob) : ∀ (d i : Nat) (s s' : RS) (X : List Port) (V : List Nat) (F : Nat) (o : Ob), i + d = 8 → d < F → RI K w i [] s X V → NmOk s → MS b o K w r → RepM o s → rdW K w 600 d i s = some s' → ∃ o', LX7_layReading_39 E F (jI i) o = E o' ∧ RepM o' s' ∧ Rf o o' := by
  intro d
  induction d with
  | zero =>
    intro i s s' X V F o hi hf hR hN hM hs h
    obtain ⟨F, rfl⟩ : ∃ f', F = f' + 1 := ⟨F - 1, by omega⟩
    cases h
    exact ⟨o, by rw [LX7_layReading_39.eq_2, if_pos (by rw [j_8, jI_le (by omega) (by omega) (by omega) (by omega)]; omega)], hs, Rf_rf o⟩
  | succ d ih =>
    intro i s s' X V F o hi hf hR hN hM hs h
    obtain ⟨F, rfl⟩ : ∃ f', F = f' + 1 := ⟨F - 1, by omega⟩
    rw [LX7_layReading_39.eq_2, if_neg (by rw [j_8, jI_le (by omega) (by omega) (by omega) (by omega)]; omega), m_isOpen hb hM (by omega), b1_some]
    unfold rdW at h
    by_cases c : w (i, 3) = none
    · rw [if_pos c] at h
      rw [if_pos c, if_pos rfl, lT_eq, jI_p1]
      exact ih (i + 1) s s' X V F o (by omega) (by omega) (RI_skip hR) hN hM hs h
    · rw [if_neg c] at h
      rw [if_neg c, if_neg (by decide), lT_eq, lT_eq, lT_eq]
      have hR1 := RI_start hR c
      obtain ⟨s1, X1, V1, h1, h2⟩ := rdL_ok hF hbd 600 _ _ _ _ hR1 (by simp only [List.length_cons, List.length_nil]; omega)
      rw [h1] at h
      have e1 : (900 : Int32) + jI (i : Int) = jI (mp (i, 3)) := by rw [j_900, jI_add]; rfl
      let o1 := sV (sA (sA o 35 0 (2059 : Int32)) 35 1 (jI (mp (i, 3)))) 36 (2 : Int32)
      have f1 : Rf o o1 := ⟨fun k a b c => by show oA (sV (sA (sA o 35 _ _) 35 _ _) 36 _) k = _; rw [oA_sV, sA_ne _ _ _ b, sA_ne _ _ _ b], fun k a b c => by show oV (sV (sA (sA o 35 _ _) 35 _ _) 36 _) k = _; rw [oV_sV, if_neg b]; rfl, fun _ => rfl⟩
      have r1 : RepM o1 s := by
        refine ⟨hs.1, ?_, hs.2.2.1, fun p hp => ?_⟩
        · rw [show oA o1 33 = oA o 33 from by show oA (sV (sA (sA o 35 _ _) 35 _ _) 36 _) 33 = _; rw [oA_sV, sA_ne _ _ _ (by omega), sA_ne _ _ _ (by omega)]]
          exact hs.2.1
        · rw [show oA o1 37 = oA o 37 from by show oA (sV (sA (sA o 35 _ _) 35 _ _) 36 _) 37 = _; rw [oA_sV, sA_ne _ _ _ (by omega), sA_ne _ _ _ (by omega)]]
          exact hs.2.2.2 p hp
      have st1 : StM o1 [.inr (i, 3), .inl 59] := by
        refine ⟨rfl, ?_⟩
        have a0 : StA (oA (sA o 35 0 (2059 : Int32)) 35) [.inl 59] := StA_push (st := []) (row := oA o 35) (fun j x h => by cases h) (by rw [sA_rw, if_pos (by simp)]; rfl) (fun j hj => by cases hj)
        have hrow : oA o1 35 = oA (sA (sA o 35 0 (2059 : Int32)) 35 1 (jI (mp (i, 3)))) 35 := rfl
        rw [hrow]
        exact StA_push (x := .inr (i, 3)) a0 (by rw [sA_rw, if_pos (by simp)]; rfl) (fun j hj => by rw [sA_rw, if_neg (by simp only [List.length_cons, List.length_nil] at hj; omega)])
      have ck : Cok [.inr (i, 3), .inl 59] := fun c hc => by
        simp only [List.mem_cons, List.not_mem_nil, or_false, reduceCtorEq, false_or] at hc
        rw [Sum.inl.inj hc]; omega
      obtain ⟨o2, e2, r2, n2, f2⟩ := m_rdL hb hF hbd (jI i) (fun o0_31 => lT (jI (i : Int) + (1 : Int32)) fun x2_32 => LX7_layReading_39 E F x2_32 o0_31) (t := i + 1) (by omega) 600 _ s s1 X V fu o1 hR1 ck hN (MS_Rf hM f1) r1 st1 (by rw [fu_eq]; omega) h1
      obtain ⟨o3, e3, r3, f3⟩ := ih (i + 1) s1 s' X1 V1 F o2 (by omega) (by omega) h2 n2 (MS_Rf (MS_Rf hM f1) f2) r2 h
      refine ⟨o3, ?_, r3, Rf_tr (Rf_tr f1 f2) f3⟩
      rw [e1]
      refine Eq.trans e2 ?_
      rw [lT_eq, jI_p1]
      exact e3
theorem m_names0 (E : Ob → Option Ob) : ∀ (d i F : Nat) (o : Ob), i + d = 908 → d < F → ∃ o', LX7_layReading_17 E F (jI i) o = E o' ∧ (∀ j, i ≤ j → j < 908 → oA o' 37 j = jI (-1)) ∧ (∀ j, j < i → oA o' 37 j = oA o 37 j) ∧ (∀ k, k ≠ 37 → oA o' k = oA o k) ∧ (∀ k, oV o' k = oV o k) ∧ ∀ k, oL o' k = oL o k := by
  intro d
  induction d with
  | zero =>
    intro i F o hi hF
    obtain ⟨F, rfl⟩ : ∃ f', F = f' + 1 := ⟨F - 1, by omega⟩
    exact ⟨o, by rw [LX7_layReading_17.eq_2, show (908 : Int32) = jI 908 from rfl, if_pos (by rw [jI_le (by omega) (by omega) (by omega) (by omega)]; omega)], fun j h1 h2 => by omega, fun _ _ => rfl, fun _ _ => rfl, fun _ => rfl, fun _ => rfl⟩
  | succ d ih =>
    intro i F o hi hF
    obtain ⟨F, rfl⟩ : ∃ f', F = f' + 1 := ⟨F - 1, by omega⟩
    obtain ⟨o', q1, q2, q3, q4, q5, q6⟩ := ih (i + 1) F (sA o 37 i (-1)) (by omega) (by omega)
    refine ⟨o', ?_, fun j h1 h2 => ?_, fun j h1 => ?_, fun k hk => ?_, fun k => q5 k, fun k => q6 k⟩
    · rw [LX7_layReading_17.eq_2, show (908 : Int32) = jI 908 from rfl, if_neg (by rw [jI_le (by omega) (by omega) (by omega) (by omega)]; omega), if_pos (by rw [jI_inb (by omega) (by omega)]; omega), lT_eq, lT_eq, jI_p1, jc _ (by omega)]
      exact q1
    · by_cases c : j = i
      · rw [q3 j (by omega), sA_rw, if_pos c]; rfl
      · exact q2 j (by omega) h2
    · rw [q3 j (by omega), sA_rw, if_neg (by omega)]
    · rw [q4 k hk, sA_ne _ _ _ hk]
/-- the reading of slot b -/
theorem m_layReading {o : Ob} (hb : b < 4) (hF : WF K w) (h : Sl b o K w r) (hbd : ∀ m, 180 ≤ m → K m = none) : ∃ o', FX7_layReading (jI b) o = some o' ∧ oV o' 34 = jI (rdg K w).length ∧ SgA (oA o' 33) (rdg K w) ∧ (rdg K w).length ≤ 556 ∧ oV o' 4 = 0 ∧ Wk o o' ∧ (∀ k, k ≠ 33 → k ≠ 35 → k ≠ 37 → oA o' k = oA o k) := by
  obtain ⟨s, hs, hg, hl⟩ := rdg_ok hF hbd
  let o0 := sV (sV (sV o 4 (jI b)) 34 (0 : Int32)) 38 (0 : Int32)
  obtain ⟨o1, e1, n1, -, k1, v1, lg1⟩ := m_names0 (fun o0_13 => LX7_layReading_39 (fun o0_38 => lT (sV o0_38 4 (0 : Int32)) fun o0_40 => some o0_40) fu (0 : Int32) o0_13) 908 0 fu o0 (by omega) (by rw [fu_eq]; omega)
  have m1 : MS b o1 K w r := ⟨by rw [v1]; rfl, Sl_o h (k1 0 (by omega)) (k1 1 (by omega)) (k1 2 (by omega)) (k1 3 (by omega))⟩
  have r1 : RepM o1 rs0 := by
    refine ⟨by rw [v1]; rfl, fun i v hv => (by cases hv), by rw [v1]; rfl, fun p hp => ?_⟩
    have := mp_lt hp
    rw [n1 _ (by omega) (by omega)]
    rfl
  obtain ⟨o2, e2, r2, f2⟩ := m_rdW hb hF hbd (fun o0_38 => lT (sV o0_38 4 (0 : Int32)) fun o0_40 => some o0_40) 8 0 rs0 s [] [] fu o1 (by omega) (by rw [fu_eq]; omega) (RI_0 K w) ⟨fun p k hk => (by cases hk), Nat.le_refl 0⟩ m1 r1 hs
  have key : ∀ k, k ≠ 33 → k ≠ 35 → k ≠ 37 → oA (sV o2 4 0) k = oA o k := fun k a b c => by
    rw [oA_sV, f2.1 k a b c, k1 k c]; rfl
  refine ⟨sV o2 4 0, ?_, ?_, ?_, by rw [hg]; exact hl, rfl, ⟨fun i _ => by rw [key 0 (by omega) (by omega) (by omega)], fun i _ => by rw [key 1 (by omega) (by omega) (by omega)], fun i _ => by rw [key 2 (by omega) (by omega) (by omega)], fun i _ => by rw [key 3 (by omega) (by omega) (by omega)], fun k hk => ?_, fun k hk => ?_, ?_⟩, key⟩
  · unfold FX7_layReading
    rw [lT_eq, lT_eq, lT_eq]
    exact e1.trans e2
  · rw [hg]; exact r2.1
  · rw [hg]; exact r2.2.1
  · unfold Pk at hk
    rw [key k (by omega) (by omega) (by omega)]
  · unfold Pv at hk
    rw [oV_sV, if_neg (by omega), f2.2.1 k (by omega) (by omega) (by omega), v1]
    show oV (sV (sV (sV o 4 _) 34 _) 38 _) k = _
    rw [oV_sV, if_neg (by omega), oV_sV, if_neg (by omega), oV_sV, if_neg (by omega)]
  · show oL o2 49 = _
    rw [f2.2.2, lg1]
    rfl
end RL
