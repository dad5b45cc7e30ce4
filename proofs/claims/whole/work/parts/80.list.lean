/-! the meetings of a net, by number -/
def isM (K : Kd) (w : Wr) (n : Nat) : Bool := match K n with
  | none => false
  | some _ => match w (n, 0) with
    | none => false
    | some q => decide (q.2 = 0 ∧ n < q.1)
def mtg (K : Kd) (w : Wr) : Nat → Nat → List Nat
  | 0, _ => []
  | d + 1, i => if isM K w i = true then i :: mtg K w d (i + 1) else mtg K w d (i + 1)
theorem isM_true {K : Kd} {w : Wr} {n : Nat} (h : isM K w n = true) : ∃ m, w (n, 0) = some (m, 0) ∧ n < m ∧ K n ≠ none := by
  unfold isM at h
  cases hk : K n with
  | none => rw [hk] at h; cases h
  | some k =>
    rw [hk] at h
    cases hw : w (n, 0) with
    | none => rw [hw] at h; cases h
    | some q =>
      rw [hw] at h
      obtain ⟨a, s⟩ := q
      have := of_decide_eq_true h
      simp only at this
      exact ⟨a, by rw [this.1], this.2, fun z => by cases z⟩
theorem isM_of {K : Kd} {w : Wr} {n m : Nat} (h1 : w (n, 0) = some (m, 0)) (h2 : n < m) (h3 : K n ≠ none) : isM K w n = true := by
  unfold isM
  obtain ⟨k, hk⟩ := some_of h3
  rw [hk, h1]
  exact decide_eq_true ⟨rfl, h2⟩
theorem mtg_len (K : Kd) (w : Wr) : ∀ d i, (mtg K w d i).length ≤ d := by
  intro d
  induction d with
  | zero => intro i; exact Nat.le_refl 0
  | succ d ih =>
    intro i
    have := ih (i + 1)
    unfold mtg
    split
    · simp only [List.length_cons]; omega
    · omega
theorem mtg_mem {K : Kd} {w : Wr} : ∀ d i v, v ∈ mtg K w d i → isM K w v = true ∧ i ≤ v ∧ v < i + d := by
  intro d
  induction d with
  | zero => intro i v h; cases h
  | succ d ih =>
    intro i v h
    unfold mtg at h
    by_cases c : isM K w i = true
    · rw [if_pos c] at h
      rcases List.mem_cons.mp h with e | e
      · rw [e]; exact ⟨c, by omega, by omega⟩
      · have := ih (i + 1) v e
        exact ⟨this.1, by omega, by omega⟩
    · rw [if_neg c] at h
      have := ih (i + 1) v h
      exact ⟨this.1, by omega, by omega⟩
theorem mtg_nil {K : Kd} {w : Wr} : ∀ d i, mtg K w d i = [] → ∀ v, i ≤ v → v < i + d → isM K w v = false := by
  intro d
  induction d with
  | zero => intro i _ v h1 h2; omega
  | succ d ih =>
    intro i h v h1 h2
    unfold mtg at h
    by_cases c : isM K w i = true
    · rw [if_pos c] at h; cases h
    · rw [if_neg c] at h
      by_cases e : v = i
      · rw [e]; simpa using c
      · exact ih (i + 1) h v (by omega) (by omega)
theorem mtg_none {K : Kd} {w : Wr} : ∀ d i, (∀ v, i ≤ v → K v = none) → mtg K w d i = [] := by
  intro d
  induction d with
  | zero => intro i _; rfl
  | succ d ih =>
    intro i h
    unfold mtg
    have c : isM K w i = false := by unfold isM; rw [h i (by omega)]
    rw [if_neg (by rw [c]; exact fun z => by cases z)]
    exact ih (i + 1) (fun v hv => h v (by omega))
theorem mtg_ext {K : Kd} {w : Wr} : ∀ d e i, (∀ v, i + d ≤ v → K v = none) → mtg K w (d + e) i = mtg K w d i := by
  intro d
  induction d with
  | zero => intro e i h; rw [Nat.zero_add]; exact mtg_none e i (fun v hv => h v (by omega))
  | succ d ih =>
    intro e i h
    rw [show d + 1 + e = (d + e) + 1 from by omega]
    unfold mtg
    rw [ih e (i + 1) (fun v hv => h v (by omega))]
theorem mtg_top {K : Kd} {w : Wr} {T N : Nat} (hT : ∀ v, T ≤ v → K v = none) (h : T ≤ N) : mtg K w N 0 = mtg K w T 0 := by
  have := mtg_ext (K := K) (w := w) T (N - T) 0 (fun v hv => hT v (by omega))
  rw [show T + (N - T) = N from by omega] at this
  exact this
/-- ascending -/
theorem mtg_asc {K : Kd} {w : Wr} : ∀ (d i j j' v v' : Nat), (mtg K w d i)[j]? = some v → (mtg K w d i)[j']? = some v' → j < j' → v < v' := by
  intro d
  induction d with
  | zero => intro i j j' v v' h; cases h
  | succ d ih =>
    intro i j j' v v' h h' hj
    unfold mtg at h h'
    by_cases c : isM K w i = true
    · rw [if_pos c] at h h'
      obtain ⟨k', rfl⟩ : ∃ k, j' = k + 1 := ⟨j' - 1, by omega⟩
      rw [List.getElem?_cons_succ] at h'
      cases j with
      | zero =>
        rw [List.getElem?_cons_zero] at h
        cases h
        have := mtg_mem d (i + 1) v' (List.mem_of_getElem? h')
        omega
      | succ k =>
        rw [List.getElem?_cons_succ] at h
        exact ih (i + 1) k k' v v' h h' (by omega)
    · rw [if_neg c] at h h'
      exact ih (i + 1) j j' v v' h h' hj
/-- but for the list, a Graph is what it was -/
def Fl (g g' : Ob) : Prop := (∀ k, k ≠ 2 → oA g' k = oA g k) ∧ (∀ k, k ≠ 8 → oV g' k = oV g k) ∧ ∀ k, oL g' k = oL g k
theorem Fl_tr {g g' g'' : Ob} (h : Fl g g') (h' : Fl g' g'') : Fl g g'' := ⟨fun k hk => (h'.1 k hk).trans (h.1 k hk), fun k hk => (h'.2.1 k hk).trans (h.2.1 k hk), fun k => (h'.2.2 k).trans (h.2.2 k)⟩
theorem RGr_Fl {N : Nat} {g g' : Ob} {K : Kd} {w : Wr} {r : Nat} (h : RGr N g K w r) (hf : Fl g g') : RGr N g' K w r := by
  obtain ⟨T, t, h1, h2, h3, h4, h5, h6⟩ := h
  exact ⟨T, t, RK_o h1 (hf.1 0 (by omega)) (hf.2.1 4 (by omega)), RW_other h2 (hf.1 1 (by omega)), (hf.2.1 7 (by omega)).trans h3, (hf.2.1 5 (by omega)).trans h4, h5, (hf.2.1 6 (by omega)).trans h6⟩
section LM
variable {N : Nat} {K : Kd} {w : Wr}
theorem s_listLoop (hN : N ≤ 1000) (hF : WF K w) {T : Nat} (E : Int32 → Ob → Option (Int32 × Ob)) : ∀ (d i c f : Nat) (g : Ob), i + d = T → d < f → c ≤ i → RK N g K T → RW N g w → ∃ g', LX2_listMeetings_7 N E f (jI c) (jI ((16 + 3 * i : Nat))) (jI i) g = E (jI ((c + (mtg K w d i).length : Nat))) g' ∧ (∀ k, k ≠ 2 → oA g' k = oA g k) ∧ (∀ k, oV g' k = oV g k) ∧ (∀ k, oL g' k = oL g k) ∧ (∀ j, j < c → oA g' 2 j = oA g 2 j) ∧ ∀ (j v : Nat), (mtg K w d i)[j]? = some v → oA g' 2 (c + j) = jI v := by
  intro d
  induction d with
  | zero =>
    intro i c f g hi hf hc hK hW
    obtain ⟨f, rfl⟩ : ∃ f', f = f' + 1 := ⟨f - 1, by omega⟩
    have := hK.2.1
    refine ⟨g, ?_, fun _ _ => rfl, fun _ => rfl, fun _ => rfl, fun _ _ => rfl, fun j v h => by cases h⟩
    rw [LX2_listMeetings_7.eq_2, hK.1, if_pos (by rw [jI_le (by omega) (by omega) (by omega) (by omega)]; omega)]
    rfl
  | succ d ih =>
    intro i c f g hi hf hc hK hW
    obtain ⟨f, rfl⟩ : ∃ f', f = f' + 1 := ⟨f - 1, by omega⟩
    have hTN := hK.2.1
    have ic : (jI (i : Int)).toNatClampNeg = i := by rw [jI_cl (by omega) (by omega), Int.toNat_natCast]
    have hc' : (jI ((16 + 3 * i : Nat) : Int)).toNatClampNeg = 16 + 3 * i := by rw [jI_cl (by omega) (by omega), Int.toNat_natCast]
    have nx : jI (i : Int) + 1 = jI ((i + 1 : Nat)) := jI_p1 i
    have nx3 : jI ((16 + 3 * i : Nat) : Int) + 3 = jI ((16 + 3 * (i + 1) : Nat)) := by rw [j_3, jI_add]; congr 1
    have nxc : jI (c : Int) + 1 = jI ((c + 1 : Nat)) := jI_p1 c
    rw [LX2_listMeetings_7.eq_2, hK.1, jI_ofNat, jI_ofNat, if_neg (by rw [jI_le (by omega) (by omega) (by omega) (by omega)]; omega), if_neg (by rw [jI_le (by omega) (by omega) (by omega) (by omega)]; omega), if_neg (by rw [jI_le (by omega) (by omega) (by omega) (by omega)]; omega), if_pos (by rw [jI_inb (by omega) (by omega)]; omega), ic, hK.2.2.1 i (by omega)]
    have skip : ∀ x, isM K w i = false → (x = BX2_listMeetings_71 N (LX2_listMeetings_7 N E f) (jI c) (jI ((16 + 3 * i : Nat))) (jI i) (0 : Int32) g) → ∃ g', x = E (jI ((c + (mtg K w (d + 1) i).length : Nat))) g' ∧ (∀ k, k ≠ 2 → oA g' k = oA g k) ∧ (∀ k, oV g' k = oV g k) ∧ (∀ k, oL g' k = oL g k) ∧ (∀ j, j < c → oA g' 2 j = oA g 2 j) ∧ ∀ (j v : Nat), (mtg K w (d + 1) i)[j]? = some v → oA g' 2 (c + j) = jI v := by
      intro x hm hx
      obtain ⟨g', h1, h2, h3, h4, h5, h6⟩ := ih (i + 1) c f g (by omega) (by omega) (by omega) hK hW
      have e : mtg K w (d + 1) i = mtg K w d (i + 1) := by
        show (if _ then _ else _) = _
        rw [if_neg (by rw [hm]; exact fun z => by cases z)]
      rw [e]
      refine ⟨g', ?_, h2, h3, h4, h5, h6⟩
      rw [hx]
      unfold BX2_listMeetings_71
      rw [if_pos rfl, lT_eq, lT_eq, nx, nx3]
      exact h1
    by_cases c1 : K i = none
    · rw [c1, if_pos (by rfl)]
      exact skip _ (by unfold isM; rw [c1]) rfl
    · have k0 := kI_ne c1
      have k3 := (kI_range hK i).2
      obtain ⟨q, hq⟩ := some_of ((WF_to hF i).1.mpr c1)
      obtain ⟨v1, v2, v3⟩ := hW.1 _ _ hq
      have e16 : cp (i, 0) = 16 + 3 * i := by unfold cp; rw [if_neg (by simp only; omega)]; simp
      rw [e16] at v3
      have hl := cp_lt v2
      obtain ⟨k, hk⟩ := some_of c1
      rw [if_neg (by rw [j_m1, jI_eq (by omega) (by omega) (by omega) (by omega)]; omega), if_pos (by rw [jI_inb (by omega) (by omega)]; omega), hc', v3]
      have isMq : isM K w i = decide (q.2 = 0 ∧ i < q.1) := by unfold isM; rw [hk, hq]
      obtain ⟨m, s⟩ := q
      simp only at isMq
      rcases v2 with ⟨s3, m3⟩ | ⟨s3, m3⟩
      · simp only at s3 m3
        have ecp : cp (m, s) = 16 + 3 * m + s := by unfold cp; rw [if_neg (by simp only; omega)]
        rw [ecp] at hl ⊢
        by_cases c2 : 16 + 3 * m + s ≤ 16 + 3 * i
        · rw [if_pos (by rw [jI_le (by omega) (by omega) (by omega) (by omega)]; omega)]
          exact skip _ (by rw [isMq]; exact decide_eq_false (by omega)) rfl
        · rw [if_neg (by rw [jI_le (by omega) (by omega) (by omega) (by omega)]; omega)]
          have es : jI ((16 + 3 * m + s : Nat) : Int) - jI ((16 + 3 * i : Nat) : Int) = jI ((16 + 3 * m + s : Nat) - (16 + 3 * i : Nat) : Int) := jI_sub _ _
          rw [es, j_3, jI_rem3 (by omega) (by omega)]
          by_cases c3 : s = 0
          · rw [if_pos (by rw [j_0, jI_eq (by omega) (by omega) (by omega) (by omega)]; omega)]
            have hm : isM K w i = true := by rw [isMq]; exact decide_eq_true (by omega)
            obtain ⟨g', h1, h2, h3, h4, h5, h6⟩ := ih (i + 1) (c + 1) f (sA g 2 c (jI i)) (by omega) (by omega) (by omega) (RK_o hK (by funext z; rw [oA_sA, if_neg (by omega)]) rfl) (RW_other hW (by funext z; rw [oA_sA, if_neg (by omega)]))
            have e : mtg K w (d + 1) i = i :: mtg K w d (i + 1) := by
              show (if _ then _ else _) = _
              rw [if_pos hm]
            rw [e]
            refine ⟨g', ?_, fun k hk => ?_, fun k => h3 k, fun k => h4 k, fun j hj => ?_, fun j v hv => ?_⟩
            · unfold BX2_listMeetings_71
              rw [if_neg (by decide), jI_ofNat, if_neg (by rw [jI_le (by omega) (by omega) (by omega) (by omega)]; omega), if_pos (by rw [jI_inb (by omega) (by omega)]; omega), lT_eq, lT_eq, lT_eq, lT_eq, nx, nx3, nxc, jI_cl (by omega) (by omega), Int.toNat_natCast, h1]
              congr 2
              simp only [List.length_cons]
              omega
            · rw [h2 k hk]; funext z; rw [oA_sA, if_neg (fun y => hk y.1)]
            · rw [h5 j (by omega), oA_sA, if_neg (by omega)]
            · cases j with
              | zero =>
                rw [List.getElem?_cons_zero] at hv
                cases hv
                rw [Nat.add_zero, h5 c (by omega), oA_sA, if_pos ⟨rfl, rfl⟩]
              | succ j =>
                rw [List.getElem?_cons_succ] at hv
                have := h6 j v hv
                rw [show c + (j + 1) = c + 1 + j from by omega]
                exact this
          · rw [if_neg (by rw [j_0, jI_eq (by omega) (by omega) (by omega) (by omega)]; omega)]
            exact skip _ (by rw [isMq]; exact decide_eq_false (by omega)) rfl
      · simp only at s3 m3
        subst s3
        have ecp : cp (m, 3) = m := rfl
        rw [ecp] at hl ⊢
        rw [if_pos (by rw [jI_le (by omega) (by omega) (by omega) (by omega)]; omega)]
        exact skip _ (by rw [isMq]; exact decide_eq_false (by omega)) rfl
/-- a list stands in the Graph -/
def Ls (g : Ob) (l : List Nat) : Prop := oV g 8 = jI l.length ∧ ∀ (j v : Nat), l[j]? = some v → oA g 2 j = jI v
theorem s_list (hN : N ≤ 1000) (hF : WF K w) {g : Ob} {r : Nat} (hG : RGr N g K w r) : ∃ g', FX2_listMeetings N g = some (jI (mtg K w N 0).length, g') ∧ Fl g g' ∧ Ls g' (mtg K w N 0) := by
  obtain ⟨T, t, hK, hW, -⟩ := hG
  have hT := hK.2.1
  rw [mtg_top hK.2.2.2.1 hT]
  obtain ⟨g', h1, h2, h3, h4, h5, h6⟩ := s_listLoop hN hF (fun x1_28 o0_29 => lT (sV o0_29 8 x1_28) fun o0_31 => some (x1_28, o0_31)) T 0 0 fu g (by omega) (by rw [fu_eq]; omega) (by omega) hK hW
  rw [Nat.zero_add] at h1
  refine ⟨sV g' 8 (jI (mtg K w T 0).length), ?_, ⟨fun k hk => ?_, fun k hk => ?_, h4⟩, ?_, fun j v hv => ?_⟩
  · unfold FX2_listMeetings
    rw [show (0 : Int32) = jI ((0 : Nat) : Int) from rfl, show (16 : Int32) = jI ((16 + 3 * 0 : Nat) : Int) from rfl, h1, lT_eq]
  · exact h2 k hk
  · rw [oV_sV, if_neg hk]; exact h3 k
  · rw [oV_sV, if_pos rfl]
  · have := h6 j v hv
    rw [Nat.zero_add] at this
    exact this
theorem s_listedAt {g : Ob} {l : List Nat} (hN : N ≤ 1000) (h : Ls g l) (hl : l.length ≤ N) (j : Nat) (hj : j < 2147483648) : FX2_listedAt N (jI j) g = some (jI (match l[j]? with | none => -1 | some v => (v : Int))) := by
  unfold FX2_listedAt
  rw [if_neg (by rw [j_0, jI_lt (by omega) (by omega) (by omega) (by omega)]; omega), h.1]
  cases hv : l[j]? with
  | none =>
    have := List.getElem?_eq_none_iff.mp hv
    rw [if_pos (by rw [jI_le (by omega) (by omega) (by omega) (by omega)]; omega)]
    rfl
  | some v =>
    have : j < l.length := by
      rcases Nat.lt_or_ge j l.length with c | c
      · exact c
      · rw [List.getElem?_eq_none_iff.mpr c] at hv; cases hv
    rw [if_neg (by rw [jI_le (by omega) (by omega) (by omega) (by omega)]; omega), jI_ofNat, if_neg (by rw [jI_le (by omega) (by omega) (by omega) (by omega)]; omega), if_pos (by rw [jI_inb (by omega) (by omega)]; omega), jI_cl (by omega) (by omega), Int.toNat_natCast, h.2 j v hv]
end LM
/-! in the reference -/
section LR
variable {b : Nat} {o : Ob} {K : Kd} {w : Wr} {r : Nat}
theorem MS_isMeeting (hb : b < 4) (h : MS b o K w r) (hF : WF K w) {n : Nat} (hn : n < 180) : FX7_isMeeting (jI n) o = some (if isM K w n = true then 1 else 0) := by
  unfold FX7_isMeeting
  rw [m_kindOf hb h.1 h.2.1 hn, b1_some]
  by_cases c1 : K n = none
  · have : isM K w n = false := by unfold isM; rw [c1]
    rw [c1, if_pos (by rfl), this]
    rfl
  · have k0 := kI_ne c1
    obtain ⟨k, hk⟩ := some_of c1
    have k3 : kI (K n) ≤ 3 := by
      have := h.2.1.2.2 n k hk
      rw [hk]; unfold kI; simp only; omega
    obtain ⟨q, hq⟩ := some_of ((WF_to hF n).1.mpr c1)
    obtain ⟨v1, v2, v3⟩ := h.2.2.1.1 _ _ hq
    rw [if_neg (by rw [j_m1, jI_eq (by omega) (by omega) (by omega) (by omega)]; omega), m_meets hb h.1 h.2.2.1 hn hq, b1_some]
    have isMq : isM K w n = decide (q.2 = 0 ∧ n < q.1) := by unfold isM; rw [hk, hq]
    obtain ⟨m, s⟩ := q
    simp only at isMq ⊢
    unfold vm at v2
    simp only at v2
    rw [isMq]
    by_cases c2 : s = 0
    · rw [if_pos c2]
      by_cases c3 : n < m
      · rw [if_neg (by rw [jI_le (by omega) (by omega) (by omega) (by omega)]; omega), if_pos (decide_eq_true ⟨c2, c3⟩)]
      · rw [if_pos (by rw [jI_le (by omega) (by omega) (by omega) (by omega)]; omega), if_neg (by rw [decide_eq_false (by omega)]; exact fun z => by cases z)]
    · rw [if_neg c2, if_pos (by rw [jI_le (by omega) (by omega) (by omega) (by omega)]; omega), if_neg (by rw [decide_eq_false (by omega)]; exact fun z => by cases z)]
theorem MS_meetingsNow (hb : b < 4) (h : MS b o K w r) (hF : WF K w) : FX7_meetingsNow o = some (jI (mtg K w 180 0).length) := by
  have lp : ∀ (d i c f : Nat), i + d = 180 → d < f → LX7_meetingsNow_4 o f (jI c) (jI i) = some (jI ((c + (mtg K w d i).length : Nat))) := by
    intro d
    induction d with
    | zero =>
      intro i c f hi hf
      obtain ⟨f, rfl⟩ : ∃ f', f = f' + 1 := ⟨f - 1, by omega⟩
      rw [LX7_meetingsNow_4.eq_2, if_pos (by rw [j_180, jI_le (by omega) (by omega) (by omega) (by omega)]; omega)]
      rfl
    | succ d ih =>
      intro i c f hi hf
      obtain ⟨f, rfl⟩ : ∃ f', f = f' + 1 := ⟨f - 1, by omega⟩
      have nx : jI (i : Int) + 1 = jI ((i + 1 : Nat)) := jI_p1 i
      have nxc : jI (c : Int) + 1 = jI ((c + 1 : Nat)) := jI_p1 c
      have nx0 : jI (c : Int) + 0 = jI (c : Int) := by rw [j_0, jI_add, Int.add_zero]
      rw [LX7_meetingsNow_4.eq_2, if_neg (by rw [j_180, jI_le (by omega) (by omega) (by omega) (by omega)]; omega), MS_isMeeting hb h hF (by omega), b1_some]
      unfold mtg
      by_cases c1 : isM K w i = true
      · rw [if_pos c1, if_pos c1, if_neg (by decide), lT_eq, lT_eq, nx, nxc, ih (i + 1) (c + 1) f (by omega) (by omega)]
        congr 3
        simp only [List.length_cons]
        omega
      · rw [if_neg c1, if_neg c1, if_pos rfl, lT_eq, lT_eq, nx, nx0]
        exact ih (i + 1) c f (by omega) (by omega)
  have := lp 180 0 0 fu (by omega) (by rw [fu_eq]; omega)
  rw [Nat.zero_add] at this
  exact this
theorem MS_meetingAt (hb : b < 4) (h : MS b o K w r) (hF : WF K w) (j : Nat) (hj : j < 2147483648) : FX7_meetingAt (jI j) o = some (jI (match (mtg K w 180 0)[j]? with | none => -1 | some v => (v : Int))) := by
  have lp : ∀ (d i f j : Nat), i + d = 180 → d < f → j < 2147483648 → LX7_meetingAt_4 o f (jI j) (jI i) = some (jI (match (mtg K w d i)[j]? with | none => -1 | some v => (v : Int))) := by
    intro d
    induction d with
    | zero =>
      intro i f j hi hf hj
      obtain ⟨f, rfl⟩ : ∃ f', f = f' + 1 := ⟨f - 1, by omega⟩
      rw [LX7_meetingAt_4.eq_2, if_pos (by rw [j_180, jI_le (by omega) (by omega) (by omega) (by omega)]; omega)]
      rfl
    | succ d ih =>
      intro i f j hi hf hj
      obtain ⟨f, rfl⟩ : ∃ f', f = f' + 1 := ⟨f - 1, by omega⟩
      have nx : jI (i : Int) + 1 = jI ((i + 1 : Nat)) := jI_p1 i
      rw [LX7_meetingAt_4.eq_2, if_neg (by rw [j_180, jI_le (by omega) (by omega) (by omega) (by omega)]; omega), MS_isMeeting hb h hF (by omega), b1_some]
      unfold mtg
      by_cases c1 : isM K w i = true
      · rw [if_pos c1, if_pos c1, if_neg (by decide)]
        cases j with
        | zero =>
          rw [if_pos (by rfl), List.getElem?_cons_zero]
        | succ j =>
          rw [if_neg (by rw [j_0, jI_eq (by omega) (by omega) (by omega) (by omega)]; omega), lT_eq, lT_eq, nx, List.getElem?_cons_succ]
          have e : jI ((j + 1 : Nat) : Int) + (-1 : Int32) = jI (j : Int) := by rw [j_m1, jI_add]; congr 1; omega
          rw [e]
          exact ih (i + 1) f j (by omega) (by omega) (by omega)
      · rw [if_neg c1, if_neg c1, if_pos rfl, lT_eq, nx]
        exact ih (i + 1) f j (by omega) (by omega) hj
  exact lp 180 0 fu j (by omega) (by rw [fu_eq]; omega) hj
theorem MS_nodes (hb : b < 4) (h : MS b o K w r) : FX7_nodes o = some (jI (cnt K 180)) := by
  have lp : ∀ (d i f : Nat), i + d = 180 → d < f → LX7_nodes_4 o f (jI (cnt K i)) (jI i) = some (jI (cnt K 180)) := by
    intro d
    induction d with
    | zero =>
      intro i f hi hf
      obtain ⟨f, rfl⟩ : ∃ f', f = f' + 1 := ⟨f - 1, by omega⟩
      rw [LX7_nodes_4.eq_2, if_pos (by rw [j_180, jI_le (by omega) (by omega) (by omega) (by omega)]; omega), show i = 180 from by omega]
    | succ d ih =>
      intro i f hi hf
      obtain ⟨f, rfl⟩ : ∃ f', f = f' + 1 := ⟨f - 1, by omega⟩
      have nx : jI (i : Int) + 1 = jI ((i + 1 : Nat)) := jI_p1 i
      rw [LX7_nodes_4.eq_2, if_neg (by rw [j_180, jI_le (by omega) (by omega) (by omega) (by omega)]; omega), m_kindOf hb h.1 h.2.1 (by omega), b1_some]
      have ih' := ih (i + 1) f (by omega) (by omega)
      by_cases c1 : K i = none
      · have e : cnt K (i + 1) = cnt K i := by show cnt K i + _ = _; rw [if_pos c1]; rfl
        rw [e] at ih'
        rw [c1, if_pos (by rfl), lT_eq, lT_eq, nx, j_0, jI_add, Int.add_zero]
        exact ih'
      · have e : cnt K (i + 1) = cnt K i + 1 := by show cnt K i + _ = _; rw [if_neg c1]
        have k0 := kI_ne c1
        obtain ⟨k, hk⟩ := some_of c1
        have k3 : kI (K i) ≤ 3 := by
          have := h.2.1.2.2 i k hk
          rw [hk]; unfold kI; simp only; omega
        rw [e] at ih'
        rw [if_neg (by rw [j_m1, jI_eq (by omega) (by omega) (by omega) (by omega)]; omega), lT_eq, lT_eq, nx, jI_p1]
        exact ih'
  exact lp 180 0 fu (by omega) (by rw [fu_eq]; omega)
end LR
