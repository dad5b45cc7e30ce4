/-! the reference's layNet -/
def FN (o o' : Ob) : Prop := (∀ i, 180 ≤ i → oA o' 0 i = oA o 0 i) ∧ (∀ i, 540 ≤ i → oA o' 1 i = oA o 1 i) ∧ (∀ i, 8 ≤ i → oA o' 2 i = oA o 2 i) ∧ (∀ i, i ≠ 0 → oA o' 3 i = oA o 3 i) ∧ (∀ k, 3 < k → k ≠ 29 → oA o' k = oA o k) ∧ ∀ k, oV o' k = oV o k
theorem FN_rf (o : Ob) : FN o o := ⟨fun _ _ => rfl, fun _ _ => rfl, fun _ _ => rfl, fun _ _ => rfl, fun _ _ _ => rfl, fun _ => rfl⟩
theorem FN_tr {o o' o'' : Ob} (h : FN o o') (h' : FN o' o'') : FN o o'' := ⟨fun i a => (h'.1 i a).trans (h.1 i a), fun i a => (h'.2.1 i a).trans (h.2.1 i a), fun i a => (h'.2.2.1 i a).trans (h.2.2.1 i a), fun i a => (h'.2.2.2.1 i a).trans (h.2.2.2.1 i a), fun k a b => (h'.2.2.2.2.1 k a b).trans (h.2.2.2.2.1 k a b), fun k => (h'.2.2.2.2.2 k).trans (h.2.2.2.2.2 k)⟩
theorem FN_D {o o' : Ob} (h : D29 o o') : FN o o' := ⟨fun i _ => by rw [h.1 0 (by omega)], fun i _ => by rw [h.1 1 (by omega)], fun i _ => by rw [h.1 2 (by omega)], fun i _ => by rw [h.1 3 (by omega)], fun k _ b => h.1 k b, h.2⟩
theorem FN_0 (o : Ob) {i : Nat} (hi : i < 180) (v : Int32) : FN o (sA o 0 i v) := ⟨fun j hj => by rw [sA_rw, if_neg (by omega)], fun _ _ => by rw [sA_ne _ _ _ (by omega)], fun _ _ => by rw [sA_ne _ _ _ (by omega)], fun _ _ => by rw [sA_ne _ _ _ (by omega)], fun k a _ => sA_ne _ _ _ (by omega), fun _ => rfl⟩
theorem FN_1 (o : Ob) {i : Nat} (hi : i < 540) (v : Int32) : FN o (sA o 1 i v) := ⟨fun _ _ => by rw [sA_ne _ _ _ (by omega)], fun j hj => by rw [sA_rw, if_neg (by omega)], fun _ _ => by rw [sA_ne _ _ _ (by omega)], fun _ _ => by rw [sA_ne _ _ _ (by omega)], fun k a _ => sA_ne _ _ _ (by omega), fun _ => rfl⟩
theorem FN_2 (o : Ob) {i : Nat} (hi : i < 8) (v : Int32) : FN o (sA o 2 i v) := ⟨fun _ _ => by rw [sA_ne _ _ _ (by omega)], fun _ _ => by rw [sA_ne _ _ _ (by omega)], fun j hj => by rw [sA_rw, if_neg (by omega)], fun _ _ => by rw [sA_ne _ _ _ (by omega)], fun k a _ => sA_ne _ _ _ (by omega), fun _ => rfl⟩
theorem FN_3 (o : Ob) (v : Int32) : FN o (sA o 3 0 v) := ⟨fun _ _ => by rw [sA_ne _ _ _ (by omega)], fun _ _ => by rw [sA_ne _ _ _ (by omega)], fun _ _ => by rw [sA_ne _ _ _ (by omega)], fun j hj => by rw [sA_rw, if_neg hj], fun k a _ => sA_ne _ _ _ (by omega), fun _ => rfl⟩
section LNs
variable {u : Nat → Nat} {w : Wr} {n : Nat} {K : Kd}
/-- what stays while a net is laid -/
def Base (n : Nat) (u : Nat → Nat) (K : Kd) (w : Wr) (o : Ob) (S : List Nat) : Prop := RawOk u w o ∧ (∀ m k, K m = some k → oA o 22 m = jI k) ∧ oV o 21 = jI n ∧ MkR u (oA o 29) (fun i => i ∈ S) ∧ I0 u w S
theorem Base_FN {o o' : Ob} {S : List Nat} (h : Base n u K w o S) (hf : FN o o') (h29 : oA o' 29 = oA o 29) : Base n u K w o' S := by
  obtain ⟨h1, h2, h3, h4, h5⟩ := h
  refine ⟨⟨fun p q hp => ?_, ?_⟩, fun m k hm => ?_, ?_, by rw [h29]; exact h4, h5⟩
  · rw [hf.2.2.2.2.1 23 (by omega) (by omega)]; exact h1.1 p q hp
  · rw [PU, hf.2.2.2.2.1 24 (by omega) (by omega)]; exact h1.2
  · rw [hf.2.2.2.2.1 22 (by omega) (by omega)]; exact h2 m k hm
  · rw [hf.2.2.2.2.2 21]; exact h3
def Dn1 (m s : Nat) (p : Port) : Prop := p.2 < 3 ∧ (p.1 < m ∨ (p.1 = m ∧ p.2 < s))
def LN (n : Nat) (u : Nat → Nat) (K : Kd) (w : Wr) (mk m s : Nat) (o : Ob) (S : List Nat) : Prop := Base n u K w o S ∧ (Fz w S).2 = 0 ∧ (∀ j, j < 180 → oA o 0 j = if j < mk then jI (kI (K j)) else jI (-1)) ∧ (∀ p t, Dn1 m s p → (Fz w (lk u 8)).1 p = some t → oA o 1 (3 * p.1 + p.2) = jI (mp t)) ∧ (∀ p q, Dn1 m s p → w p = some q → isL2 u q → lt q ∈ S) ∧ (∀ i, i < 8 → oA o 2 i = jI (-1)) ∧ oA o 3 0 = 0
theorem nL2 {m s : Nat} (h : s < 3) : ¬ isL2 u (m, s) := fun z => by have := z.1; simp only at this; omega
theorem W_occ (hO : Occ n u K w) {p : Port} (hp : w p ≠ none) (hn : ¬ isL2 u p) : (Fz w (lk u 8)).1 p ≠ none := by
  have hU := Occ_HU hO
  refine ((Fz_facts hU (lk_ok (u := u) (k := 8) (by omega))).2 p).mpr ⟨hp, fun i hi => ?_⟩
  have h1 := (lk_mem 8 i).mp hi
  obtain ⟨a, b, -⟩ := L2_port h1.1 h1.2
  exact ⟨fun z => hn (z ▸ a), fun z => hn (z ▸ b)⟩
theorem W_none (hO : Occ n u K w) {p : Port} (hp : w p = none ∨ isL2 u p) : (Fz w (lk u 8)).1 p = none := by
  have hU := Occ_HU hO
  cases h : (Fz w (lk u 8)).1 p with
  | none => rfl
  | some q =>
    exfalso
    have h1 := ((Fz_facts hU (lk_ok (u := u) (k := 8) (by omega))).2 p).mp (by rw [h]; exact fun z => by cases z)
    rcases hp with z | z
    · exact h1.1 z
    · have h2 := h1.2 (lt p) ((lk_mem 8 _).mpr ⟨(L2_or z).1, z.2.2⟩)
      rcases (L2_or z).2 with a | a
      · exact h2.1 a.1
      · exact h2.2 a.1
theorem m_lay56 (hO : Occ n u K w) {m c : Nat} (hm : m < n) (hc : (K m = some 0 ∧ c = 1) ∨ (∃ k, K m = some (k + 1)) ∧ c = 3) (E : Ob → Option Ob) : ∀ (e s F : Nat) (o : Ob) (S : List Nat), s + e = c → e < F → LN n u K w (m + 1) m s o S → ∃ o' S', LX7_layNet_56 (jI m) E F (jI ((3 * m + s : Nat))) o = E o' ∧ LN n u K w (m + 1) m c o' S' ∧ FN o o' := by
  have hn60 := hO.2.2.2.1
  have c3 : c = 1 ∨ c = 3 := by rcases hc with h | h <;> omega
  intro e
  induction e with
  | zero =>
    intro s F o S hs hF h
    obtain ⟨F, rfl⟩ : ∃ f', F = f' + 1 := ⟨F - 1, by omega⟩
    have e1 : s = c := by omega
    subst e1
    refine ⟨o, S, ?_, h, FN_rf o⟩
    have e3 : (3 : Int32) * jI m = jI ((3 * m : Nat)) := by rw [j_3, jI_mul]; rfl
    rw [LX7_layNet_56.eq_2, if_pos (by rw [jI_inb (by omega) (by omega)]; omega), jc _ (by omega)]
    unfold BX7_layNet_74
    rcases hc with ⟨h1, h2⟩ | ⟨⟨k, h1⟩, h2⟩
    · rw [h.1.2.1 m 0 h1, if_pos (by rfl), e3, j_1, jI_add, if_pos (by rw [jI_le (by omega) (by omega) (by omega) (by omega)]; omega)]
    · have hk3 := hO.2.2.2.2.2 _ _ h1
      rw [h.1.2.1 m _ h1, if_neg (by rw [j_0, jI_eq (by omega) (by omega) (by omega) (by omega)]; omega), e3, j_3, jI_add, if_pos (by rw [jI_le (by omega) (by omega) (by omega) (by omega)]; omega)]
  | succ e ih =>
    intro s F o S hs hF h
    obtain ⟨F, rfl⟩ : ∃ f', F = f' + 1 := ⟨F - 1, by omega⟩
    obtain ⟨hB, hz, hk, hl, hcm, ho, hr⟩ := h
    have hwp : w (m, s) ≠ none := by
      refine (hO.1 _).mpr ?_
      by_cases s0 : s = 0
      · exact Or.inl ⟨s0, hm⟩
      · rcases hc with ⟨h1, h2⟩ | ⟨h1, h2⟩
        · omega
        · exact Or.inr (Or.inl ⟨by simp only; omega, h1, by simp only; omega⟩)
    obtain ⟨t, ht⟩ := some_of (W_occ hO hwp (nL2 (by omega)))
    obtain ⟨o1, S1, q, a1, a2, a3, a4, a5, a6, a7, a8⟩ := m_chase hO hB.2.2.2.2 (nL2 (by omega)) ht hB.1 hB.2.2.2.1
    have erp : rp (m, s) = 3 * m + s := by unfold rp; rw [if_neg (by simp only; omega)]
    have hraw : oA o 23 (3 * m + s) = jI (rp q) := by rw [← erp]; exact hB.1.1 _ _ a1
    let o2 := sA o1 1 (3 * m + s) (jI (mp t))
    have f2 : FN o o2 := FN_tr (FN_D a3) (FN_1 o1 (by omega) _)
    have hB1 : Base n u K w o1 S1 := ⟨RawOk_D hB.1 a3, fun j k hj => by rw [a3.1 22 (by omega)]; exact hB.2.1 j k hj, by rw [a3.2]; exact hB.2.2.1, a6, a4⟩
    have hB2 : Base n u K w o2 S1 := Base_FN hB1 (FN_1 o1 (by omega) _) (sA_ne _ _ _ (by omega))
    have hL : LN n u K w (m + 1) m (s + 1) o2 S1 := by
      refine ⟨hB2, by rw [a5]; exact hz, fun j hj => ?_, fun p t' hp hp' => ?_, fun p q' hp hp' hq => ?_, fun i hi => ?_, ?_⟩
      · show oA (sA o1 1 _ _) 0 j = _
        rw [sA_ne _ _ _ (by omega), a3.1 0 (by omega)]; exact hk j hj
      · show oA (sA o1 1 _ _) 1 _ = _
        rw [sA_rw]
        by_cases cp' : p = (m, s)
        · rw [cp'] at hp' ⊢
          rw [if_pos rfl]
          rw [ht] at hp'
          rw [Option.some.inj hp']
        · have hd : Dn1 m s p := by
            refine ⟨hp.1, ?_⟩
            rcases hp.2 with z | z
            · exact Or.inl z
            · refine Or.inr ⟨z.1, ?_⟩
              have : p.2 ≠ s := fun y => cp' (Prod.ext z.1 y)
              omega
          have p3 := hp.1
          rw [if_neg (fun z => cp' (Prod.ext (by simp only; omega) (by simp only; omega))), a3.1 1 (by omega)]
          exact hl p t' hd hp'
      · by_cases cp' : p = (m, s)
        · rw [cp', a1] at hp'
          rw [← Option.some.inj hp'] at hq ⊢
          exact a8 hq
        · have hd : Dn1 m s p := by
            refine ⟨hp.1, ?_⟩
            rcases hp.2 with z | z
            · exact Or.inl z
            · refine Or.inr ⟨z.1, ?_⟩
              have : p.2 ≠ s := fun y => cp' (Prod.ext z.1 y)
              omega
          exact a7 _ (hcm p q' hd hp' hq)
      · show oA (sA o1 1 _ _) 2 i = _
        rw [sA_ne _ _ _ (by omega), a3.1 2 (by omega)]; exact ho i hi
      · show oA (sA o1 1 _ _) 3 0 = _
        rw [sA_ne _ _ _ (by omega), a3.1 3 (by omega)]; exact hr
    obtain ⟨o', S', t1, t2, t3⟩ := ih (s + 1) F o2 S1 (by omega) (by omega) hL
    refine ⟨o', S', ?_, t2, FN_tr f2 t3⟩
    have e3 : (3 : Int32) * jI m = jI ((3 * m : Nat)) := by rw [j_3, jI_mul]; rfl
    have body : ∀ v : Nat, s < v → v ≤ 3 → BX7_layNet_74 (LX7_layNet_56 (jI m) E F) E (jI m) (jI ((3 * m + s : Nat))) (jI ((3 * m + s : Nat))) ((3 : Int32) * jI m) (jI v) o = E o' := by
      intro v hv hv3
      unfold BX7_layNet_74
      rw [e3, jI_add, if_neg (by rw [jI_le (by omega) (by omega) (by omega) (by omega)]; omega), if_pos (by rw [jI_inb (by omega) (by omega)]; omega), jc _ (by omega), hraw, a2, b2_some, if_pos (by rw [jI_inb (by omega) (by omega)]; omega), lT_eq, lT_eq, jI_p1]
      exact t1
    rw [LX7_layNet_56.eq_2, if_pos (by rw [jI_inb (by omega) (by omega)]; omega), jc _ (by omega)]
    rcases hc with ⟨h1, h2⟩ | ⟨⟨k, h1⟩, h2⟩
    · rw [hB.2.1 m 0 h1, if_pos (by rfl)]
      exact body 1 (by omega) (by omega)
    · have hk3 := hO.2.2.2.2.2 _ _ h1
      rw [hB.2.1 m _ h1, if_neg (by rw [j_0, jI_eq (by omega) (by omega) (by omega) (by omega)]; omega)]
      exact body 3 (by omega) (by omega)
theorem LN_next (hO : Occ n u K w) {m c : Nat} (hm : m < n) (hc : (K m = some 0 ∧ c = 1) ∨ (∃ k, K m = some (k + 1)) ∧ c = 3) {o : Ob} {S : List Nat} (h : LN n u K w (m + 1) m c o S) : LN n u K w (m + 1) (m + 1) 0 o S := by
  obtain ⟨hB, hz, hk, hl, hcm, ho, hr⟩ := h
  have key : ∀ p, Dn1 (m + 1) 0 p → w p ≠ none → Dn1 m c p := fun p hp hw => by
    refine ⟨hp.1, ?_⟩
    have h1 := hp.1
    by_cases pm : p.1 = m
    · refine Or.inr ⟨pm, ?_⟩
      rcases hc with ⟨h2, h3⟩ | ⟨h2, h3⟩
      · by_cases p0 : p.2 = 0
        · omega
        · exfalso
          rcases (hO.1 p).mp hw with a | ⟨a1, ⟨k, a2⟩, a3⟩ | a
          · exact p0 a.1
          · rw [pm, h2] at a2; cases a2
          · omega
      · omega
    · have := hp.2; exact Or.inl (by omega)
  refine ⟨hB, hz, hk, fun p t hp hp' => hl p t (key p hp ?_) hp', fun p q hp hp' hq => hcm p q (key p hp (by rw [hp']; exact fun z => by cases z)) hp' hq, ho, hr⟩
  exact (((Fz_facts (Occ_HU hO) (lk_ok (u := u) (k := 8) (by omega))).2 p).mp (by rw [hp']; exact fun z => by cases z)).1
theorem m_lay32 (hO : Occ n u K w) (E : Ob → Option Ob) : ∀ (e m F : Nat) (o : Ob) (S : List Nat), m + e = n → e < F → LN n u K w m m 0 o S → ∃ o' S', LX7_layNet_32 E F (jI m) o = E o' ∧ LN n u K w n n 0 o' S' ∧ FN o o' := by
  have hn60 := hO.2.2.2.1
  intro e
  induction e with
  | zero =>
    intro m F o S hm hF h
    obtain ⟨F, rfl⟩ : ∃ f', F = f' + 1 := ⟨F - 1, by omega⟩
    have e1 : m = n := by omega
    subst e1
    exact ⟨o, S, by rw [LX7_layNet_32.eq_2, h.1.2.2.1, if_pos (by rw [jI_le (by omega) (by omega) (by omega) (by omega)]; omega)], h, FN_rf o⟩
  | succ e ih =>
    intro m F o S hm hF h
    obtain ⟨F, rfl⟩ : ∃ f', F = f' + 1 := ⟨F - 1, by omega⟩
    obtain ⟨k, hk⟩ := some_of (show K m ≠ none from fun z => by have := (hO.2.2.2.2.1 m).mp z; omega)
    obtain ⟨c, hc⟩ : ∃ c, (K m = some 0 ∧ c = 1) ∨ (∃ k, K m = some (k + 1)) ∧ c = 3 := by
      cases k with
      | zero => exact ⟨1, Or.inl ⟨hk, rfl⟩⟩
      | succ k => exact ⟨3, Or.inr ⟨⟨k, hk⟩, rfl⟩⟩
    let o1 := sA o 0 m (oA o 22 m)
    have hrow := h.1.2.1 m k hk
    have f1 : FN o o1 := FN_0 o (by omega) _
    have h1 : LN n u K w (m + 1) m 0 o1 S := by
      obtain ⟨hB, hz, hk', hl, hcm, ho, hr⟩ := h
      refine ⟨Base_FN hB f1 (sA_ne _ _ _ (by omega)), hz, fun j hj => ?_, fun p t hp hp' => ?_, hcm, fun i hi => ?_, ?_⟩
      · show oA (sA o 0 m _) 0 j = _
        rw [sA_rw]
        by_cases cj : j = m
        · rw [if_pos cj, if_pos (by omega), hrow, cj, hk]; rfl
        · rw [if_neg cj, hk' j hj]
          by_cases c2 : j < m
          · rw [if_pos c2, if_pos (by omega)]
          · rw [if_neg c2, if_neg (by omega)]
      · show oA (sA o 0 m _) 1 _ = _
        rw [sA_ne _ _ _ (by omega)]; exact hl p t hp hp'
      · show oA (sA o 0 m _) 2 i = _
        rw [sA_ne _ _ _ (by omega)]; exact ho i hi
      · show oA (sA o 0 m _) 3 0 = _
        rw [sA_ne _ _ _ (by omega)]; exact hr
    obtain ⟨o2, S2, t1, t2, t3⟩ := m_lay56 hO (show m < n by omega) hc (fun o0_30 => lT (jI (m : Int) + (1 : Int32)) fun x1_31 => LX7_layNet_32 E F x1_31 o0_30) c 0 fu o1 S (by omega) (by rw [fu_eq]; rcases hc with z | z <;> omega) h1
    obtain ⟨o3, S3, r1, r2, r3⟩ := ih (m + 1) F o2 S2 (by omega) (by omega) (LN_next hO (by omega) hc t2)
    refine ⟨o3, S3, ?_, r2, FN_tr f1 (FN_tr t3 r3)⟩
    have e3 : (3 : Int32) * jI m = jI ((3 * m + 0 : Nat)) := by rw [j_3, jI_mul]; rfl
    rw [LX7_layNet_32.eq_2, h.1.2.2.1, if_neg (by rw [jI_le (by omega) (by omega) (by omega) (by omega)]; omega), if_pos (by rw [jI_inb (by omega) (by omega)]; omega), if_pos (by rw [jI_inb (by omega) (by omega)]; omega), lT_eq, lT_eq, jc _ (by omega), e3]
    refine t1.trans ?_
    rw [lT_eq, jI_p1]
    exact r1
/-- open wires -/
def LO (n : Nat) (u : Nat → Nat) (K : Kd) (w : Wr) (i : Nat) (o : Ob) (S : List Nat) : Prop := Base n u K w o S ∧ (Fz w S).2 = 0 ∧ (∀ j, j < 180 → oA o 0 j = jI (kI (K j))) ∧ (∀ p t, p.2 < 3 → (Fz w (lk u 8)).1 p = some t → oA o 1 (3 * p.1 + p.2) = jI (mp t)) ∧ (∀ p q, p.2 < 3 → w p = some q → isL2 u q → lt q ∈ S) ∧ (∀ j t, j < i → (Fz w (lk u 8)).1 (j, 3) = some t → oA o 2 j = jI (mp t)) ∧ (∀ j, j < 8 → i ≤ j ∨ (Fz w (lk u 8)).1 (j, 3) = none → oA o 2 j = jI (-1)) ∧ (∀ j q, j < i → u j = 1 → w (j, 3) = some q → isL2 u q → lt q ∈ S) ∧ oA o 3 0 = 0
theorem LO_of (hO : Occ n u K w) {o : Ob} {S : List Nat} (h : LN n u K w n n 0 o S) : LO n u K w 0 o S := by
  obtain ⟨hB, hz, hk, hl, hcm, ho, hr⟩ := h
  have key : ∀ p, p.2 < 3 → w p ≠ none → Dn1 n 0 p := fun p h3 hw => by
    refine ⟨h3, Or.inl ?_⟩
    rcases Occ_end hO hw (fun z => by have := z.1; omega) with a | a
    · exact a.2
    · omega
  refine ⟨hB, hz, fun j hj => ?_, fun p t h3 hp => hl p t (key p h3 ?_) hp, fun p q h3 hp hq => hcm p q (key p h3 (by rw [hp]; exact fun z => by cases z)) hp hq, fun j t hj => by omega, fun j hj _ => ho j hj, fun j q hj => by omega, hr⟩
  · rw [hk j hj]
    by_cases c : j < n
    · rw [if_pos c]
    · rw [if_neg c, (hO.2.2.2.2.1 j).mpr (by omega)]; rfl
  · exact (((Fz_facts (Occ_HU hO) (lk_ok (u := u) (k := 8) (by omega))).2 p).mp (by rw [hp]; exact fun z => by cases z)).1
theorem m_lay108 (hO : Occ n u K w) (E : Ob → Option Ob) : ∀ (e i F : Nat) (o : Ob) (S : List Nat), i + e = 8 → e < F → LO n u K w i o S → ∃ o' S', LX7_layNet_108 E F (jI i) o = E o' ∧ LO n u K w 8 o' S' ∧ FN o o' := by
  intro e
  induction e with
  | zero =>
    intro i F o S hi hF h
    obtain ⟨F, rfl⟩ : ∃ f', F = f' + 1 := ⟨F - 1, by omega⟩
    have e1 : i = 8 := by omega
    subst e1
    exact ⟨o, S, by rw [LX7_layNet_108.eq_2, if_pos (by rfl)], h, FN_rf o⟩
  | succ e ih =>
    intro i F o S hi hF h
    obtain ⟨F, rfl⟩ : ∃ f', F = f' + 1 := ⟨F - 1, by omega⟩
    obtain ⟨hB, hz, hk, hl, hcm, ho, ho2, hco, hr⟩ := h
    have hui := hO.2.2.1 i (by omega)
    rw [LX7_layNet_108.eq_2, if_neg (by rw [j_8, jI_le (by omega) (by omega) (by omega) (by omega)]; omega), if_pos (by rw [jI_inb (by omega) (by omega)]; omega), jc _ (by omega), hB.1.2 i (by omega)]
    by_cases c1 : u i = 1
    · have nl : ¬ isL2 u (i, 3) := fun z => by
        have h3 := z.2.2
        unfold lt at h3
        simp only at h3
        rw [if_pos (by omega)] at h3
        omega
      have hw : w (i, 3) ≠ none := (hO.1 _).mpr (Or.inr (Or.inr ⟨rfl, Or.inl ⟨by simp only; omega, by simp only; omega⟩⟩))
      obtain ⟨t, ht⟩ := some_of (W_occ hO hw nl)
      let o1 := sA o 29 (2 * i) 1
      have d1 : D29 o o1 := ⟨fun k hk => sA_ne _ _ _ hk, fun _ => rfl⟩
      have mk1 : MkR u (oA o1 29) (fun j => j ∈ S) := fun x hx => by
        have hne : ixn x.1 ≠ 2 * i := fun z => by
          have e2 : ixn i = 2 * i := by unfold ixn; rw [if_pos (by omega)]
          have := ixn_inj hx.2.1 (show i < 16 by omega) (by rw [e2]; exact z)
          have h3 := hx.2.2
          unfold lt at h3
          rw [this, if_pos (by omega)] at h3
          omega
        show ((fun j => j ∈ S) (lt x) → oA (sA o 29 _ _) 29 _ = 1) ∧ (¬ (fun j => j ∈ S) (lt x) → oA (sA o 29 _ _) 29 _ = 0)
        rw [sA_rw, if_neg hne]
        exact hB.2.2.2.1 x hx
      obtain ⟨o2, S2, q, a1, a2, a3, a4, a5, a6, a7, a8⟩ := m_chase hO hB.2.2.2.2 nl ht (RawOk_D hB.1 d1) mk1
      have erp : rp (i, 3) = 540 + 2 * i := by rw [ix_rp rfl]; unfold ixn; simp only; rw [if_pos (by omega)]
      have hraw : oA o1 23 (540 + 2 * i) = jI (rp q) := by rw [← erp]; exact (RawOk_D hB.1 d1).1 _ _ a1
      have d2 := D29_tr d1 a3
      let o3 := sA o2 2 i (jI (mp t))
      have f3 : FN o o3 := FN_tr (FN_D d2) (FN_2 o2 (by omega) _)
      have hB2 : Base n u K w o2 S2 := ⟨RawOk_D hB.1 d2, fun j k hj => by rw [d2.1 22 (by omega)]; exact hB.2.1 j k hj, by rw [d2.2]; exact hB.2.2.1, a6, a4⟩
      have h3 : LO n u K w (i + 1) o3 S2 := by
        refine ⟨Base_FN hB2 (FN_2 o2 (by omega) _) (sA_ne _ _ _ (by omega)), by rw [a5]; exact hz, fun j hj => ?_, fun p t' h3 hp => ?_, fun p q' h3 hp hq => a7 _ (hcm p q' h3 hp hq), fun j t' hj hp => ?_, fun j hj hj2 => ?_, fun j q' hj hu hp hq => ?_, ?_⟩
        · show oA (sA o2 2 i _) 0 j = _
          rw [sA_ne _ _ _ (by omega), d2.1 0 (by omega)]; exact hk j hj
        · show oA (sA o2 2 i _) 1 _ = _
          rw [sA_ne _ _ _ (by omega), d2.1 1 (by omega)]; exact hl p t' h3 hp
        · show oA (sA o2 2 i _) 2 j = _
          rw [sA_rw]
          by_cases cj : j = i
          · rw [if_pos cj]; rw [cj, ht] at hp; rw [Option.some.inj hp]
          · rw [if_neg cj, d2.1 2 (by omega)]; exact ho j t' (by omega) hp
        · have cj : j ≠ i := fun z => by
            rcases hj2 with y | y
            · omega
            · rw [z, ht] at y; cases y
          show oA (sA o2 2 i _) 2 j = _
          rw [sA_rw, if_neg cj, d2.1 2 (by omega)]
          exact ho2 j hj (hj2.imp (fun z => by omega) id)
        · by_cases cj : j = i
          · rw [cj, a1] at hp; rw [← Option.some.inj hp] at hq ⊢; exact a8 hq
          · exact a7 _ (hco j q' (by omega) hu hp hq)
        · show oA (sA o2 2 i _) 3 0 = _
          rw [sA_ne _ _ _ (by omega), d2.1 3 (by omega)]; exact hr
      obtain ⟨o', S', t1, t2, t3⟩ := ih (i + 1) F o3 S2 (by omega) (by omega) h3
      refine ⟨o', S', ?_, t2, FN_tr f3 t3⟩
      have e2 : (2 : Int32) * jI i = jI ((2 * i : Nat)) := by rw [j_2, jI_mul]; rfl
      have e5 : (540 : Int32) + jI ((2 * i : Nat) : Int) = jI ((540 + 2 * i : Nat)) := by rw [j_540, jI_add]; rfl
      rw [if_pos (by rw [c1]; rfl), e2, e5, if_pos (by rw [jI_inb (by omega) (by omega)]; omega), lT_eq, nar1, jc _ (by omega), if_pos (by rw [jI_inb (by omega) (by omega)]; omega), jc _ (by omega)]
      show b2 (FX7_otherEnd (oA o1 23 (540 + 2 * i)) o1) _ = _
      rw [hraw, a2, b2_some, if_pos (by rw [jI_inb (by omega) (by omega)]; omega), lT_eq, lT_eq, jI_p1]
      exact t1
    · have hwn : (Fz w (lk u 8)).1 (i, 3) = none := by
        refine W_none hO ?_
        by_cases c2 : u i = 2
        · exact Or.inr (L2_port (by omega) c2).1
        · left
          cases hq : w (i, 3) with
          | none => rfl
          | some q =>
            exfalso
            rcases (hO.1 _).mp (show w (i, 3) ≠ none by rw [hq]; exact fun z => by cases z) with a | a | ⟨-, a | a⟩
            · have := a.1; simp only at this; omega
            · have := a.1; simp only at this; omega
            · have := a.2; simp only at this; omega
            · have := a.1; simp only at this; omega
      obtain ⟨o', S', t1, t2, t3⟩ := ih (i + 1) F o S (by omega) (by omega) ⟨hB, hz, hk, hl, hcm, fun j t hj hp => by
        by_cases cj : j = i
        · rw [cj, hwn] at hp; cases hp
        · exact ho j t (by omega) hp, fun j hj hj2 => by
        by_cases cj : j = i
        · exact ho2 j hj (Or.inr (by rw [cj]; exact hwn))
        · exact ho2 j hj (hj2.imp (fun z => by omega) id), fun j q hj hu hp hq => by
        by_cases cj : j = i
        · rw [cj] at hu; exact absurd hu c1
        · exact hco j q (by omega) hu hp hq, hr⟩
      refine ⟨o', S', ?_, t2, t3⟩
      rw [if_neg (by rw [j_1, jI_eq (by omega) (by omega) (by omega) (by omega)]; omega), lT_eq, jI_p1]
      exact t1
end LNs
