/-! nets that are alike but for numbers read alike -/
def itm (f : Nat → Nat) (i : It) : It := match i with
  | .inl c => .inl c
  | .inr p => .inr (Fp f p)
def RSim (f : Nat → Nat) (N : Nt) (s s' : RS) : Prop := (∀ p, N.2.1 p ≠ none → s'.1 (Fp f p) = s.1 p) ∧ s.2.1 = s'.2.1 ∧ s.2.2 = s'.2.2
section RIso
variable {N M : Nt} {f : Nat → Nat}
theorem RSim_put {s s' : RS} (h : RSim f N s s') (c : Nat) : RSim f N (rput c s) (rput c s') := ⟨h.1, h.2.1, by show s.2.2 ++ [c] = s'.2.2 ++ [c]; rw [h.2.2]⟩
theorem RSim_nm {s s' : RS} (hG : Good N) (hh : Half f N M) (h : RSim f N s s') {p q : Port} (hp : N.2.1 p ≠ none) (hq : N.2.1 q ≠ none) : RSim f N (rnm p q s) (rnm (Fp f p) (Fp f q) s') := by
  have inj := (WI_start hG hh).2.1
  unfold rnm
  rw [h.1 p hp]
  cases hs : s.1 p with
  | some k => exact ⟨h.1, h.2.1, by show s.2.2 ++ [97 + k] = s'.2.2 ++ [97 + k]; rw [h.2.2]⟩
  | none =>
    refine ⟨fun r hr => ?_, by show s.2.1 + 1 = s'.2.1 + 1; rw [h.2.1], by show s.2.2 ++ [97 + s.2.1] = s'.2.2 ++ [97 + s'.2.1]; rw [h.2.2, h.2.1]⟩
    simp only
    by_cases c : r = p ∨ r = q
    · rw [if_pos c, if_pos (c.imp (fun z => by rw [z]) (fun z => by rw [z])), h.2.1]
    · rw [if_neg c, if_neg (fun z => c (z.imp (fun z => inj _ _ hr hp z) (fun z => inj _ _ hr hq z)))]
      exact h.1 r hr
theorem rd1_iso {s s' : RS} (hG : Good N) (hh : Half f N M) (h : RSim f N s s') (i : It) (hi : ∀ p, i = .inr p → N.2.1 p ≠ none) : (rd1 M.1 M.2.1 (itm f i) s').1 = ((rd1 N.1 N.2.1 i s).1).map (itm f) ∧ RSim f N (rd1 N.1 N.2.1 i s).2 (rd1 M.1 M.2.1 (itm f i) s').2 ∧ ∀ p, .inr p ∈ (rd1 N.1 N.2.1 i s).1 → N.2.1 p ≠ none := by
  cases i with
  | inl c => exact ⟨rfl, RSim_put h c, fun p hp => by cases hp⟩
  | inr p =>
    have hp := hi p rfl
    obtain ⟨q, hq⟩ := some_of hp
    have hq' := (hG.1.1 _ _ hq).1
    have hqn : N.2.1 q ≠ none := by rw [hq']; exact fun z => by cases z
    have hm := hh.2.2.1 p q hq
    unfold rd1 itm
    simp only [hq, hm]
    obtain ⟨n, z⟩ := q
    by_cases c : z = 0
    · subst c
      have e0 : Fp f (n, 0) = (f n, 0) := Fp_lt f (by omega)
      rw [e0]
      simp only [if_true]
      have ha := alive_of hG.1 (n := n) (s := 0) (by omega) hqn
      obtain ⟨k, hk⟩ := some_of ha
      have hk' := hh.1 n ha
      rw [hk', hk]
      simp only
      by_cases ck : k = 0
      · rw [if_pos ck, if_pos ck]
        exact ⟨rfl, RSim_put h 42, fun p hp => by cases hp⟩
      · rw [if_neg ck, if_neg ck]
        refine ⟨?_, RSim_put h _, fun p hp => ?_⟩
        · simp only [List.map_cons, List.map_nil]
          rw [Fp_lt f (show 1 < 3 by omega), Fp_lt f (show 2 < 3 by omega)]
        · obtain ⟨k', rfl⟩ : ∃ k', k = k' + 1 := ⟨k - 1, by omega⟩
          have oc := WF_to hG.1 n
          simp only [List.mem_cons, List.not_mem_nil, or_false, reduceCtorEq, Sum.inr.injEq] at hp
          rcases hp with c | c
          · rw [c]; exact oc.2.1.mpr ⟨k', hk⟩
          · rw [c]; exact oc.2.2.mpr ⟨k', hk⟩
    · have e2 : (Fp f (n, z)).2 = z := by
        unfold Fp
        by_cases c3 : (n, z).2 < 3
        · rw [if_pos c3]
        · rw [if_neg c3]
      rw [if_neg (show ¬ ((n, z) : Port).2 = 0 from c), if_neg (show ¬ (Fp f (n, z)).2 = 0 by rw [e2]; exact c)]
      exact ⟨rfl, RSim_nm hG hh h hp hqn, fun p hp => by cases hp⟩
theorem rdL_iso (hG : Good N) (hh : Half f N M) : ∀ (F : Nat) (st : List It) (s s' t : RS), (∀ p, .inr p ∈ st → N.2.1 p ≠ none) → RSim f N s s' → rdL N.1 N.2.1 F st s = some t → ∃ t', rdL M.1 M.2.1 F (st.map (itm f)) s' = some t' ∧ RSim f N t t' := by
  intro F
  induction F with
  | zero =>
    intro st s s' t hv h e
    cases st with
    | nil => cases e; exact ⟨s', rfl, h⟩
    | cons i st => cases e
  | succ F ih =>
    intro st s s' t hv h e
    cases st with
    | nil => cases e; exact ⟨s', rfl, h⟩
    | cons i st =>
      obtain ⟨a1, a2, a3⟩ := rd1_iso hG hh h i (fun p hp => hv p (by rw [hp]; exact List.mem_cons_self ..))
      have e' : rdL N.1 N.2.1 F ((rd1 N.1 N.2.1 i s).1 ++ st) (rd1 N.1 N.2.1 i s).2 = some t := e
      obtain ⟨t', b1, b2⟩ := ih _ _ _ t (fun p hp => by
        rcases List.mem_append.mp hp with c | c
        · exact a3 p c
        · exact hv p (List.mem_cons_of_mem _ c)) a2 e'
      refine ⟨t', ?_, b2⟩
      rw [List.map_append, ← a1] at b1
      exact b1
theorem rdW_iso (hG : Good N) (hh : Half f N M) (ho : ∀ i, M.2.1 (i, 3) = none ↔ N.2.1 (i, 3) = none) : ∀ (d i : Nat) (s s' t : RS), RSim f N s s' → rdW N.1 N.2.1 600 d i s = some t → ∃ t', rdW M.1 M.2.1 600 d i s' = some t' ∧ RSim f N t t' := by
  intro d
  induction d with
  | zero => intro i s s' t h e; cases e; exact ⟨s', rfl, h⟩
  | succ d ih =>
    intro i s s' t h e
    unfold rdW at e ⊢
    by_cases c : N.2.1 (i, 3) = none
    · rw [if_pos c] at e
      rw [if_pos ((ho i).mpr c)]
      exact ih (i + 1) s s' t h e
    · rw [if_neg c] at e
      rw [if_neg (fun z => c ((ho i).mp z))]
      cases h1 : rdL N.1 N.2.1 600 [.inr (i, 3), .inl 59] s with
      | none => rw [h1] at e; cases e
      | some s1 =>
        rw [h1] at e
        obtain ⟨s2, b1, b2⟩ := rdL_iso hG hh 600 _ s s' s1 (fun p hp => by
          simp only [List.mem_cons, List.not_mem_nil, or_false, reduceCtorEq, Sum.inr.injEq] at hp
          rw [hp]; exact c) h h1
        have e3 : ([.inr (i, 3), .inl 59] : List It).map (itm f) = [.inr (i, 3), .inl 59] := rfl
        rw [e3] at b1
        rw [b1]
        exact ih (i + 1) s1 s2 t b2 e
end RIso
theorem rdg_iso {N M : Nt} (hG : Good N) (hb : ∀ m, 180 ≤ m → N.1 m = none) (hi : Iso N M) : rdg N.1 N.2.1 = rdg M.1 M.2.1 := by
  obtain ⟨f, g, h1, h2, -, -⟩ := hi
  have ho : ∀ i, M.2.1 (i, 3) = none ↔ N.2.1 (i, 3) = none := fun i => by
    refine ⟨fun z => ?_, fun z => ?_⟩
    · cases hn : N.2.1 (i, 3) with
      | none => rfl
      | some q =>
        have := h1.2.2.1 _ _ hn
        rw [show Fp f (i, 3) = (i, 3) from rfl, z] at this
        cases this
    · cases hn : M.2.1 (i, 3) with
      | none => rfl
      | some q =>
        have := h2.2.2.1 _ _ hn
        rw [show Fp g (i, 3) = (i, 3) from rfl, z] at this
        cases this
  obtain ⟨s, hs, hg, -⟩ := rdg_ok hG.1 hb
  obtain ⟨t', b1, b2⟩ := rdW_iso hG h1 ho 8 0 rs0 rs0 s ⟨fun _ _ => rfl, rfl, rfl⟩ hs
  rw [hg]
  unfold rdg
  rw [b1]
  exact b2.2.2
