/-! nets alike but for the numbers of their nodes -/
def Fp (f : Nat → Nat) (p : Port) : Port := if p.2 < 3 then (f p.1, p.2) else p
def Half (f : Nat → Nat) (N M : Nt) : Prop := (∀ n, N.1 n ≠ none → M.1 (f n) = N.1 n) ∧ (∀ n n', N.1 n ≠ none → N.1 n' ≠ none → f n = f n' → n = n') ∧ (∀ p q, N.2.1 p = some q → M.2.1 (Fp f p) = some (Fp f q)) ∧ N.2.2 = M.2.2
def WI (g : Port → Port) (S T : Sy) : Prop := (∀ p q, S.1 p = some q → T.1 (g p) = some (g q)) ∧ (∀ p p', S.1 p ≠ none → S.1 p' ≠ none → g p = g p' → p = p') ∧ S.2 = T.2
def up (g : Port → Port) (q q' : Port) (r : Port) : Port := if r = q then q' else g r
theorem up_o {g : Port → Port} {q q' r : Port} (h : r ≠ q) : up g q q' r = g r := by
  unfold up
  rw [if_neg h]
section WII
variable {g : Port → Port} {S T : Sy}
theorem WI_cut (h : WI g S T) {p q p' q' : Port} (ep : g p = p') (eq : g q = q') (hp : S.1 p ≠ none) (hq : S.1 q ≠ none) : WI g (ap (0, p, q) S) (ap (0, p', q') T) := by
  subst ep; subst eq
  obtain ⟨h1, h2, h3⟩ := h
  refine ⟨fun r s hr => ?_, fun r r' hr hr' e => ?_, h3⟩
  · have hr' : aC p q S.1 r = some s := hr
    show aC (g p) (g q) T.1 (g r) = some (g s)
    unfold aC at hr' ⊢
    by_cases c : r = p ∨ r = q
    · rw [if_pos c] at hr'; cases hr'
    · rw [if_neg c] at hr'
      have ro : S.1 r ≠ none := by rw [hr']; exact fun z => by cases z
      rw [if_neg (fun z => c (z.imp (fun z => h2 _ _ ro hp z) (fun z => h2 _ _ ro hq z)))]
      exact h1 _ _ hr'
  · have a1 : S.1 r ≠ none := fun z => hr (by show aC p q S.1 r = none; unfold aC; split <;> first | rfl | exact z)
    have a2 : S.1 r' ≠ none := fun z => hr' (by show aC p q S.1 r' = none; unfold aC; split <;> first | rfl | exact z)
    exact h2 _ _ a1 a2 e
theorem WI_fu (h : WI g S T) (hM : Mt S.1) {p q p' q' : Port} (ep : g p = p') (eq : g q = q') (hp : S.1 p ≠ none) (hq : S.1 q ≠ none) : WI g (ap (3, p, q) S) (ap (3, p', q') T) := by
  subst ep; subst eq
  obtain ⟨h1, h2, h3⟩ := h
  have occ : ∀ r, aF p q S.1 r ≠ none → S.1 r ≠ none ∧ r ≠ p ∧ r ≠ q := by
    intro r hr
    unfold aF at hr
    grind
  obtain ⟨a, ha⟩ := some_of hp
  obtain ⟨b, hb⟩ := some_of hq
  have oc' : ∀ r t, S.1 r = some t → S.1 t ≠ none := fun r t z => by rw [(hM _ _ z).1]; exact fun z => by cases z
  refine ⟨fun r s hr => ?_, fun r r' hr hr' e => h2 _ _ (occ r hr).1 (occ r' hr').1 e, ?_⟩
  · have hr' : aF p q S.1 r = some s := hr
    obtain ⟨o1, o2, o3⟩ := occ r (by rw [hr']; exact fun z => by cases z)
    obtain ⟨t, ht⟩ := some_of o1
    have gt := h1 _ _ ht
    have ga := h1 _ _ ha
    have gb := h1 _ _ hb
    have ot := oc' _ _ ht
    have n1 : g r ≠ g p := fun z => o2 (h2 _ _ o1 hp z)
    have n2 : g r ≠ g q := fun z => o3 (h2 _ _ o1 hq z)
    have m1 : g t = g p ↔ t = p := ⟨fun z => h2 _ _ ot hp z, fun z => by rw [z]⟩
    have m2 : g t = g q ↔ t = q := ⟨fun z => h2 _ _ ot hq z, fun z => by rw [z]⟩
    show aF (g p) (g q) T.1 (g r) = some (g s)
    unfold aF at hr' ⊢
    rw [if_neg (fun z => z.elim o2 o3), ht] at hr'
    rw [if_neg (fun z => z.elim n1 n2), gt]
    simp only [m1, m2] at hr' ⊢
    by_cases c1 : t = p
    · rw [if_pos c1, hb] at hr'
      rw [if_pos c1]
      cases hr'
      exact gb
    · rw [if_neg c1] at hr'
      rw [if_neg c1]
      by_cases c2 : t = q
      · rw [if_pos c2, ha] at hr'
        rw [if_pos c2]
        cases hr'
        exact ga
      · rw [if_neg c2] at hr'
        rw [if_neg c2]
        cases hr'
        rfl
  · show rf p q S.1 S.2 = rf (g p) (g q) T.1 T.2
    unfold rf
    rw [h3]
    have : S.1 p = some q ↔ T.1 (g p) = some (g q) := by
      refine ⟨fun z => h1 _ _ z, fun z => ?_⟩
      rw [h1 _ _ ha] at z
      rw [ha, h2 _ _ (oc' _ _ ha) hq (Option.some.inj z)]
    simp only [this]
theorem WI_sw (h : WI g S T) (hM : Mt S.1) {p q p' q' : Port} (ep : g p = p') (hp : S.1 p ≠ none) (hq : S.1 q = none) (hq' : T.1 q' = none) : WI (up g q q') (ap (1, p, q) S) (ap (1, p', q') T) := by
  subst ep
  obtain ⟨h1, h2, h3⟩ := h
  have oT : ∀ r, S.1 r ≠ none → T.1 (g r) ≠ none := fun r hr => by
    obtain ⟨t, ht⟩ := some_of hr
    rw [h1 _ _ ht]; exact fun z => by cases z
  have oc' : ∀ r t, S.1 r = some t → S.1 t ≠ none := fun r t z => by rw [(hM _ _ z).1]; exact fun z => by cases z
  -- a wired place goes where its picture goes
  have key : ∀ r, S.1 r ≠ none → up g q q' (sw1 p q r) = sw1 (g p) q' (g r) := by
    intro r hr
    have e2 : g r ≠ q' := fun z => oT r hr (by rw [z]; exact hq')
    unfold up sw1
    by_cases c1 : r = p
    · subst c1
      rw [if_pos rfl, if_pos rfl, if_pos rfl]
    · have e1 : g r ≠ g p := fun z => c1 (h2 _ _ hr hp z)
      have c2 : r ≠ q := fun z => hr (by rw [z]; exact hq)
      rw [if_neg c1, if_neg c2, if_neg c2, if_neg e1, if_neg e2]
  have occ : ∀ r, aS p q S.1 r ≠ none → S.1 (sw1 p q r) ≠ none := fun r hr z => hr (by unfold aS; rw [z])
  refine ⟨fun r s hr => ?_, fun r r' hr hr' e => ?_, h3⟩
  · have hr' : aS p q S.1 r = some s := hr
    have o1 := occ r (by rw [hr']; exact fun z => by cases z)
    obtain ⟨t, ht⟩ := some_of o1
    have es : s = sw1 p q t := by
      unfold aS at hr'
      rw [ht] at hr'
      exact (Option.some.inj hr').symm
    show aS (g p) q' T.1 (up g q q' r) = some (up g q q' s)
    have k1 := key _ o1
    rw [sw1_inv] at k1
    rw [es, key t (oc' _ _ ht), k1]
    unfold aS
    rw [sw1_inv, h1 _ _ ht]
  · have o1 := occ r hr
    have o2 := occ r' hr'
    have k1 := key _ o1
    have k2 := key _ o2
    rw [sw1_inv] at k1 k2
    rw [k1, k2] at e
    have e' := congrArg (sw1 (g p) q') e
    rw [sw1_inv, sw1_inv] at e'
    have e'' := congrArg (sw1 p q) (h2 _ _ o1 o2 e')
    rw [sw1_inv, sw1_inv] at e''
    exact e''
theorem WI_lk (h : WI g S T) (hM : Mt S.1) {p q p' q' : Port} (hp : S.1 p = none) (hq : S.1 q = none) (hp' : T.1 p' = none) (hq' : T.1 q' = none) (hpq : p ≠ q) (hpq' : p' ≠ q') : WI (up (up g p p') q q') (ap (2, p, q) S) (ap (2, p', q') T) := by
  obtain ⟨h1, h2, h3⟩ := h
  have oT : ∀ r, S.1 r ≠ none → T.1 (g r) ≠ none := fun r hr => by
    obtain ⟨t, ht⟩ := some_of hr
    rw [h1 _ _ ht]; exact fun z => by cases z
  have oc' : ∀ r t, S.1 r = some t → S.1 t ≠ none := fun r t z => by rw [(hM _ _ z).1]; exact fun z => by cases z
  have sm : ∀ r, S.1 r ≠ none → up (up g p p') q q' r = g r ∧ g r ≠ p' ∧ g r ≠ q' := by
    intro r hr
    rw [up_o (fun z => hr (by rw [z]; exact hq)), up_o (fun z => hr (by rw [z]; exact hp))]
    exact ⟨rfl, fun z => oT r hr (by rw [z]; exact hp'), fun z => oT r hr (by rw [z]; exact hq')⟩
  have eq' : up (up g p p') q q' q = q' := by unfold up; rw [if_pos rfl]
  have ep' : up (up g p p') q q' p = p' := by
    rw [up_o hpq]; unfold up; rw [if_pos rfl]
  have cs : ∀ r, wl p q S.1 r ≠ none → r = q ∨ r = p ∨ S.1 r ≠ none := by
    intro r hr
    unfold wl at hr
    grind
  refine ⟨fun r s hr => ?_, fun r r' hr hr' e => ?_, h3⟩
  · have hr' : wl p q S.1 r = some s := hr
    show wl p' q' T.1 (up (up g p p') q q' r) = some (up (up g p p') q q' s)
    unfold wl at hr' ⊢
    by_cases c1 : r = q
    · rw [if_pos c1] at hr'
      cases hr'
      rw [c1, eq', if_pos rfl, ep']
    · rw [if_neg c1] at hr'
      by_cases c2 : r = p
      · rw [if_pos c2] at hr'
        cases hr'
        rw [c2, ep', if_neg hpq', if_pos rfl, eq']
      · rw [if_neg c2] at hr'
        obtain ⟨s1, s2, s3⟩ := sm r (by rw [hr']; exact fun z => by cases z)
        obtain ⟨t1, -, -⟩ := sm s (oc' _ _ hr')
        rw [s1, t1, if_neg s3, if_neg s2]
        exact h1 _ _ hr'
  · rcases cs r hr with c1 | c1 | c1 <;> rcases cs r' hr' with c2 | c2 | c2
    · rw [c1, c2]
    · rw [c1, c2, eq', ep'] at e; exact absurd e.symm hpq'
    · rw [c1, eq', (sm r' c2).1] at e; exact absurd e.symm (sm r' c2).2.2
    · rw [c1, c2, eq', ep'] at e; exact absurd e hpq'
    · rw [c1, c2]
    · rw [c1, ep', (sm r' c2).1] at e; exact absurd e.symm (sm r' c2).2.1
    · rw [c2, eq', (sm r c1).1] at e; exact absurd e (sm r c1).2.2
    · rw [c2, ep', (sm r c1).1] at e; exact absurd e (sm r c1).2.1
    · rw [(sm r c1).1, (sm r' c2).1] at e; exact h2 _ _ c1 c2 e
end WII
theorem Fp_lt (f : Nat → Nat) {n s : Nat} (h : s < 3) : Fp f (n, s) = (f n, s) := by
  unfold Fp
  rw [if_pos h]
theorem alive_of {K : Kd} {w : Wr} (h : WF K w) {n s : Nat} (hs : s < 3) (hw : w (n, s) ≠ none) : K n ≠ none := by
  rcases (h.2.1 n s hs).mp hw with ⟨-, z⟩ | ⟨-, k, z⟩
  · exact z
  · rw [z]; exact fun z => by cases z
theorem WI_start {f : Nat → Nat} {N M : Nt} (hG : Good N) (h : Half f N M) : WI (Fp f) N.2 M.2 := by
  refine ⟨h.2.2.1, fun p p' hp hp' e => ?_, h.2.2.2⟩
  obtain ⟨n, s⟩ := p
  obtain ⟨n', s'⟩ := p'
  unfold Fp at e
  by_cases c1 : s < 3 <;> by_cases c2 : s' < 3
  · rw [if_pos c1, if_pos c2] at e
    have e1 := congrArg Prod.fst e
    have e2 := congrArg Prod.snd e
    simp only at e1 e2
    have := h.2.1 n n' (alive_of hG.1 c1 hp) (alive_of hG.1 c2 hp') e1
    rw [this, e2]
  · rw [if_pos c1, if_neg c2] at e
    have e2 := congrArg Prod.snd e
    simp only at e2
    omega
  · rw [if_neg c1, if_pos c2] at e
    have e2 := congrArg Prod.snd e
    simp only at e2
    omega
  · rw [if_neg c1, if_neg c2] at e
    exact e
/-- the map of numbers behind a step -/
def nf (f : Nat → Nat) (fr gr : Nat → Nat) (n : Nat) : Nat := if n = fr 0 then gr 0 else if n = fr 1 then gr 1 else if n = fr 2 then gr 2 else if n = fr 3 then gr 3 else f n
theorem nf_i {f fr gr : Nat → Nat} (hd : ∀ i j, i < 4 → j < 4 → i ≠ j → fr i ≠ fr j) {i : Nat} (hi : i < 4) : nf f fr gr (fr i) = gr i := by
  have d01 := hd 0 1 (by omega) (by omega) (by omega)
  have d02 := hd 0 2 (by omega) (by omega) (by omega)
  have d03 := hd 0 3 (by omega) (by omega) (by omega)
  have d12 := hd 1 2 (by omega) (by omega) (by omega)
  have d13 := hd 1 3 (by omega) (by omega) (by omega)
  have d23 := hd 2 3 (by omega) (by omega) (by omega)
  unfold nf
  rcases (show i = 0 ∨ i = 1 ∨ i = 2 ∨ i = 3 by omega) with rfl | rfl | rfl | rfl
  · rw [if_pos rfl]
  · rw [if_neg d01.symm, if_pos rfl]
  · rw [if_neg d02.symm, if_neg d12.symm, if_pos rfl]
  · rw [if_neg d03.symm, if_neg d13.symm, if_neg d23.symm, if_pos rfl]
theorem nf_o {f fr gr : Nat → Nat} {n : Nat} (h : ∀ i, i < 4 → n ≠ fr i) : nf f fr gr n = f n := by
  unfold nf
  rw [if_neg (h 0 (by omega)), if_neg (h 1 (by omega)), if_neg (h 2 (by omega)), if_neg (h 3 (by omega))]
theorem Half_Redex {f : Nat → Nat} {N M : Nt} (h : Half f N M) {x y kx ky : Nat} (hr : Redex N x y kx ky) : Redex M (f x) (f y) kx ky := by
  obtain ⟨h1, h2, h3⟩ := hr
  refine ⟨?_, ?_, ?_⟩
  · rw [h.1 x (by rw [h1]; exact fun z => by cases z)]; exact h1
  · rw [h.1 y (by rw [h2]; exact fun z => by cases z)]; exact h2
  · have := h.2.2.1 _ _ h3
    rw [Fp_lt f (by omega), Fp_lt f (by omega)] at this
    exact this
