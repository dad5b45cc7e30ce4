/-! lists of acts; when an act may be done; what is wired behind it -/
def aps : List Ac → Sy → Sy
  | [], S => S
  | c :: l, S => aps l (ap c S)
def OkA (c : Ac) (w : Wr) : Prop := match c.1 with
  | 0 => w c.2.1 = some c.2.2
  | 1 => w c.2.1 ≠ none ∧ w c.2.2 = none
  | 2 => w c.2.1 = none ∧ w c.2.2 = none ∧ c.2.1 ≠ c.2.2
  | _ => w c.2.1 ≠ none ∧ w c.2.2 ≠ none ∧ c.2.1 ≠ c.2.2
def oc (c : Ac) (o : Port → Prop) (r : Port) : Prop := match c.1 with
  | 0 => o r ∧ r ≠ c.2.1 ∧ r ≠ c.2.2
  | 1 => r = c.2.2 ∨ (o r ∧ r ≠ c.2.1)
  | 2 => o r ∨ r = c.2.1 ∨ r = c.2.2
  | _ => o r ∧ r ≠ c.2.1 ∧ r ≠ c.2.2
def OkL : List Ac → Sy → Prop
  | [], _ => True
  | c :: l, S => OkA c S.1 ∧ OkL l (ap c S)
theorem aC_wv (p q : Port) (w : Wr) : aC p q w = wv q (wv p w) := by
  funext r
  unfold aC wv
  grind
theorem aS_wm {w : Wr} (h : Mt w) {p q : Port} (hp : w p ≠ none) (hq : w q = none) : aS p q w = wm p q w := by
  obtain ⟨a, ha⟩ := some_of hp
  funext r
  rw [wm_eq h ha hq]
  have h1 := h _ _ ha
  unfold aS sw1
  cases hr : w r with
  | none => grind
  | some s =>
    have := h _ _ hr
    grind
theorem aF_wf {w : Wr} (h : Mt w) {p q : Port} (hp : w p ≠ none) (hq : w q ≠ none) (hpq : p ≠ q) : aF p q w = wf p q w := by
  obtain ⟨a, ha⟩ := some_of hp
  obtain ⟨b, hb⟩ := some_of hq
  funext r
  rw [wf_eq h ha hb hpq]
  unfold aF
  grind
theorem ap_Mt {c : Ac} {S : Sy} (h : Mt S.1) (ho : OkA c S.1) : Mt (ap c S).1 ∧ ∀ r, ((ap c S).1 r ≠ none ↔ oc c (fun r => S.1 r ≠ none) r) := by
  obtain ⟨t, p, q⟩ := c
  obtain ⟨w, k⟩ := S
  simp only at h ho
  match t with
  | 0 =>
    have ho' : w p = some q := ho
    have e : (ap (0, p, q) (w, k)).1 = wv q (wv p w) := aC_wv p q w
    rw [e]
    refine ⟨Mt_cut h ho', fun r => ?_⟩
    show _ ↔ (w r ≠ none ∧ r ≠ p ∧ r ≠ q)
    unfold wv
    grind
  | 1 =>
    obtain ⟨h1, h2⟩ : w p ≠ none ∧ w q = none := ho
    have e : (ap (1, p, q) (w, k)).1 = wm p q w := aS_wm h h1 h2
    rw [e]
    obtain ⟨a, ha⟩ := some_of h1
    refine ⟨Mt_wm h ha h2, fun r => ?_⟩
    show _ ↔ (r = q ∨ (w r ≠ none ∧ r ≠ p))
    rw [occ_wm h ha h2]
    grind
  | 2 =>
    obtain ⟨h1, h2, h3⟩ : w p = none ∧ w q = none ∧ p ≠ q := ho
    have e : (ap (2, p, q) (w, k)).1 = wl p q w := rfl
    rw [e]
    refine ⟨Mt_wl h h1 h2 h3, fun r => ?_⟩
    show _ ↔ (w r ≠ none ∨ r = p ∨ r = q)
    rw [occ_wl]
    grind
  | n + 3 =>
    obtain ⟨h1, h2, h3⟩ : w p ≠ none ∧ w q ≠ none ∧ p ≠ q := ho
    have e : (ap (n + 3, p, q) (w, k)).1 = wf p q w := aF_wf h h1 h2 h3
    rw [e]
    obtain ⟨a, ha⟩ := some_of h1
    obtain ⟨b, hb⟩ := some_of h2
    refine ⟨Mt_wf h ha hb h3, fun r => ?_⟩
    show _ ↔ (w r ≠ none ∧ r ≠ p ∧ r ≠ q)
    rw [occ_wf h ha hb h3]
    grind
def ocs : List Ac → (Port → Prop) → Port → Prop
  | [], o => o
  | c :: l, o => ocs l (oc c o)
theorem aps_Mt : ∀ (l : List Ac) (S : Sy), Mt S.1 → OkL l S → Mt (aps l S).1 ∧ ∀ r, ((aps l S).1 r ≠ none ↔ ocs l (fun r => S.1 r ≠ none) r) := by
  intro l
  induction l with
  | nil => intro S h _; exact ⟨h, fun r => Iff.rfl⟩
  | cons c l ih =>
    intro S h ho
    obtain ⟨h1, h2⟩ := ap_Mt h ho.1
    obtain ⟨h3, h4⟩ := ih (ap c S) h1 ho.2
    refine ⟨h3, fun r => (h4 r).trans ?_⟩
    have : (fun r => (ap c S).1 r ≠ none) = oc c (fun r => S.1 r ≠ none) := by
      funext r
      exact propext (h2 r)
    rw [this]
    exact Iff.rfl
/-- by what is wired alone -/
def OkO (c : Ac) (o : Port → Prop) : Prop := match c.1 with
  | 0 => False
  | 1 => o c.2.1 ∧ ¬ o c.2.2
  | 2 => ¬ o c.2.1 ∧ ¬ o c.2.2 ∧ c.2.1 ≠ c.2.2
  | _ => o c.2.1 ∧ o c.2.2 ∧ c.2.1 ≠ c.2.2
def OkLO : List Ac → (Port → Prop) → Prop
  | [], _ => True
  | c :: l, o => OkO c o ∧ OkLO l (oc c o)
theorem OkL_of : ∀ (l : List Ac) (S : Sy), Mt S.1 → OkLO l (fun r => S.1 r ≠ none) → OkL l S := by
  intro l
  induction l with
  | nil => intro S _ _; exact trivial
  | cons c l ih =>
    intro S h ho
    have hA : OkA c S.1 := by
      obtain ⟨t, p, q⟩ := c
      have h1 := ho.1
      match t with
      | 0 => exact absurd h1 id
      | 1 =>
        obtain ⟨a, b⟩ : S.1 p ≠ none ∧ ¬ S.1 q ≠ none := h1
        exact ⟨a, Classical.not_not.mp b⟩
      | 2 =>
        obtain ⟨a, b, d⟩ : ¬ S.1 p ≠ none ∧ ¬ S.1 q ≠ none ∧ p ≠ q := h1
        exact ⟨Classical.not_not.mp a, Classical.not_not.mp b, d⟩
      | n + 3 => exact h1
    obtain ⟨h1, h2⟩ := ap_Mt h hA
    refine ⟨hA, ih _ h1 ?_⟩
    have : (fun r => (ap c S).1 r ≠ none) = oc c (fun r => S.1 r ≠ none) := by
      funext r
      exact propext (h2 r)
    rw [this]
    exact ho.2
/-! the rules -/
abbrev Nt : Type := Kd × Sy
def rlT (kx ky x y : Nat) (fr : Nat → Nat) : List Ac :=
  if kx = ky then (if kx = 0 then [] else [(3, (x, 1), (y, if kx = 1 then 2 else 1)), (3, (x, 2), (y, if kx = 1 then 1 else 2))])
  else if kx = 0 ∨ ky = 0 then [(1, ((if kx = 0 then y else x), 1), (fr 0, 0)), (1, ((if kx = 0 then y else x), 2), (fr 1, 0))]
  else [(1, (y, 1), (fr 0, 0)), (1, (y, 2), (fr 1, 0)), (1, (x, 1), (fr 2, 0)), (1, (x, 2), (fr 3, 0)), (2, (fr 0, 1), (fr 2, 1)), (2, (fr 0, 2), (fr 3, 1)), (2, (fr 1, 1), (fr 2, 2)), (2, (fr 1, 2), (fr 3, 2))]
def rl (kx ky x y : Nat) (fr : Nat → Nat) : List Ac := (0, (x, 0), (y, 0)) :: rlT kx ky x y fr
def kus : List (Nat × Option Nat) → Kd → Kd
  | [], K => K
  | a :: l, K => kus l (ku K a.1 a.2)
def kl (kx ky x y : Nat) (fr : Nat → Nat) : List (Nat × Option Nat) :=
  if kx = ky then [(x, none), (y, none)] else if kx = 0 ∨ ky = 0 then [(x, none), (y, none), (fr 0, some 0), (fr 1, some 0)] else [(x, none), (y, none), (fr 0, some kx), (fr 1, some kx), (fr 2, some ky), (fr 3, some ky)]
def stp (kx ky x y : Nat) (fr : Nat → Nat) (N : Nt) : Nt := (kus (kl kx ky x y fr) N.1, aps (rl kx ky x y fr) N.2)
def FrOk (N : Nt) (x y : Nat) (fr : Nat → Nat) : Prop := (∀ i, i < 4 → K00 N.1 x y (fr i) = none) ∧ ∀ i j, i < 4 → j < 4 → i ≠ j → fr i ≠ fr j
def Redex (N : Nt) (x y kx ky : Nat) : Prop := N.1 x = some kx ∧ N.1 y = some ky ∧ N.2.1 (x, 0) = some (y, 0)
def Good (N : Nt) : Prop := WF N.1 N.2.1 ∧ ∃ B, ∀ n, B ≤ n → N.1 n = none
section RU
variable {N : Nt} {x y kx ky : Nat} {fr : Nat → Nat}
theorem Redex_ne (h : Good N) (hr : Redex N x y kx ky) : x ≠ y := fun z => (h.1.1 _ _ hr.2.2).2 (by rw [z])
theorem rl_ok (h : Good N) (hr : Redex N x y kx ky) (hf : FrOk N x y fr) : OkL (rl kx ky x y fr) N.2 := by
  have hxy := Redex_ne h hr
  obtain ⟨hF, -⟩ := h
  obtain ⟨hx, hy, hq⟩ := hr
  have hc : OkA (0, (x, 0), (y, 0)) N.2.1 := hq
  refine ⟨hc, ?_⟩
  have e0 : (ap (0, (x, 0), (y, 0)) N.2).1 = wA0 x y N.2.1 := aC_wv _ _ _
  have M4 : Mt (wA0 x y N.2.1) := Mt_cut hF.1 hq
  refine OkL_of _ _ (by rw [e0]; exact M4) ?_
  rw [e0]
  have f0 : ∀ i, i < 4 → ¬ (wA0 x y N.2.1 (fr i, 0) ≠ none) := fun i hi z => z (wA0_none hF (hf.1 i hi) (by omega) (Or.inr rfl))
  have f1 : ∀ i s, i < 4 → s = 1 ∨ s = 2 → fr i ≠ x → fr i ≠ y → ¬ (wA0 x y N.2.1 (fr i, s) ≠ none) := fun i s hi hs h1 h2 z => z (wA0_none hF (hf.1 i hi) (by omega) (Or.inl ⟨h1, h2⟩))
  have ox : ∀ s, s = 1 ∨ s = 2 → kx ≠ 0 → wA0 x y N.2.1 (x, s) ≠ none := fun s hs hk => aux_some hF hx hk hs
  have oy : ∀ s, s = 1 ∨ s = 2 → ky ≠ 0 → wA0 x y N.2.1 (y, s) ≠ none := fun s hs hk => aux_some hF hy hk hs
  generalize wA0 x y N.2.1 = v at f0 f1 ox oy
  have d01 := hf.2 0 1 (by omega) (by omega) (by omega)
  have d02 := hf.2 0 2 (by omega) (by omega) (by omega)
  have d03 := hf.2 0 3 (by omega) (by omega) (by omega)
  have d12 := hf.2 1 2 (by omega) (by omega) (by omega)
  have d13 := hf.2 1 3 (by omega) (by omega) (by omega)
  have d23 := hf.2 2 3 (by omega) (by omega) (by omega)
  have a0 := f0 0 (by omega)
  have a1 := f0 1 (by omega)
  have a2 := f0 2 (by omega)
  have a3 := f0 3 (by omega)
  have ox1 := ox 1 (Or.inl rfl)
  have ox2 := ox 2 (Or.inr rfl)
  have oy1 := oy 1 (Or.inl rfl)
  have oy2 := oy 2 (Or.inr rfl)
  unfold rlT
  by_cases c1 : kx = ky
  · rw [if_pos c1]
    by_cases c0 : kx = 0
    · rw [if_pos c0]; exact trivial
    · rw [if_neg c0]
      by_cases c2 : kx = 1
      · rw [if_pos c2, if_pos c2]
        simp only [OkLO, OkO, oc, ne_eq, Prod.mk.injEq]
        grind
      · rw [if_neg c2, if_neg c2]
        simp only [OkLO, OkO, oc, ne_eq, Prod.mk.injEq]
        grind
  · rw [if_neg c1]
    by_cases c2 : kx = 0 ∨ ky = 0
    · rw [if_pos c2]
      by_cases c0 : kx = 0
      · rw [if_pos c0]
        simp only [OkLO, OkO, oc, ne_eq, Prod.mk.injEq]
        grind
      · rw [if_neg c0]
        simp only [OkLO, OkO, oc, ne_eq, Prod.mk.injEq]
        grind
    · rw [if_neg c2]
      have kx0 : kx ≠ 0 := by omega
      have ky0 : ky ≠ 0 := by omega
      have x1 := ox1 kx0
      have x2 := ox2 kx0
      have y1 := oy1 ky0
      have y2 := oy2 ky0
      have g : ∀ i s, i < 4 → s = 1 ∨ s = 2 → v (fr i, s) ≠ none → fr i = x ∨ fr i = y := fun i s hi hs hv => by
        by_cases c3 : fr i = x
        · exact Or.inl c3
        · by_cases c4 : fr i = y
          · exact Or.inr c4
          · exact absurd hv (f1 i s hi hs c3 c4)
      have g01 := g 0 1 (by omega) (Or.inl rfl)
      have g02 := g 0 2 (by omega) (Or.inr rfl)
      have g11 := g 1 1 (by omega) (Or.inl rfl)
      have g12 := g 1 2 (by omega) (Or.inr rfl)
      have g21 := g 2 1 (by omega) (Or.inl rfl)
      have g22 := g 2 2 (by omega) (Or.inr rfl)
      have g31 := g 3 1 (by omega) (Or.inl rfl)
      have g32 := g 3 2 (by omega) (Or.inr rfl)
      clear g f0 f1 ox oy ox1 ox2 oy1 oy2 hf hF M4 e0 hc hq hx hy
      generalize fr 0 = a at *
      generalize fr 1 = b at *
      generalize fr 2 = c at *
      generalize fr 3 = d at *
      simp only [OkLO, OkO, oc, ne_eq, Prod.mk.injEq]
      refine ⟨?_, ?_, ?_, ?_, ?_, ?_, ?_, ?_, trivial⟩ <;> simp <;> grind
end RU
