/-! the class's perform -/
/-- wires are pairs of places -/
def Mt (w : Wr) : Prop := ∀ p q, w p = some q → w q = some p ∧ p ≠ q
def WF (K : Kd) (w : Wr) : Prop := Mt w ∧ (∀ n s, s < 3 → (w (n, s) ≠ none ↔ (s = 0 ∧ K n ≠ none) ∨ (s ≠ 0 ∧ ∃ k, K n = some (k + 1)))) ∧ ∀ n s, 3 ≤ s → w (n, s) ≠ none → s = 3 ∧ n < 8
def cnt (K : Kd) : Nat → Nat
  | 0 => 0
  | n + 1 => cnt K n + (if K n = none then 0 else 1)
theorem cnt_same {K K' : Kd} : ∀ {n : Nat}, (∀ m, m < n → (K m = none ↔ K' m = none)) → cnt K n = cnt K' n := by
  intro n
  induction n with
  | zero => intro _; rfl
  | succ n ih =>
    intro h
    unfold cnt
    rw [ih (fun m hm => h m (by omega))]
    have := h n (by omega)
    by_cases c : K n = none
    · rw [if_pos c, if_pos (this.mp c)]
    · rw [if_neg c, if_neg (fun z => c (this.mpr z))]
theorem cnt_le (K : Kd) : ∀ n, cnt K n ≤ n
  | 0 => Nat.le_refl 0
  | n + 1 => by
    have := cnt_le K n
    unfold cnt
    split <;> omega
theorem cnt_add {K : Kd} {x k : Nat} (hx : K x = none) : ∀ {n : Nat}, x < n → cnt (ku K x (some k)) n = cnt K n + 1 := by
  intro n
  induction n with
  | zero => intro h; omega
  | succ n ih =>
    intro h
    unfold cnt
    by_cases c : x = n
    · subst c
      rw [if_pos hx, cnt_same (K := ku K x (some k)) (K' := K) (n := x) (fun m hm => by unfold ku; rw [if_neg (by omega)])]
      unfold ku
      rw [if_neg (by simp)]
    · rw [ih (by omega)]
      have : ku K x (some k) n = K n := by unfold ku; rw [if_neg (by omega)]
      rw [this]
      omega
theorem cnt_del {K : Kd} {x : Nat} (hx : K x ≠ none) : ∀ {n : Nat}, x < n → cnt (ku K x none) n + 1 = cnt K n := by
  intro n
  induction n with
  | zero => intro h; omega
  | succ n ih =>
    intro h
    unfold cnt
    by_cases c : x = n
    · subst c
      rw [if_neg hx, cnt_same (K := ku K x none) (K' := K) (n := x) (fun m hm => by unfold ku; rw [if_neg (by omega)])]
      unfold ku
      rw [if_pos (by simp)]
    · have := ih (by omega)
      have e : ku K x none n = K n := by unfold ku; rw [if_neg (by omega)]
      rw [e]
      omega
theorem lf_ex {K : Kd} : ∀ {n : Nat}, cnt K n < n → ∃ m, m < n ∧ lf K m := by
  intro n
  induction n with
  | zero => intro h; omega
  | succ n ih =>
    intro h
    by_cases c : cnt K n < n
    · obtain ⟨m, h1, h2⟩ := ih c
      exact ⟨m, by omega, h2⟩
    · have h1 := cnt_le K n
      unfold cnt at h
      have hn : K n = none := by
        by_cases z : K n = none
        · exact z
        · rw [if_neg z] at h; omega
      have full : ∀ k, cnt K k = k → ∀ m, m < k → K m ≠ none := by
        intro k
        induction k with
        | zero => intro _ m hm; omega
        | succ k ih2 =>
          intro hk m hm
          have hk2 := cnt_le K k
          unfold cnt at hk
          by_cases z : K k = none
          · rw [if_pos z] at hk; omega
          · rw [if_neg z] at hk
            by_cases z2 : m = k
            · rw [z2]; exact z
            · exact ih2 (by omega) m (by omega)
      exact ⟨n, by omega, hn, full n (by omega)⟩
/-- all that a Graph holds of a net -/
def RGr (N : Nat) (g : Ob) (K : Kd) (w : Wr) (r : Nat) : Prop := ∃ T t : Nat, RK N g K T ∧ RW N g w ∧ oV g 7 = jI r ∧ oV g 5 = jI t ∧ (∀ n, n < t → K n ≠ none) ∧ oV g 6 = jI (cnt K N)
def K00 (K : Kd) (x y : Nat) : Kd := ku (ku K x none) y none
def wA0 (x y : Nat) (w : Wr) : Wr := wv (y, 0) (wv (x, 0) w)
/-- what a meeting of x and y makes of a net -/
def Perf (K : Kd) (w : Wr) (r x y kx ky : Nat) (K' : Kd) (w' : Wr) (r' : Nat) : Prop :=
  (kx = ky ∧ kx = 0 ∧ K' = K00 K x y ∧ w' = wA0 x y w ∧ r' = r) ∨
  (kx = ky ∧ kx ≠ 0 ∧ ∃ s1 s2, s1 = (if kx = 1 then 2 else 1) ∧ s2 = (if kx = 1 then 1 else 2) ∧ K' = K00 K x y ∧ w' = wf (x, 2) (y, s2) (wf (x, 1) (y, s1) (wA0 x y w)) ∧ r' = rf (x, 2) (y, s2) (wf (x, 1) (y, s1) (wA0 x y w)) (rf (x, 1) (y, s1) (wA0 x y w) r)) ∨
  (kx ≠ ky ∧ (kx = 0 ∨ ky = 0) ∧ ∃ z a b, z = (if kx = 0 then y else x) ∧ lf (K00 K x y) a ∧ lf (ku (K00 K x y) a (some 0)) b ∧ K' = ku (ku (K00 K x y) a (some 0)) b (some 0) ∧ w' = wm (z, 2) (b, 0) (wm (z, 1) (a, 0) (wA0 x y w)) ∧ r' = r) ∨
  (kx ≠ ky ∧ kx ≠ 0 ∧ ky ≠ 0 ∧ ∃ a b c d, lf (K00 K x y) a ∧ lf (ku (K00 K x y) a (some kx)) b ∧ lf (ku (ku (K00 K x y) a (some kx)) b (some kx)) c ∧ lf (ku (ku (ku (K00 K x y) a (some kx)) b (some kx)) c (some ky)) d ∧ K' = ku (ku (ku (ku (K00 K x y) a (some kx)) b (some kx)) c (some ky)) d (some ky) ∧
    w' = wl (b, 2) (d, 2) (wl (b, 1) (c, 2) (wl (a, 2) (d, 1) (wl (a, 1) (c, 1) (wm (x, 2) (d, 0) (wm (x, 1) (c, 0) (wm (y, 2) (b, 0) (wm (y, 1) (a, 0) (wA0 x y w)))))))) ∧ r' = r)
/-! wires stay pairs -/
theorem Mt_wl {w : Wr} (h : Mt w) {p q : Port} (hp : w p = none) (hq : w q = none) (hpq : p ≠ q) : Mt (wl p q w) := by
  intro r s hr
  unfold wl at hr ⊢
  by_cases e1 : r = q
  · subst e1
    rw [if_pos rfl] at hr
    cases hr
    rw [if_neg hpq, if_pos rfl]
    exact ⟨rfl, fun z => hpq z.symm⟩
  · rw [if_neg e1] at hr
    by_cases e2 : r = p
    · subst e2
      rw [if_pos rfl] at hr
      cases hr
      rw [if_pos rfl]
      exact ⟨rfl, hpq⟩
    · rw [if_neg e2] at hr
      obtain ⟨h1, h2⟩ := h r s hr
      rw [if_neg (fun z => by rw [z, hq] at h1; cases h1), if_neg (fun z => by rw [z, hp] at h1; cases h1)]
      exact ⟨h1, h2⟩
/-- both ends of one wire go -/
theorem Mt_cut {w : Wr} (h : Mt w) {p q : Port} (hp : w p = some q) : Mt (wv q (wv p w)) := by
  intro r s hr
  unfold wv at hr ⊢
  by_cases e1 : r = q
  · rw [if_pos e1] at hr; cases hr
  · rw [if_neg e1] at hr
    by_cases e2 : r = p
    · rw [if_pos e2] at hr; cases hr
    · rw [if_neg e2] at hr
      obtain ⟨h1, h2⟩ := h r s hr
      rw [if_neg (fun z => e2 (by rw [z, (h p q hp).1] at h1; exact (Option.some.inj h1).symm)), if_neg (fun z => e1 (by rw [z, hp] at h1; exact (Option.some.inj h1).symm))]
      exact ⟨h1, h2⟩
/-- a wire's end moved to a place where none is -/
theorem wm_eq {w : Wr} (h : Mt w) {p q a : Port} (hp : w p = some a) (hq : w q = none) (r : Port) : wm p q w r = if r = q then some a else if r = p then none else if r = a then some q else w r := by
  have ha := (h p a hp)
  have haq : a ≠ q := fun z => by rw [z, hq] at ha; cases ha.1
  have hpq : p ≠ q := fun z => by rw [z, hq] at hp; cases hp
  unfold wm
  rw [hp]
  show wl a q (wv p w) r = _
  unfold wl wv
  by_cases e1 : r = q
  · rw [if_pos e1, if_pos e1]
  · rw [if_neg e1, if_neg e1]
    by_cases e2 : r = a
    · rw [if_pos e2, if_neg (fun z => ha.2 (z.symm.trans e2)), if_pos e2]
    · rw [if_neg e2]
      by_cases e3 : r = p
      · rw [if_pos e3, if_pos e3]
      · rw [if_neg e3, if_neg e3, if_neg e2]
theorem Mt_wm {w : Wr} (h : Mt w) {p q a : Port} (hp : w p = some a) (hq : w q = none) : Mt (wm p q w) := by
  have ha := (h p a hp)
  have haq : a ≠ q := fun z => by rw [z, hq] at ha; cases ha.1
  have hpq : p ≠ q := fun z => by rw [z, hq] at hp; cases hp
  intro r s hr
  rw [wm_eq h hp hq] at hr ⊢
  by_cases e1 : r = q
  · subst e1
    rw [if_pos rfl] at hr
    cases hr
    rw [if_neg haq, if_neg (fun z => ha.2 z.symm), if_pos rfl]
    exact ⟨rfl, fun z => haq z.symm⟩
  · rw [if_neg e1] at hr
    by_cases e2 : r = p
    · rw [if_pos e2] at hr; cases hr
    · rw [if_neg e2] at hr
      by_cases e3 : r = a
      · subst e3
        rw [if_pos rfl] at hr
        cases hr
        rw [if_pos rfl]
        exact ⟨rfl, haq⟩
      · rw [if_neg e3] at hr
        obtain ⟨h1, h2⟩ := h r s hr
        rw [if_neg (fun z => by rw [z, hq] at h1; cases h1), if_neg (fun z => e3 (by rw [z, hp] at h1; exact (Option.some.inj h1).symm)), if_neg (fun z => e2 (by rw [z, ha.1] at h1; exact (Option.some.inj h1).symm))]
        exact ⟨h1, h2⟩
theorem wf_eq {w : Wr} (h : Mt w) {p q a b : Port} (hp : w p = some a) (hq : w q = some b) (hpq : p ≠ q) (r : Port) : wf p q w r = if r = p ∨ r = q then none else if w r = some p then some b else if w r = some q then some a else w r := by
  have ha := h p a hp
  have hb := h q b hq
  unfold wf
  by_cases e : w p = some q
  · have eaq : a = q := Option.some.inj (hp.symm.trans e)
    subst eaq
    rw [if_pos e]
    unfold wv
    by_cases e1 : r = a
    · rw [if_pos e1, if_pos (Or.inr e1)]
    · rw [if_neg e1]
      by_cases e2 : r = p
      · rw [if_pos e2, if_pos (Or.inl e2)]
      · rw [if_neg e2, if_neg (fun z => z.elim e2 e1), if_neg (fun z => e1 (Option.some.inj ((h r p z).1.symm.trans hp))), if_neg (fun z => e2 (Option.some.inj ((h r a z).1.symm.trans ha.1)))]
  · rw [if_neg e, hp, hq]
    have eaq : a ≠ q := fun z => e (hp.trans (by rw [z]))
    have ebp : b ≠ p := fun z => e (by rw [z] at hb; exact hb.1)
    have hab : a ≠ b := fun z => hpq (Option.some.inj (ha.1.symm.trans (by rw [z]; exact hb.1)))
    show wv q (wv p (wl a b w)) r = _
    unfold wv wl
    by_cases e1 : r = q
    · rw [if_pos e1, if_pos (Or.inr e1)]
    · rw [if_neg e1]
      by_cases e2 : r = p
      · rw [if_pos e2, if_pos (Or.inl e2)]
      · rw [if_neg e2, if_neg (show ¬ (r = p ∨ r = q) from fun z => z.elim e2 e1)]
        by_cases e3 : r = b
        · subst e3
          rw [if_pos rfl, if_neg (fun z => hpq (Option.some.inj (z.symm.trans hb.1))), if_pos hb.1]
        · rw [if_neg e3]
          by_cases e4 : r = a
          · subst e4
            rw [if_pos rfl, if_pos ha.1]
          · rw [if_neg e4, if_neg (fun z => e4 (Option.some.inj ((h r p z).1.symm.trans hp))), if_neg (fun z => e3 (Option.some.inj ((h r q z).1.symm.trans hq)))]
theorem Mt_wf {w : Wr} (h : Mt w) {p q a b : Port} (hp : w p = some a) (hq : w q = some b) (hpq : p ≠ q) : Mt (wf p q w) := by
  have ha := h p a hp
  have hb := h q b hq
  unfold wf
  by_cases e : w p = some q
  · rw [if_pos e]; exact Mt_cut h e
  · rw [if_neg e, hp, hq]
    have eaq : a ≠ q := fun z => e (hp.trans (by rw [z]))
    have ebp : b ≠ p := fun z => e (by rw [z] at hb; exact hb.1)
    have hab : a ≠ b := fun z => hpq (Option.some.inj (ha.1.symm.trans (by rw [z]; exact hb.1)))
    have key := fun r => wf_eq h hp hq hpq r
    have e0 : wf p q w = wv q (wv p (wl a b w)) := by
      unfold wf
      rw [if_neg e, hp, hq]
    intro r s hr
    have hr' : wf p q w r = some s := by rw [e0]; exact hr
    rw [key r] at hr'
    show wv q (wv p (wl a b w)) s = some r ∧ r ≠ s
    rw [← e0, key s]
    by_cases c1 : r = p ∨ r = q
    · rw [if_pos c1] at hr'; cases hr'
    · rw [if_neg c1] at hr'
      by_cases c2 : w r = some p
      · rw [if_pos c2] at hr'
        cases hr'
        have er : r = a := Option.some.inj ((h r p c2).1.symm.trans hp)
        subst er
        rw [if_neg (fun z => z.elim ebp (fun z => hb.2 z.symm)), if_neg (fun z => hpq (Option.some.inj (z.symm.trans hb.1))), if_pos hb.1]
        exact ⟨rfl, hab⟩
      · rw [if_neg c2] at hr'
        by_cases c3 : w r = some q
        · rw [if_pos c3] at hr'
          cases hr'
          have er : r = b := Option.some.inj ((h r q c3).1.symm.trans hq)
          subst er
          rw [if_neg (fun z => z.elim (fun z => ha.2 z.symm) eaq), if_pos ha.1]
          exact ⟨rfl, fun z => hab z.symm⟩
        · rw [if_neg c3] at hr'
          obtain ⟨h1, h2⟩ := h r s hr'
          rw [if_neg (fun z => z.elim (fun z => c2 (by rw [hr', z])) (fun z => c3 (by rw [hr', z]))), if_neg (fun z => c1 (Or.inl (Option.some.inj (h1.symm.trans z)))), if_neg (fun z => c1 (Or.inr (Option.some.inj (h1.symm.trans z))))]
          exact ⟨h1, h2⟩
