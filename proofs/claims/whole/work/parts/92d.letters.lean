/-! letters that stand twice: the class fuses them one by one, the reference goes along them -/
def fa (i : Nat) : Ac := (3, (i, 3), (8 + i, 3))
theorem fa_ne (i : Nat) : ((i, 3) : Port) ≠ (8 + i, 3) := fun z => by have := congrArg Prod.fst z; simp only at this; omega
theorem fa_Mt {i : Nat} {S : Sy} (h : Mt S.1) (h1 : S.1 (i, 3) ≠ none) (h2 : S.1 (8 + i, 3) ≠ none) : Mt (ap (fa i) S).1 ∧ ∀ r, ((ap (fa i) S).1 r ≠ none ↔ S.1 r ≠ none ∧ r ≠ (i, 3) ∧ r ≠ (8 + i, 3)) := ap_Mt (c := fa i) h (show OkA (fa i) S.1 from ⟨h1, h2, fa_ne i⟩)
def FOk (l : List Nat) (S : Sy) : Prop := Mt S.1 ∧ l.Nodup ∧ ∀ i, i ∈ l → i < 8 ∧ S.1 (i, 3) ≠ none ∧ S.1 (8 + i, 3) ≠ none
theorem FOk_step {i : Nat} {l : List Nat} {S : Sy} (h : FOk (i :: l) S) : FOk l (ap (fa i) S) := by
  obtain ⟨h1, h2, h3⟩ := h
  obtain ⟨a0, a1, a2⟩ := h3 i (List.mem_cons_self ..)
  obtain ⟨b1, b2⟩ := fa_Mt h1 a1 a2
  have nd := List.nodup_cons.mp h2
  refine ⟨b1, nd.2, fun j hj => ?_⟩
  obtain ⟨c0, c1, c2⟩ := h3 j (List.mem_cons_of_mem i hj)
  have hij : j ≠ i := fun z => nd.1 (z ▸ hj)
  have pe : ∀ a b : Nat, ((a, 3) : Port) ≠ (b, 3) ↔ a ≠ b := fun a b => by simp
  refine ⟨c0, (b2 _).mpr ⟨c1, (pe _ _).mpr hij, (pe _ _).mpr (by omega)⟩, (b2 _).mpr ⟨c2, (pe _ _).mpr (by omega), (pe _ _).mpr (by omega)⟩⟩
theorem aps_fa : ∀ (l : List Nat) (S : Sy), FOk l S → Mt (aps (l.map fa) S).1 ∧ ∀ r, ((aps (l.map fa) S).1 r ≠ none ↔ S.1 r ≠ none ∧ ∀ i, i ∈ l → r ≠ (i, 3) ∧ r ≠ (8 + i, 3)) := by
  intro l
  induction l with
  | nil => intro S h; exact ⟨h.1, fun r => ⟨fun z => ⟨z, fun i hi => by cases hi⟩, fun z => z.1⟩⟩
  | cons i l ih =>
    intro S h
    obtain ⟨a0, a1, a2⟩ := h.2.2 i (List.mem_cons_self ..)
    obtain ⟨b1, b2⟩ := fa_Mt h.1 a1 a2
    obtain ⟨c1, c2⟩ := ih _ (FOk_step h)
    refine ⟨c1, fun r => ?_⟩
    show (aps (l.map fa) (ap (fa i) S)).1 r ≠ none ↔ _
    rw [c2 r, b2 r]
    constructor
    · rintro ⟨⟨z1, z2⟩, z3⟩
      refine ⟨z1, fun j hj => ?_⟩
      rcases List.mem_cons.mp hj with c | c
      · rw [c]; exact z2
      · exact z3 j c
    · rintro ⟨z1, z2⟩
      exact ⟨⟨z1, z2 i (List.mem_cons_self ..)⟩, fun j hj => z2 j (List.mem_cons_of_mem i hj)⟩
theorem aps_perm {l l' : List Nat} (hp : l.Perm l') : ∀ S, FOk l S → aps (l.map fa) S = aps (l'.map fa) S := by
  induction hp with
  | nil => intro S _; rfl
  | cons x _ ih => intro S h; exact ih _ (FOk_step h)
  | swap x y l =>
    intro S h
    show aps (l.map fa) (ap (fa x) (ap (fa y) S)) = aps (l.map fa) (ap (fa y) (ap (fa x) S))
    have hx := (h.2.2 x (List.mem_cons_of_mem y (List.mem_cons_self ..))).1
    have hy := (h.2.2 y (List.mem_cons_self ..)).1
    have hxy : y ≠ x := fun z => (List.nodup_cons.mp h.2.1).1 (by rw [z]; exact List.mem_cons_self ..)
    have pe : ∀ a b : Nat, a ≠ b → ((a, 3) : Port) ≠ (b, 3) := fun a b hab => by simp [hab]
    rw [ap_commF (c := fa x) (c' := fa y) ⟨pe _ _ hxy.symm, pe _ _ (by omega), pe _ _ (by omega), pe _ _ (by omega)⟩ (fa_ne x) (fa_ne y) h.1]
  | trans hp1 _ ih1 ih2 =>
    intro S h
    rw [ih1 S h]
    exact ih2 S ⟨h.1, hp1.nodup h.2.1, fun i hi => h.2.2 i (hp1.mem_iff.mpr hi)⟩
theorem aps_app (l l' : List Nat) (S : Sy) : aps ((l ++ l').map fa) S = aps (l'.map fa) (aps (l.map fa) S) := by
  induction l generalizing S with
  | nil => rfl
  | cons i l ih => exact ih _
def lt (e : Port) : Nat := if e.1 < 8 then e.1 else e.1 - 8
def mate (e : Port) : Port := (if e.1 < 8 then 8 + e.1 else e.1 - 8, 3)
def isL2 (u : Nat → Nat) (e : Port) : Prop := e.2 = 3 ∧ e.1 < 16 ∧ u (lt e) = 2
section LT
variable {u : Nat → Nat} {w : Wr}
theorem L2_or {e : Port} (he : isL2 u e) : lt e < 8 ∧ ((e = (lt e, 3) ∧ mate e = (8 + lt e, 3)) ∨ (e = (8 + lt e, 3) ∧ mate e = (lt e, 3))) := by
  obtain ⟨a, s⟩ := e
  obtain ⟨h1, h2, h3⟩ := he
  simp only at h1 h2
  subst h1
  unfold lt mate
  simp only
  by_cases c : a < 8
  · rw [if_pos c]; simp only [if_pos c]; exact ⟨c, Or.inl ⟨by trivial, by trivial⟩⟩
  · rw [if_neg c]; simp only [if_neg c]; exact ⟨by omega, Or.inr ⟨by rw [show 8 + (a - 8) = a by omega], by trivial⟩⟩
theorem L2_mate {e : Port} (he : isL2 u e) : isL2 u (mate e) ∧ lt (mate e) = lt e ∧ mate (mate e) = e ∧ mate e ≠ e := by
  obtain ⟨a, s⟩ := e
  obtain ⟨h1, h2, h3⟩ := he
  simp only at h1 h2
  subst h1
  unfold isL2
  unfold lt at h3 ⊢
  unfold mate
  simp only at h3 ⊢
  by_cases c : a < 8
  · simp only [if_pos c] at h3 ⊢
    rw [if_neg (show ¬ 8 + a < 8 by omega), if_neg (show ¬ 8 + a < 8 by omega), show 8 + a - 8 = a by omega]
    exact ⟨⟨by trivial, by omega, h3⟩, by trivial, by trivial, fun z => by have := congrArg Prod.fst z; simp only at this; omega⟩
  · simp only [if_neg c] at h3 ⊢
    rw [if_pos (show a - 8 < 8 by omega), if_pos (show a - 8 < 8 by omega), show 8 + (a - 8) = a by omega]
    exact ⟨⟨by trivial, by omega, h3⟩, by trivial, by trivial, fun z => by have := congrArg Prod.fst z; simp only at this; omega⟩
theorem L2_same {e x : Port} (he : isL2 u e) (hx : isL2 u x) (h : lt x = lt e) : x = e ∨ x = mate e := by
  have h1 := L2_or he
  have h2 := L2_or hx
  rw [h] at h2
  rcases h1.2 with a | a <;> rcases h2.2 with b | b
  · exact Or.inl (b.1.trans a.1.symm)
  · exact Or.inr (b.1.trans a.2.symm)
  · exact Or.inr (b.1.trans a.2.symm)
  · exact Or.inl (b.1.trans a.1.symm)
theorem L2_port {i : Nat} (hi : i < 8) (h : u i = 2) : isL2 u (i, 3) ∧ isL2 u (8 + i, 3) ∧ lt (i, 3) = i ∧ lt (8 + i, 3) = i ∧ mate (i, 3) = (8 + i, 3) ∧ mate (8 + i, 3) = (i, 3) := by
  have e1 : lt (i, 3) = i := by unfold lt; simp only; rw [if_pos hi]
  have e2 : lt (8 + i, 3) = i := by unfold lt; simp only; rw [if_neg (by omega)]; omega
  have e3 : mate (i, 3) = (8 + i, 3) := by unfold mate; simp only; rw [if_pos hi]
  have e4 : mate (8 + i, 3) = (i, 3) := by unfold mate; simp only; rw [if_neg (by omega)]; simp
  exact ⟨⟨rfl, by simp only; omega, by rw [e1]; exact h⟩, ⟨rfl, by simp only; omega, by rw [e2]; exact h⟩, e1, e2, e3, e4⟩
/-- what fusing a letter does -/
theorem fuse_at {v : Wr} {R : Nat} (hM : Mt v) {e : Port} (he : isL2 u e) (x : Port) : (ap (fa (lt e)) (v, R)).1 x = (if x = e ∨ x = mate e then none else match v x with | none => none | some s => if s = e then v (mate e) else if s = mate e then v e else some s) ∧ (ap (fa (lt e)) (v, R)).2 = if v e = some (mate e) then R + 1 else R := by
  have hne := (L2_mate he).2.2.2
  rcases (L2_or he).2 with ⟨a, b⟩ | ⟨a, b⟩
  · refine ⟨?_, ?_⟩
    · show aF (lt e, 3) (8 + lt e, 3) v x = _
      rw [← a, ← b]
      rfl
    · show rf (lt e, 3) (8 + lt e, 3) v R = _
      rw [← a, ← b]
      rfl
  · refine ⟨?_, ?_⟩
    · show aF (lt e, 3) (8 + lt e, 3) v x = _
      rw [← a, ← b]
      unfold aF
      by_cases c : x = e ∨ x = mate e
      · rw [if_pos c, if_pos c.symm]
      · rw [if_neg c, if_neg (fun z => c z.symm)]
        cases v x with
        | none => rfl
        | some s =>
          simp only
          by_cases c1 : s = e
          · rw [if_pos c1, if_neg (fun z => hne (z.symm.trans c1)), if_pos c1]
          · rw [if_neg c1, if_neg c1]
    · show rf (lt e, 3) (8 + lt e, 3) v R = _
      rw [← a, ← b]
      unfold rf
      by_cases c : v e = some (mate e)
      · rw [if_pos c, if_pos (hM _ _ c).1]
      · rw [if_neg c, if_neg (fun z => c (hM _ _ z).1)]
/-- a way along letters -/
def Ch (u : Nat → Nat) (w : Wr) : List Port → Port → Port → Prop
  | [], q, t => q = t
  | e :: l, q, t => q = e ∧ isL2 u e ∧ ∃ q', w (mate e) = some q' ∧ Ch u w l q' t
theorem Ch_app : ∀ (l l' : List Port) (q e q' t : Port), Ch u w l q e → isL2 u e → w (mate e) = some q' → Ch u w l' q' t → Ch u w (l ++ e :: l') q t := by
  intro l
  induction l with
  | nil => intro l' q e q' t h1 h2 h3 h4; exact ⟨h1, h2, q', h3, h4⟩
  | cons a l ih =>
    intro l' q e q' t h1 h2 h3 h4
    obtain ⟨b1, b2, q1, b3, b4⟩ := h1
    exact ⟨b1, b2, q1, b3, ih l' q1 e q' t b4 h2 h3 h4⟩
/-- the class's way: letters by their order -/
def lk (u : Nat → Nat) : Nat → List Nat
  | 0 => []
  | k + 1 => if u k = 2 then lk u k ++ [k] else lk u k
def Fz (w : Wr) (l : List Nat) : Sy := aps (l.map fa) (w, 0)
theorem Fz_snoc (w : Wr) (l : List Nat) (i : Nat) : Fz w (l ++ [i]) = ap (fa i) (Fz w l) := by
  unfold Fz
  rw [aps_app]
  rfl
/-- letters fused: which, and each once -/
def LOk (u : Nat → Nat) (l : List Nat) : Prop := l.Nodup ∧ ∀ i, i ∈ l → i < 8 ∧ u i = 2
def HU (u : Nat → Nat) (w : Wr) : Prop := Mt w ∧ ∀ i, i < 8 → u i = 2 → w (i, 3) ≠ none ∧ w (8 + i, 3) ≠ none
theorem Fz_facts (hU : HU u w) {l : List Nat} (hl : LOk u l) : Mt (Fz w l).1 ∧ ∀ r, ((Fz w l).1 r ≠ none ↔ w r ≠ none ∧ ∀ i, i ∈ l → r ≠ (i, 3) ∧ r ≠ (8 + i, 3)) := aps_fa l (w, 0) ⟨hU.1, hl.1, fun i hi => ⟨(hl.2 i hi).1, hU.2 i (hl.2 i hi).1 (hl.2 i hi).2⟩⟩
theorem lk_mem : ∀ (k i : Nat), i ∈ lk u k ↔ i < k ∧ u i = 2 := by
  intro k
  induction k with
  | zero => intro i; constructor
            · intro h; cases h
            · intro h; omega
  | succ k ih =>
    intro i
    unfold lk
    by_cases c : u k = 2
    · rw [if_pos c, List.mem_append, ih i]
      simp only [List.mem_cons, List.not_mem_nil, or_false]
      constructor
      · rintro (h | h)
        · exact ⟨by omega, h.2⟩
        · rw [h]; exact ⟨by omega, c⟩
      · rintro ⟨h1, h2⟩
        by_cases z : i = k
        · exact Or.inr z
        · exact Or.inl ⟨by omega, h2⟩
    · rw [if_neg c, ih i]
      constructor
      · rintro h; exact ⟨by omega, h.2⟩
      · rintro ⟨h1, h2⟩
        refine ⟨?_, h2⟩
        rcases Nat.lt_or_ge i k with z | z
        · exact z
        · rw [show i = k by omega] at h2; exact absurd h2 c
theorem lk_nodup : ∀ k, (lk u k).Nodup := by
  intro k
  induction k with
  | zero => exact List.nodup_nil
  | succ k ih =>
    unfold lk
    by_cases c : u k = 2
    · rw [if_pos c]
      refine List.nodup_append.mpr ⟨ih, List.nodup_cons.mpr ⟨List.not_mem_nil, List.nodup_nil⟩, fun a ha b hb z => ?_⟩
      simp only [List.mem_cons, List.not_mem_nil, or_false] at hb
      have := ((lk_mem k a).mp ha).1
      omega
    · rw [if_neg c]; exact ih
theorem lk_ok {k : Nat} (hk : k ≤ 8) : LOk u (lk u k) := ⟨lk_nodup k, fun i hi => ⟨by have := ((lk_mem k i).mp hi).1; omega, ((lk_mem k i).mp hi).2⟩⟩
/-- each wire of the class's net is a way along letters -/
theorem lk_Ch (hU : HU u w) : ∀ (k : Nat), k ≤ 8 → ∀ r t, (Fz w (lk u k)).1 r = some t → ∃ q l, w r = some q ∧ Ch u w l q t ∧ l.length < 2 ^ k := by
  intro k
  induction k with
  | zero => intro _ r t h; exact ⟨t, [], h, rfl, by simp⟩
  | succ k ih =>
    intro hk r t h
    unfold lk at h
    by_cases c : u k = 2
    · rw [if_pos c, Fz_snoc] at h
      obtain ⟨p1, p2, p3, p4, p5, p6⟩ := L2_port (u := u) (i := k) (by omega) c
      have hM := (Fz_facts hU (lk_ok (u := u) (k := k) (by omega))).1
      have e := (fuse_at (R := (Fz w (lk u k)).2) hM p1 r).1
      rw [p3, p5] at e
      rw [show ((Fz w (lk u k)).1, (Fz w (lk u k)).2) = Fz w (lk u k) from rfl, h] at e
      by_cases cr : r = (k, 3) ∨ r = (8 + k, 3)
      · rw [if_pos cr] at e; cases e
      · rw [if_neg cr] at e
        have ih' := ih (by omega)
        have pw : 2 ^ (k + 1) = 2 ^ k + 2 ^ k := by rw [Nat.pow_succ]; omega
        cases hs : (Fz w (lk u k)).1 r with
        | none => rw [hs] at e; cases e
        | some s =>
          rw [hs] at e
          simp only at e
          obtain ⟨q1, l1, a1, a2, a3⟩ := ih' r s hs
          by_cases c1 : s = (k, 3)
          · rw [if_pos c1] at e
            obtain ⟨q2, l2, b1, b2, b3⟩ := ih' _ t e.symm
            refine ⟨q1, l1 ++ s :: l2, a1, Ch_app l1 l2 q1 s q2 t a2 (by rw [c1]; exact p1) (by rw [c1, p5]; exact b1) b2, ?_⟩
            rw [List.length_append, List.length_cons]; omega
          · rw [if_neg c1] at e
            by_cases c2 : s = (8 + k, 3)
            · rw [if_pos c2] at e
              obtain ⟨q2, l2, b1, b2, b3⟩ := ih' _ t e.symm
              refine ⟨q1, l1 ++ s :: l2, a1, Ch_app l1 l2 q1 s q2 t a2 (by rw [c2]; exact p2) (by rw [c2, p6]; exact b1) b2, ?_⟩
              rw [List.length_append, List.length_cons]; omega
            · rw [if_neg c2] at e
              cases e
              exact ⟨q1, l1, a1, a2, by omega⟩
    · rw [if_neg c] at h
      obtain ⟨q, l, h1, h2, h3⟩ := ih (by omega) r t h
      have pw : 2 ^ (k + 1) = 2 ^ k + 2 ^ k := by rw [Nat.pow_succ]; omega
      exact ⟨q, l, h1, h2, by omega⟩
/-- letters not gone along yet stand as they were -/
def I0 (u : Nat → Nat) (w : Wr) (S : List Nat) : Prop := LOk u S ∧ ∀ x, isL2 u x → lt x ∉ S → (Fz w S).1 x = w x
theorem Fz_gone (hU : HU u w) {S : List Nat} (hS : LOk u S) {x : Port} (hx : isL2 u x) (h : (Fz w S).1 x ≠ none) : lt x ∉ S := fun hm => by
  have := ((Fz_facts hU hS).2 x).mp h
  have h2 := this.2 _ hm
  rcases (L2_or hx).2 with a | a
  · exact h2.1 a.1
  · exact h2.2 a.1
theorem LOk_snoc {S : List Nat} (hS : LOk u S) {x : Port} (hx : isL2 u x) (h : lt x ∉ S) : LOk u (S ++ [lt x]) := by
  refine ⟨List.nodup_append.mpr ⟨hS.1, List.nodup_cons.mpr ⟨List.not_mem_nil, List.nodup_nil⟩, fun a ha b hb z => ?_⟩, fun i hi => ?_⟩
  · simp only [List.mem_cons, List.not_mem_nil, or_false] at hb
    exact h (by rw [← hb, ← z]; exact ha)
  · rcases List.mem_append.mp hi with c | c
    · exact hS.2 i c
    · simp only [List.mem_cons, List.not_mem_nil, or_false] at c
      rw [c]
      exact ⟨(L2_or hx).1, hx.2.2⟩
/-- one letter more, reached from r -/
theorem one_more (hU : HU u w) {S : List Nat} (hS : LOk u S) {r e q' : Port} (hre : (Fz w S).1 r = some e) (he : isL2 u e) (hr : r ≠ mate e) (hI : ∀ x, isL2 u x → lt x ∉ S → x ≠ e → x ≠ r → (Fz w S).1 x = w x) (hq : w (mate e) = some q') : lt e ∉ S ∧ LOk u (S ++ [lt e]) ∧ (Fz w (S ++ [lt e])).1 r = some q' ∧ (Fz w (S ++ [lt e])).2 = (Fz w S).2 ∧ ∀ x, isL2 u x → lt x ∉ S ++ [lt e] → x ≠ q' → x ≠ r → (Fz w (S ++ [lt e])).1 x = w x := by
  obtain ⟨hM, hO⟩ := Fz_facts hU hS
  have her := hM _ _ hre
  have hn := Fz_gone hU hS he (by rw [her.1]; exact fun z => by cases z)
  obtain ⟨m1, m2, m3, m4⟩ := L2_mate he
  have hme : (Fz w S).1 (mate e) = some q' := by rw [hI (mate e) m1 (by rw [m2]; exact hn) m4 hr.symm]; exact hq
  have at' := fun x => fuse_at (R := (Fz w S).2) hM he x
  rw [show ((Fz w S).1, (Fz w S).2) = Fz w S from rfl] at at'
  refine ⟨hn, LOk_snoc hS he hn, ?_, ?_, fun x hx hxs hxq hxr => ?_⟩
  · rw [Fz_snoc, (at' r).1, if_neg (fun z => z.elim (fun z => her.2 z) (fun z => hr z)), hre]
    simp only [if_true]
    exact hme
  · rw [Fz_snoc, (at' r).2, if_neg (fun z => hr ?_)]
    rw [her.1] at z
    exact Option.some.inj z
  · have hxS : lt x ∉ S := fun z => hxs (List.mem_append_left _ z)
    have hxe : lt x ≠ lt e := fun z => hxs (List.mem_append_right _ (by rw [z]; exact List.mem_cons_self ..))
    have hx1 : x ≠ e := fun z => hxe (by rw [z])
    have hx2 : x ≠ mate e := fun z => hxe (by rw [z, m2])
    rw [Fz_snoc, (at' x).1, if_neg (fun z => z.elim hx1 hx2), ← hI x hx hxS hx1 hxr]
    cases hs : (Fz w S).1 x with
    | none => rfl
    | some s =>
      simp only
      have hsx := (hM _ _ hs).1
      rw [if_neg (fun z => hxr (by rw [z, her.1] at hsx; exact (Option.some.inj hsx).symm)), if_neg (fun z => hxq (by rw [z, hme] at hsx; exact (Option.some.inj hsx).symm))]
/-- from a place that is no such letter, to another -/
theorem way_new (hU : HU u w) {r t : Port} (hr : ¬ isL2 u r) (ht : ¬ isL2 u t) : ∀ (l : List Port) (q : Port) (S : List Nat), LOk u S → (Fz w S).1 r = some q → (∀ x, isL2 u x → lt x ∉ S → x ≠ q → x ≠ r → (Fz w S).1 x = w x) → Ch u w l q t → ∃ S', I0 u w S' ∧ (Fz w S').2 = (Fz w S).2 ∧ ∀ i, i ∈ S' ↔ i ∈ S ∨ ∃ e, e ∈ l ∧ lt e = i := by
  intro l
  induction l with
  | nil =>
    intro q S hS hrq hI hC
    have e : q = t := hC
    subst e
    refine ⟨S, ⟨hS, fun x hx hxs => hI x hx hxs (fun z => ht (z ▸ hx)) (fun z => hr (z ▸ hx))⟩, rfl, fun i => ?_⟩
    constructor
    · intro z; exact Or.inl z
    · rintro (z | ⟨e, z, -⟩)
      · exact z
      · cases z
  | cons e l ih =>
    intro q S hS hrq hI hC
    obtain ⟨rfl, he, q', hq', hC'⟩ := hC
    have hrm : r ≠ mate q := fun z => hr (by rw [z]; exact (L2_mate he).1)
    obtain ⟨a1, a2, a3, a4, a5⟩ := one_more hU hS hrq he hrm hI hq'
    obtain ⟨S', b1, b2, b3⟩ := ih q' _ a2 a3 a5 hC'
    refine ⟨S', b1, b2.trans a4, fun i => ?_⟩
    rw [b3 i, List.mem_append]
    simp only [List.mem_cons, List.not_mem_nil, or_false]
    constructor
    · rintro ((z | z) | ⟨e, z1, z2⟩)
      · exact Or.inl z
      · exact Or.inr ⟨q, Or.inl rfl, z.symm⟩
      · exact Or.inr ⟨e, Or.inr z1, z2⟩
    · rintro (z | ⟨e, z1 | z1, z2⟩)
      · exact Or.inl (Or.inl z)
      · exact Or.inl (Or.inr (by rw [← z2, z1]))
      · exact Or.inr ⟨e, z1, z2⟩
theorem way_old (hU : HU u w) {S : List Nat} (hI : I0 u w S) {t : Port} : ∀ (l : List Port) (e : Port), lt e ∈ S → Ch u w (e :: l) e t → ∀ x, x ∈ e :: l → lt x ∈ S := by
  intro l
  induction l with
  | nil => intro e he hC x hx; simp only [List.mem_cons, List.not_mem_nil, or_false] at hx; rw [hx]; exact he
  | cons e2 l ih =>
    intro e he hC x hx
    obtain ⟨-, hL, q', hq', hC'⟩ := hC
    have hq2 : q' = e2 := hC'.1
    subst hq2
    have hL2 : isL2 u q' := hC'.2.1
    have h2 : lt q' ∈ S := by
      by_cases c : lt q' ∈ S
      · exact c
      · exfalso
        have e1 := hI.2 q' hL2 c
        rw [(hU.1 _ _ hq').1] at e1
        have e3 := ((Fz_facts hU hI.1).1 _ _ e1).1
        have := Fz_gone hU hI.1 (L2_mate hL).1 (by rw [e3]; exact fun z => by cases z)
        rw [(L2_mate hL).2.1] at this
        exact this he
    rcases List.mem_cons.mp hx with z | z
    · rw [z]; exact he
    · exact ih q' h2 hC' x z
/-- either way -/
theorem way (hU : HU u w) {S : List Nat} (hI : I0 u w S) {r t q : Port} {l : List Port} (hr : ¬ isL2 u r) (ht : ¬ isL2 u t) (hw : w r = some q) (hC : Ch u w l q t) : ∃ S', I0 u w S' ∧ (Fz w S').2 = (Fz w S).2 ∧ ∀ i, i ∈ S' ↔ i ∈ S ∨ ∃ e, e ∈ l ∧ lt e = i := by
  cases l with
  | nil =>
    refine ⟨S, hI, rfl, fun i => ⟨Or.inl, ?_⟩⟩
    rintro (z | ⟨e, z, -⟩)
    · exact z
    · cases z
  | cons e l =>
    have hqe : q = e := hC.1
    subst hqe
    have he : isL2 u q := hC.2.1
    by_cases c : lt q ∈ S
    · have ho := way_old hU hI l q c hC
      refine ⟨S, hI, rfl, fun i => ⟨Or.inl, ?_⟩⟩
      rintro (z | ⟨e, z1, z2⟩)
      · exact z
      · rw [← z2]; exact ho e z1
    · have e1 := hI.2 q he c
      rw [(hU.1 _ _ hw).1] at e1
      have e2 := ((Fz_facts hU hI.1).1 _ _ e1).1
      exact way_new hU hr ht _ q S hI.1 e2 (fun x hx hxs _ _ => hI.2 x hx hxs) hC
end LT
