/-! two meetings in either order; a meeting seen from its other side -/
theorem ok_ne {c : Ac} {w : Wr} (h : Mt w) (ho : OkA c w) : c.2.1 ≠ c.2.2 := by
  obtain ⟨t, p, q⟩ := c
  match t with
  | 0 => exact (h p q ho).2
  | 1 =>
    obtain ⟨h1, h2⟩ : w p ≠ none ∧ w q = none := ho
    exact fun z => h1 (by rw [show p = q from z]; exact h2)
  | 2 => exact ho.2.2
  | n + 3 => exact ho.2.2
theorem ok_keep {c c' : Ac} {S : Sy} (h : Mt S.1) (ho : OkA c S.1) (ho' : OkA c' S.1) (hd : Dj c c') : OkA c (ap c' S).1 := by
  have oc' := (ap_Mt h ho').2
  have same : ∀ r, r ≠ c'.2.1 → r ≠ c'.2.2 → ((ap c' S).1 r ≠ none ↔ S.1 r ≠ none) := by
    intro r h1 h2
    rw [oc' r]
    obtain ⟨t, p', q'⟩ := c'
    simp only at h1 h2
    match t with
    | 0 => exact ⟨fun z => z.1, fun z => ⟨z, h1, h2⟩⟩
    | 1 => exact ⟨fun z => z.elim (fun z => absurd z h2) (fun z => z.1), fun z => Or.inr ⟨z, h1⟩⟩
    | 2 => exact ⟨fun z => z.elim id (fun z => z.elim (fun z => absurd z h1) (fun z => absurd z h2)), fun z => Or.inl z⟩
    | n + 3 => exact ⟨fun z => z.1, fun z => ⟨z, h1, h2⟩⟩
  obtain ⟨h1, h2, h3, h4⟩ := hd
  have sp := same _ h1 h2
  have sq := same _ h3 h4
  obtain ⟨t, p, q⟩ := c
  simp only at h1 h2 h3 h4 sp sq
  match t with
  | 0 => exact ap_o (show S.1 p = some q from ho) h1 h2 h3 h4
  | 1 =>
    obtain ⟨a, b⟩ : S.1 p ≠ none ∧ S.1 q = none := ho
    exact ⟨sp.mpr a, Classical.not_not.mp (fun z => sq.mp z b)⟩
  | 2 =>
    obtain ⟨a, b, d⟩ : S.1 p = none ∧ S.1 q = none ∧ p ≠ q := ho
    exact ⟨Classical.not_not.mp (fun z => sp.mp z a), Classical.not_not.mp (fun z => sq.mp z b), d⟩
  | n + 3 =>
    obtain ⟨a, b, d⟩ : S.1 p ≠ none ∧ S.1 q ≠ none ∧ p ≠ q := ho
    exact ⟨sp.mpr a, sq.mpr b, d⟩
theorem Dj_symm {c c' : Ac} (h : Dj c c') : Dj c' c := ⟨h.1.symm, h.2.2.1.symm, h.2.1.symm, h.2.2.2.symm⟩
theorem ap_aps : ∀ (l : List Ac) (S : Sy) (c : Ac), Mt S.1 → OkA c S.1 → OkL l S → (∀ c', c' ∈ l → Dj c c') → aps l (ap c S) = ap c (aps l S) ∧ OkL l (ap c S) := by
  intro l
  induction l with
  | nil => intro S c _ _ _ _; exact ⟨rfl, trivial⟩
  | cons c' l ih =>
    intro S c hM hc hl hd
    have dj := hd c' (List.mem_cons_self ..)
    have e := ap_commF dj (ok_ne hM hc) (ok_ne hM hl.1) hM
    have k1 := ok_keep hM hc hl.1 dj
    have k2 := ok_keep hM hl.1 hc (Dj_symm dj)
    obtain ⟨i1, i2⟩ := ih (ap c' S) c (ap_Mt hM hl.1).1 k1 hl.2 (fun b hb => hd b (List.mem_cons_of_mem c' hb))
    refine ⟨?_, k2, ?_⟩
    · show aps l (ap c' (ap c S)) = ap c (aps l (ap c' S))
      rw [← e]
      exact i1
    · rw [← e]
      exact i2
theorem aps_aps : ∀ (l l' : List Ac) (S : Sy), Mt S.1 → OkL l S → OkL l' S → (∀ c c', c ∈ l → c' ∈ l' → Dj c c') → aps l' (aps l S) = aps l (aps l' S) := by
  intro l
  induction l with
  | nil => intro l' S _ _ _ _; rfl
  | cons c l ih =>
    intro l' S hM hl hl' hd
    obtain ⟨i1, i2⟩ := ap_aps l' S c hM hl.1 hl' (fun c' hc' => hd c c' (List.mem_cons_self ..) hc')
    have := ih l' (ap c S) (ap_Mt hM hl.1).1 hl.2 i2 (fun b b' hb hb' => hd b b' (List.mem_cons_of_mem c hb) hb')
    show aps l' (aps l (ap c S)) = aps l (ap c (aps l' S))
    rw [this, i1]
theorem kus_ku : ∀ (l : List (Nat × Option Nat)) (K : Kd) (a : Nat × Option Nat), (∀ b, b ∈ l → a.1 ≠ b.1) → kus l (ku K a.1 a.2) = ku (kus l K) a.1 a.2 := by
  intro l
  induction l with
  | nil => intro K a _; rfl
  | cons b l ih =>
    intro K a h
    show kus l (ku (ku K a.1 a.2) b.1 b.2) = ku (kus l (ku K b.1 b.2)) a.1 a.2
    rw [ku_comm _ _ (h b (List.mem_cons_self ..)), ih _ a (fun b' hb' => h b' (List.mem_cons_of_mem b hb'))]
theorem kus_kus : ∀ (l l' : List (Nat × Option Nat)) (K : Kd), (∀ a b, a ∈ l → b ∈ l' → a.1 ≠ b.1) → kus l' (kus l K) = kus l (kus l' K) := by
  intro l
  induction l with
  | nil => intro l' K _; rfl
  | cons a l ih =>
    intro l' K h
    show kus l' (kus l (ku K a.1 a.2)) = kus l (ku (kus l' K) a.1 a.2)
    rw [ih l' _ (fun b b' hb hb' => h b b' (List.mem_cons_of_mem a hb) hb'), kus_ku l' K a (fun b hb => h a b (List.mem_cons_self ..) hb)]
section DI
variable {N : Nt} {x y kx ky u v ku' kv : Nat} {fr fs : Nat → Nat}
theorem diamond (h : Good N) (h1 : Redex N x y kx ky) (h2 : Redex N u v ku' kv) (hf : FrOk N x y fr) (hg : FrOk N u v fs) (hd : ∀ n, Tn x y fr n → ¬ Tn u v fs n) : stp ku' kv u v fs (stp kx ky x y fr N) = stp kx ky x y fr (stp ku' kv u v fs N) := by
  refine Prod.ext ?_ ?_
  · exact kus_kus _ _ _ (fun a b ha hb z => hd _ (kl_T a ha) (by rw [z]; exact kl_T b hb))
  · refine aps_aps _ _ _ h.1.1 (rl_ok h h1 hf) (rl_ok h h2 hg) (fun c c' hc hc' => ?_)
    obtain ⟨a1, a2, -, -⟩ := rl_T c hc
    obtain ⟨b1, b2, -, -⟩ := rl_T c' hc'
    exact ⟨fun z => hd _ a1 (by rw [z]; exact b1), fun z => hd _ a1 (by rw [z]; exact b2), fun z => hd _ a2 (by rw [z]; exact b1), fun z => hd _ a2 (by rw [z]; exact b2)⟩
theorem FrOk_stp (hg : FrOk N u v fs) (hn : ∀ i, i < 4 → N.1 (fs i) = none) (hd : ∀ n, Tn x y fr n → ¬ Tn u v fs n) : FrOk (stp kx ky x y fr N) u v fs := by
  refine ⟨fun i hi => ?_, hg.2⟩
  have t : Tn u v fs (fs i) := by
    unfold Tn
    rcases (show i = 0 ∨ i = 1 ∨ i = 2 ∨ i = 3 by omega) with rfl | rfl | rfl | rfl <;> simp
  have e : (stp kx ky x y fr N).1 (fs i) = none := by
    show kus (kl kx ky x y fr) N.1 (fs i) = none
    rw [kus_o _ _ _ (fun a ha z => hd _ (kl_T a ha) (by rw [← z]; exact t))]
    exact hn i hi
  unfold K00 ku
  by_cases c1 : fs i = v
  · rw [if_pos c1]
  · rw [if_neg c1]
    by_cases c2 : fs i = u
    · rw [if_pos c2]
    · rw [if_neg c2]; exact e
/-- the names as the other side gives them -/
def flp (kx ky : Nat) (fr : Nat → Nat) : Nat → Nat := if kx = ky ∨ kx = 0 ∨ ky = 0 then fr else fun i => fr ((i + 2) % 4)
theorem FrOk_fl (hxy : x ≠ y) (hf : FrOk N x y fr) : FrOk N y x (flp kx ky fr) := by
  have hk : K00 N.1 y x = K00 N.1 x y := K00_comm N.1 hxy.symm
  unfold FrOk
  rw [hk]
  unfold flp
  by_cases c : kx = ky ∨ kx = 0 ∨ ky = 0
  · rw [if_pos c]; exact hf
  · rw [if_neg c]
    exact ⟨fun i hi => hf.1 _ (by omega), fun i j hi hj hne => hf.2 _ _ (by omega) (by omega) (by omega)⟩
theorem ap0_sy (p q : Port) (S : Sy) : ap (0, p, q) S = ap (0, q, p) S := by
  refine Prod.ext ?_ rfl
  funext r
  show aC p q S.1 r = aC q p S.1 r
  unfold aC
  grind
theorem ap2_sy {p q : Port} (h : p ≠ q) (S : Sy) : ap (2, p, q) S = ap (2, q, p) S := by
  refine Prod.ext ?_ rfl
  funext r
  show wl p q S.1 r = wl q p S.1 r
  unfold wl
  grind
theorem ap3_sy {p q : Port} (h : p ≠ q) {S : Sy} (hM : Mt S.1) : ap (3, p, q) S = ap (3, q, p) S := by
  refine Prod.ext ?_ ?_
  · funext r
    show aF p q S.1 r = aF q p S.1 r
    unfold aF
    grind
  · show rf p q S.1 S.2 = rf q p S.1 S.2
    unfold rf
    have : S.1 p = some q ↔ S.1 q = some p := ⟨fun z => (hM _ _ z).1, fun z => (hM _ _ z).1⟩
    simp only [this]
theorem dj' {a b c d : Port} {s t : Nat} (h1 : a ≠ c) (h2 : a ≠ d) (h3 : b ≠ c) (h4 : b ≠ d) : Dj (s, a, b) (t, c, d) := ⟨h1, h2, h3, h4⟩
theorem stp_fl (h : Good N) (hr : Redex N x y kx ky) (hf : FrOk N x y fr) : stp kx ky x y fr N = stp ky kx y x (flp kx ky fr) N := by
  have hxy := Redex_ne h hr
  have hyx := hxy.symm
  have ok := rl_ok h hr hf
  have M0 := h.1.1
  unfold stp rl kl at *
  unfold rlT flp at *
  have e0 := ap0_sy (y, 0) (x, 0) N.2
  by_cases c1 : kx = ky
  · subst c1
    rw [if_pos rfl] at ok
    rw [if_pos rfl, if_pos rfl, if_pos rfl, if_pos rfl]
    refine Prod.ext (ku_comm _ _ hxy) ?_
    by_cases c0 : kx = 0
    · rw [if_pos c0, if_pos c0]
      exact e0.symm
    · rw [if_neg c0] at ok
      rw [if_neg c0, if_neg c0]
      obtain ⟨o0, o1, o2, -⟩ := ok
      have M1 := (ap_Mt M0 o0).1
      have M2 := (ap_Mt M1 o1).1
      show ap (3, (x, 2), (y, if kx = 1 then 1 else 2)) (ap (3, (x, 1), (y, if kx = 1 then 2 else 1)) (ap (0, (x, 0), (y, 0)) N.2)) = ap (3, (y, 2), (x, if kx = 1 then 1 else 2)) (ap (3, (y, 1), (x, if kx = 1 then 2 else 1)) (ap (0, (y, 0), (x, 0)) N.2))
      rw [e0]
      have nxy : ∀ s t : Nat, ((x, s) : Port) ≠ (y, t) := fun s t => pne (Or.inl hxy)
      have nyx : ∀ s t : Nat, ((y, s) : Port) ≠ (x, t) := fun s t => pne (Or.inl hyx)
      by_cases c2 : kx = 1
      · rw [if_pos c2] at o1 o2 M2
        rw [if_pos c2] at o2
        rw [if_pos c2, if_pos c2]
        have q1 := ap3_sy (nyx 1 2) M1
        have q2 := ap3_sy (S := ap (3, (x, 2), (y, 1)) (ap (0, (x, 0), (y, 0)) N.2)) (nyx 2 1) (by
          have dj : Dj (3, (x, 2), (y, 1)) (3, (x, 1), (y, 2)) := dj' (pne (Or.inr (by omega))) (nxy _ _) (nyx _ _) (pne (Or.inr (by omega)))
          have oo : OkA (3, (x, 2), (y, 1)) (ap (0, (x, 0), (y, 0)) N.2).1 := by
            have w1 := aux_some (x := x) (y := y) h.1 hr.1 c0 (s := 2) (Or.inr rfl)
            have w2 := aux_some (x := x) (y := y) h.1 hr.2.1 c0 (s := 1) (Or.inl rfl)
            have e : (ap (0, (x, 0), (y, 0)) N.2).1 = wA0 x y N.2.1 := aC_wv _ _ _
            rw [e]
            exact ⟨w1, w2, nxy _ _⟩
          exact (ap_Mt M1 oo).1)
        rw [q1, q2]
        exact ap_commF (dj' (pne (Or.inr (by omega))) (nxy _ _) (nyx _ _) (pne (Or.inr (by omega)))) (nxy _ _) (nxy _ _) M1
      · rw [if_neg c2] at o1 o2 M2
        rw [if_neg c2] at o2
        rw [if_neg c2, if_neg c2]
        rw [ap3_sy (nyx 1 1) M1, ap3_sy (nyx 2 2) M2]
  · have c1' : ¬ ky = kx := fun z => c1 z.symm
    by_cases c2 : kx = 0 ∨ ky = 0
    · have c2' : ky = 0 ∨ kx = 0 := c2.symm
      rw [if_neg c1, if_neg c1, if_neg c1', if_neg c1', if_pos c2, if_pos c2, if_pos c2', if_pos c2', if_pos (Or.inr c2)]
      have ez : (if kx = 0 then y else x) = (if ky = 0 then x else y) := by
        by_cases c3 : kx = 0
        · rw [if_pos c3, if_neg (by omega)]
        · rw [if_neg c3, if_pos (by omega)]
      rw [ez]
      refine Prod.ext ?_ ?_
      · show ku (ku (ku (ku N.1 x none) y none) _ _) _ _ = ku (ku (ku (ku N.1 y none) x none) _ _) _ _
        rw [ku_comm _ _ hxy]
      · show aps _ (ap _ N.2) = aps _ (ap _ N.2)
        rw [e0]
    · have c2' : ¬ (ky = 0 ∨ kx = 0) := fun z => c2 z.symm
      rw [if_neg c1, if_neg c1, if_neg c1', if_neg c1', if_neg c2, if_neg c2, if_neg c2', if_neg c2', if_neg (by omega)]
      have d01 := hf.2 0 1 (by omega) (by omega) (by omega)
      have d02 := hf.2 0 2 (by omega) (by omega) (by omega)
      have d03 := hf.2 0 3 (by omega) (by omega) (by omega)
      have d12 := hf.2 1 2 (by omega) (by omega) (by omega)
      have d13 := hf.2 1 3 (by omega) (by omega) (by omega)
      have d23 := hf.2 2 3 (by omega) (by omega) (by omega)
      refine Prod.ext ?_ ?_
      · show ku (ku (ku (ku (ku (ku N.1 x none) y none) (fr 0) _) (fr 1) _) (fr 2) _) (fr 3) _ = ku (ku (ku (ku (ku (ku N.1 y none) x none) (fr 2) _) (fr 3) _) (fr 0) _) (fr 1) _
        rw [ku_comm _ _ hxy]
        generalize ku (ku N.1 y none) x none = K1
        funext n
        unfold ku
        clear ok e0 M0
        by_cases e1 : n = fr 0
        · subst e1; simp [d01, d02, d03]
        · by_cases e2 : n = fr 1
          · subst e2; simp [d12, d13]
          · by_cases e3 : n = fr 2
            · subst e3; simp [e1, e2, d23]
            · by_cases e4 : n = fr 3
              · subst e4; simp [e1, e2, e3]
              · simp [e1, e2, e3, e4]
      · show ap (2, (fr 1, 2), (fr 3, 2)) (ap (2, (fr 1, 1), (fr 2, 2)) (ap (2, (fr 0, 2), (fr 3, 1)) (ap (2, (fr 0, 1), (fr 2, 1)) (ap (1, (x, 2), (fr 3, 0)) (ap (1, (x, 1), (fr 2, 0)) (ap (1, (y, 2), (fr 1, 0)) (ap (1, (y, 1), (fr 0, 0)) (ap (0, (x, 0), (y, 0)) N.2)))))))) = ap (2, (fr 3, 2), (fr 1, 2)) (ap (2, (fr 3, 1), (fr 0, 2)) (ap (2, (fr 2, 2), (fr 1, 1)) (ap (2, (fr 2, 1), (fr 0, 1)) (ap (1, (y, 2), (fr 1, 0)) (ap (1, (y, 1), (fr 0, 0)) (ap (1, (x, 2), (fr 3, 0)) (ap (1, (x, 1), (fr 2, 0)) (ap (0, (y, 0), (x, 0)) N.2))))))))
        have sy1 : ∀ S, ap (2, (fr 3, 2), (fr 1, 2)) S = ap (2, (fr 1, 2), (fr 3, 2)) S := fun S => ap2_sy (pne (Or.inl d13.symm)) S
        have sy2 : ∀ S, ap (2, (fr 3, 1), (fr 0, 2)) S = ap (2, (fr 0, 2), (fr 3, 1)) S := fun S => ap2_sy (pne (Or.inl d03.symm)) S
        have sy3 : ∀ S, ap (2, (fr 2, 2), (fr 1, 1)) S = ap (2, (fr 1, 1), (fr 2, 2)) S := fun S => ap2_sy (pne (Or.inl d12.symm)) S
        have sy4 : ∀ S, ap (2, (fr 2, 1), (fr 0, 1)) S = ap (2, (fr 0, 1), (fr 2, 1)) S := fun S => ap2_sy (pne (Or.inl d02.symm)) S
        have co : ∀ S, ap (2, (fr 1, 1), (fr 2, 2)) (ap (2, (fr 0, 2), (fr 3, 1)) S) = ap (2, (fr 0, 2), (fr 3, 1)) (ap (2, (fr 1, 1), (fr 2, 2)) S) := fun S => ap_comm (dj' (pne (Or.inr (by omega))) (pne (Or.inl d13)) (pne (Or.inl d02.symm)) (pne (Or.inl d23))) (Or.inl (show 2 < 3 by omega)) S
        rw [e0, sy1, sy2, sy3, sy4, co]
        have mv : ∀ (s t : Nat) (i j : Nat) (S : Sy), s ≠ 0 → t ≠ 0 → fr i ≠ fr j → ap (1, (x, s), (fr i, 0)) (ap (1, (y, t), (fr j, 0)) S) = ap (1, (y, t), (fr j, 0)) (ap (1, (x, s), (fr i, 0)) S) := fun s t i j S hs ht hij => ap_comm (dj' (pne (Or.inl hxy)) (pne (Or.inr hs)) (pne (Or.inr (fun z => ht z.symm))) (pne (Or.inl hij))) (Or.inl (show 1 < 3 by omega)) S
        rw [mv 1 2 2 1 _ (by omega) (by omega) d12.symm, mv 1 1 2 0 _ (by omega) (by omega) d02.symm, mv 2 2 3 1 _ (by omega) (by omega) d13.symm, mv 2 1 3 0 _ (by omega) (by omega) d03.symm]
end DI
