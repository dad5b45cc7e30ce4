/-! meetings one after another, by rounds -/
def PL : List Nat → Nt → List Nat → Nt → Prop
  | [], N, ss, N' => ss = [] ∧ N' = N
  | x :: l, N, ss, N' => ∃ y kx ky N1 ss', Redex N x y kx ky ∧ Perf N.1 N.2.1 N.2.2 x y kx ky N1.1 N1.2.1 N1.2.2 ∧ ss = sortS kx ky :: ss' ∧ PL l N1 ss' N'
/-- all of them are meetings, and no two are one -/
def Pend (N : Nt) (l : List Nat) : Prop := (∀ v, v ∈ l → ∃ v' kv kv', Redex N v v' kv kv' ∧ v < v') ∧ l.Nodup
theorem Perf_Gs {N N1 : Nt} {x y kx ky : Nat} (hG : Good N) (hr : Redex N x y kx ky) (hP : Perf N.1 N.2.1 N.2.2 x y kx ky N1.1 N1.2.1 N1.2.2) : ∃ fr, FrOk N x y fr ∧ N1 = stp kx ky x y fr N := by
  obtain ⟨K, w, r⟩ := N
  obtain ⟨K1, w1, r1⟩ := N1
  obtain ⟨fr, h1, h2⟩ := Perf_stp hG hr hP
  exact ⟨fr, h1, h2⟩
theorem Perf_Good {N N1 : Nt} {x y kx ky : Nat} (hG : Good N) (hr : Redex N x y kx ky) (hP : Perf N.1 N.2.1 N.2.2 x y kx ky N1.1 N1.2.1 N1.2.2) : Good N1 := by
  obtain ⟨fr, h1, h2⟩ := Perf_Gs hG hr hP
  rw [h2]
  exact stp_Good hG hr h1
theorem Perf_is {N N1 : Nt} {x y kx ky : Nat} (hG : Good N) (hr : Redex N x y kx ky) (hP : Perf N.1 N.2.1 N.2.2 x y kx ky N1.1 N1.2.1 N1.2.2) : Gs N (sortS kx ky) N1 := by
  obtain ⟨fr, h1, h2⟩ := Perf_Gs hG hr hP
  exact ⟨x, y, kx, ky, fr, hr, h1, h2, rfl⟩
theorem Pend_step {N N1 : Nt} {x y kx ky : Nat} {l : List Nat} (hG : Good N) (hp : Pend N (x :: l)) (hr : Redex N x y kx ky) (hP : Perf N.1 N.2.1 N.2.2 x y kx ky N1.1 N1.2.1 N1.2.2) : Pend N1 l := by
  obtain ⟨fr, hf, e⟩ := Perf_Gs hG hr hP
  have M0 := hG.1.1
  obtain ⟨y', kx', ky', hr', hlt'⟩ := hp.1 x (List.mem_cons_self ..)
  have ey : y' = y := congrArg Prod.fst (Option.some.inj (hr'.2.2.symm.trans hr.2.2))
  subst ey
  have hnd := List.nodup_cons.mp hp.2
  refine ⟨fun v hv => ?_, hnd.2⟩
  obtain ⟨v', kv, kv', a1, a2⟩ := hp.1 v (List.mem_cons_of_mem x hv)
  have c1 : v ≠ x := fun z => hnd.1 (by rw [← z]; exact hv)
  have c2 : v ≠ y' := fun z => by
    have e1 : (x, 0) = ((v', 0) : Port) := Option.some.inj ((M0 _ _ hr.2.2).1.symm.trans (by rw [← z]; exact a1.2.2))
    have : x = v' := congrArg Prod.fst e1
    omega
  have c3 : v' ≠ x := fun z => by
    have e1 : (v, 0) = ((y', 0) : Port) := Option.some.inj ((M0 _ _ a1.2.2).1.symm.trans (by rw [z]; exact hr.2.2))
    exact c2 (congrArg Prod.fst e1)
  have c4 : v' ≠ y' := fun z => by
    have e1 : (v, 0) = ((x, 0) : Port) := Option.some.inj ((M0 _ _ a1.2.2).1.symm.trans (by rw [z]; exact (M0 _ _ hr.2.2).1))
    exact c1 (congrArg Prod.fst e1)
  have nfr : ∀ n k, N.1 n = some k → n ≠ x → n ≠ y' → ∀ i, i < 4 → n ≠ fr i := fun n k hn h1 h2 i hi z => by
    have := hf.1 i hi
    rw [← z, K00_keep h1 h2, hn] at this
    cases this
  have t1 : ¬ Tn x y' fr v := by
    unfold Tn
    have z0 := nfr v kv a1.1 c1 c2 0 (by omega)
    have z1 := nfr v kv a1.1 c1 c2 1 (by omega)
    have z2 := nfr v kv a1.1 c1 c2 2 (by omega)
    have z3 := nfr v kv a1.1 c1 c2 3 (by omega)
    omega
  have t2 : ¬ Tn x y' fr v' := by
    unfold Tn
    have z0 := nfr v' kv' a1.2.1 c3 c4 0 (by omega)
    have z1 := nfr v' kv' a1.2.1 c3 c4 1 (by omega)
    have z2 := nfr v' kv' a1.2.1 c3 c4 2 (by omega)
    have z3 := nfr v' kv' a1.2.1 c3 c4 3 (by omega)
    omega
  rw [e]
  exact ⟨v', kv, kv', stp_o a1 t1 t2, a2⟩
theorem PL_Rs : ∀ (l : List Nat) (N : Nt) (ss : List Nat) (N' : Nt), Good N → PL l N ss N' → Rs ss N N' ∧ Good N' ∧ ss.length = l.length := by
  intro l
  induction l with
  | nil =>
    intro N ss N' hG h
    obtain ⟨rfl, rfl⟩ := h
    exact ⟨rfl, hG, rfl⟩
  | cons x l ih =>
    intro N ss N' hG h
    obtain ⟨y, kx, ky, N1, ss', h1, h2, rfl, h4⟩ := h
    obtain ⟨i1, i2, i3⟩ := ih N1 ss' N' (Perf_Good hG h1 h2) h4
    exact ⟨⟨N1, Perf_is hG h1 h2, i1⟩, i2, by simp only [List.length_cons, i3]⟩
theorem Rs_app : ∀ (l l' : List Nat) (N M P : Nt), Rs l N M → Rs l' M P → Rs (l ++ l') N P := by
  intro l
  induction l with
  | nil => intro l' N M P h h'; rw [show N = M from h]; exact h'
  | cons s l ih =>
    intro l' N M P h h'
    obtain ⟨N1, g1, g2⟩ := h
    exact ⟨N1, g1, ih l' N1 M P g2 h'⟩
theorem ct_app (t : Nat) : ∀ (l l' : List Nat), ct t (l ++ l') = ct t l + ct t l' := by
  intro l
  induction l with
  | nil => intro l'; rw [List.nil_append, ct_nil]; omega
  | cons s l ih => intro l'; rw [List.cons_append, ct_cons, ct_cons, ih]; omega
theorem Rs_Good : ∀ (l : List Nat) (N M : Nt), Good N → Rs l N M → Good M := by
  intro l
  induction l with
  | nil => intro N M hG h; rw [← show N = M from h]; exact hG
  | cons s l ih =>
    intro N M hG h
    obtain ⟨N1, g1, g2⟩ := h
    exact ih N1 M (Gs_Good hG g1) g2
theorem mtg_nodup {K : Kd} {w : Wr} : ∀ d i, (mtg K w d i).Nodup := by
  intro d
  induction d with
  | zero => intro i; exact List.nodup_nil
  | succ d ih =>
    intro i
    unfold mtg
    by_cases c : isM K w i = true
    · rw [if_pos c]
      refine List.nodup_cons.mpr ⟨fun h => ?_, ih (i + 1)⟩
      have := mtg_mem d (i + 1) i h
      omega
    · rw [if_neg c]; exact ih (i + 1)
/-- the meetings of a net whose numbers lie below n -/
def mtn (n : Nat) (N : Nt) : List Nat := mtg N.1 N.2.1 n 0
theorem mtn_Pend {n : Nat} {N : Nt} (hG : Good N) : Pend N (mtn n N) := by
  refine ⟨fun v hv => ?_, ?_⟩
  · obtain ⟨m, -, -⟩ := mtg_mem n 0 v hv
    obtain ⟨v', h1, h2, h3⟩ := isM_true m
    obtain ⟨k, hk⟩ := some_of h3
    obtain ⟨k', hk'⟩ := some_of (alive_of hG.1 (n := v') (s := 0) (by omega) (by rw [(hG.1.1 _ _ h1).1]; exact fun z => by cases z))
    exact ⟨v', k, k', ⟨hk, hk', h1⟩, h2⟩
  · exact mtg_nodup n 0
theorem mtn_Nf {n : Nat} {N : Nt} (hG : Good N) (hb : ∀ m, n ≤ m → N.1 m = none) (h : mtn n N = []) : Nf N := by
  intro x y hxy
  have M0 := hG.1.1
  have ax := alive_of hG.1 (n := x) (s := 0) (by omega) (by rw [hxy]; exact fun z => by cases z)
  have hyx := (M0 _ _ hxy).1
  have ay := alive_of hG.1 (n := y) (s := 0) (by omega) (by rw [hyx]; exact fun z => by cases z)
  have hne : x ≠ y := fun z => (M0 _ _ hxy).2 (by rw [z])
  have lt : ∀ m, N.1 m ≠ none → m < n := fun m hm => by
    rcases Nat.lt_or_ge m n with c | c
    · exact c
    · exact absurd (hb m c) hm
  rcases Nat.lt_or_ge x y with c | c
  · have := mtg_nil n 0 h x (by omega) (by have := lt x ax; omega)
    rw [isM_of hxy c ax] at this
    cases this
  · have := mtg_nil n 0 h y (by omega) (by have := lt y ay; omega)
    rw [isM_of hyx (by omega) ay] at this
    cases this
def Rnd : Nat → Nt → List Nat → Nt → Prop
  | 0, N, ss, M => ss = [] ∧ M = N ∧ mtn 180 N = []
  | k + 1, N, ss, M => mtn 180 N ≠ [] ∧ ∃ s1 N1 s2, PL (mtn 180 N) N s1 N1 ∧ Rnd k N1 s2 M ∧ ss = s1 ++ s2
theorem Rnd_Rs : ∀ (k : Nat) (N : Nt) (ss : List Nat) (M : Nt), Good N → Rnd k N ss M → Rs ss N M ∧ Good M ∧ mtn 180 M = [] := by
  intro k
  induction k with
  | zero =>
    intro N ss M hG h
    obtain ⟨rfl, rfl, h3⟩ := h
    exact ⟨rfl, hG, h3⟩
  | succ k ih =>
    intro N ss M hG h
    obtain ⟨h0, s1, N1, s2, h1, h2, rfl⟩ := h
    obtain ⟨a1, a2, a3⟩ := PL_Rs _ _ _ _ hG h1
    obtain ⟨b1, b2, b3⟩ := ih N1 s2 M a2 h2
    exact ⟨Rs_app _ _ _ _ _ a1 b1, b2, b3⟩
/-- how many nodes there are behind a meeting -/
theorem Perf_cnt {K : Kd} {w : Wr} {r : Nat} (hF : WF K w) {x y kx ky : Nat} (hx : K x = some kx) (hy : K y = some ky) (hq : w (x, 0) = some (y, 0)) {K' : Kd} {w' : Wr} {r' : Nat} (hP : Perf K w r x y kx ky K' w' r') {n : Nat} (h1 : ∀ m, n ≤ m → K m = none) (h2 : ∀ m, n ≤ m → K' m = none) : cnt K' n + (if sortS kx ky = 1 then 2 else 0) = cnt K n + (if sortS kx ky = 2 then 2 else 0) := by
  have hxy : x ≠ y := fun z => (hF.1 _ _ hq).2 (by rw [z])
  have lt : ∀ m, K m ≠ none → m < n := fun m hm => by
    rcases Nat.lt_or_ge m n with c | c
    · exact c
    · exact absurd (h1 m c) hm
  have lt' : ∀ m, K' m ≠ none → m < n := fun m hm => by
    rcases Nat.lt_or_ge m n with c | c
    · exact c
    · exact absurd (h2 m c) hm
  have hc1 := cnt_del (K := K) (x := x) (by rw [hx]; exact fun z => by cases z) (n := n) (lt x (by rw [hx]; exact fun z => by cases z))
  have hyK1 : ku K x none y = some ky := by
    unfold ku
    rw [if_neg (fun z => hxy z.symm)]
    exact hy
  have hc2 := cnt_del (K := ku K x none) (x := y) (by rw [hyK1]; exact fun z => by cases z) (n := n) (lt y (by rw [hy]; exact fun z => by cases z))
  have q0 : cnt (K00 K x y) n + 2 = cnt K n := by
    show cnt (ku (ku K x none) y none) n + 2 = cnt K n
    omega
  rcases hP with ⟨a1, a2, a3, a4, a5⟩ | ⟨a1, a2, s1, s2, a3, a4, a5, a6, a7⟩ | ⟨a1, a2, z, p, q, a3, a4, a5, a6, a7, a8⟩ | ⟨a1, a2, a3, p, q, s, t, a4, a5, a6, a7, a8, a9, a10⟩
  · have hs : sortS kx ky = 1 := by unfold sortS; rw [if_pos a1]
    rw [hs, if_pos rfl, if_neg (by omega), a3]
    omega
  · have hs : sortS kx ky = 1 := by unfold sortS; rw [if_pos a1]
    rw [hs, if_pos rfl, if_neg (by omega), a5]
    omega
  · have hs : sortS kx ky = 3 := by unfold sortS; rw [if_neg a1, if_pos a2]
    have lq : q < n := lt' q (by rw [a6]; unfold ku; rw [if_pos rfl]; exact fun z => by cases z)
    have lp : p < n := by have := lf_lt a4 a5; omega
    have e1 := cnt_add (K := K00 K x y) (x := p) (k := 0) a4.1 lp
    have e2 := cnt_add (K := ku (K00 K x y) p (some 0)) (x := q) (k := 0) a5.1 lq
    rw [hs, if_neg (by omega), if_neg (by omega), a6]
    omega
  · have hs : sortS kx ky = 2 := by unfold sortS; rw [if_neg a1, if_neg (by omega)]
    have lt4 : t < n := lt' t (by rw [a8]; unfold ku; rw [if_pos rfl]; exact fun z => by cases z)
    have l1 := lf_lt a4 a5
    have l2 := lf_lt a5 a6
    have l3 := lf_lt a6 a7
    have e1 := cnt_add (n := n) (K := K00 K x y) (x := p) (k := kx) a4.1 (by omega)
    have e2 := cnt_add (n := n) (K := ku (K00 K x y) p (some kx)) (x := q) (k := kx) a5.1 (by omega)
    have e3 := cnt_add (n := n) (K := ku (ku (K00 K x y) p (some kx)) q (some kx)) (x := s) (k := ky) a6.1 (by omega)
    have e4 := cnt_add (n := n) (K := ku (ku (ku (K00 K x y) p (some kx)) q (some kx)) s (some ky)) (x := t) (k := ky) a7.1 (by omega)
    rw [hs, if_neg (by omega), if_pos rfl, a8]
    omega
/-- how it is told what was done -/
def dnc (l : List Nat) (j : Nat) : Nat := if j = 0 then l.length else ct j l
