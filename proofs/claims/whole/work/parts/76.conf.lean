/-! whatever meets first: as many meet, of each sort, and what is left is alike -/
def Iso (N M : Nt) : Prop := ∃ f g, Half f N M ∧ Half g M N ∧ (∀ n, N.1 n ≠ none → g (f n) = n) ∧ ∀ m, M.1 m ≠ none → f (g m) = m
theorem Fp_id (p : Port) : Fp (fun n => n) p = p := by
  unfold Fp
  split <;> rfl
theorem Fp_comp (f f' : Nat → Nat) (p : Port) : Fp (fun n => f' (f n)) p = Fp f' (Fp f p) := by
  obtain ⟨n, s⟩ := p
  unfold Fp
  by_cases c : s < 3
  · simp only [if_pos c]
  · simp only [if_neg c]
theorem Iso_rf (N : Nt) : Iso N N := by
  have h : Half (fun n => n) N N := ⟨fun _ _ => rfl, fun _ _ _ _ e => e, fun p q hp => by rw [Fp_id, Fp_id]; exact hp, rfl⟩
  exact ⟨_, _, h, h, fun _ _ => rfl, fun _ _ => rfl⟩
theorem Iso_sy {N M : Nt} (h : Iso N M) : Iso M N := by
  obtain ⟨f, g, h1, h2, h3, h4⟩ := h
  exact ⟨g, f, h2, h1, h4, h3⟩
theorem Half_ne {f : Nat → Nat} {N M : Nt} (h : Half f N M) {n : Nat} (hn : N.1 n ≠ none) : M.1 (f n) ≠ none := by
  rw [h.1 n hn]; exact hn
theorem Half_comp {f f' : Nat → Nat} {N M P : Nt} (h : Half f N M) (h' : Half f' M P) : Half (fun n => f' (f n)) N P := by
  refine ⟨fun n hn => ?_, fun n n' hn hn' e => ?_, fun p q hp => ?_, h.2.2.2.trans h'.2.2.2⟩
  · show P.1 (f' (f n)) = N.1 n
    rw [h'.1 _ (Half_ne h hn), h.1 n hn]
  · exact h.2.1 _ _ hn hn' (h'.2.1 _ _ (Half_ne h hn) (Half_ne h hn') e)
  · rw [Fp_comp f f', Fp_comp f f']
    exact h'.2.2.1 _ _ (h.2.2.1 _ _ hp)
theorem Iso_tr {N M P : Nt} (h : Iso N M) (h' : Iso M P) : Iso N P := by
  obtain ⟨f, g, h1, h2, h3, h4⟩ := h
  obtain ⟨f', g', k1, k2, k3, k4⟩ := h'
  refine ⟨fun n => f' (f n), fun n => g (g' n), Half_comp h1 k1, Half_comp k2 h2, fun n hn => ?_, fun m hm => ?_⟩
  · show g (g' (f' (f n))) = n
    rw [k3 _ (Half_ne h1 hn), h3 n hn]
  · show f' (f (g (g' m))) = m
    rw [h4 _ (Half_ne k2 hm), k4 m hm]
theorem nf_inv {f g fr gr : Nat → Nat} {N M : Nt} {x y kx ky : Nat} (hG : Good N) (h : Half f N M) (h3 : ∀ n, N.1 n ≠ none → g (f n) = n) (hr : Redex N x y kx ky) (hf : FrOk N x y fr) (hg : FrOk M (f x) (f y) gr) (n : Nat) (hn : (stp kx ky x y fr N).1 n ≠ none) : nf g gr fr (nf f fr gr n) = n := by
  have hxy := Redex_ne hG hr
  have ax : N.1 x ≠ none := by rw [hr.1]; exact fun z => by cases z
  have ay : N.1 y ≠ none := by rw [hr.2.1]; exact fun z => by cases z
  have hn' : kus (kl kx ky x y fr) N.1 n ≠ none := hn
  rcases isfr fr n with ⟨i, hi, e⟩ | hno
  · rw [e, nf_i hf.2 hi, nf_i hg.2 hi]
  · rw [kus_alive hxy hf n hno] at hn'
    obtain ⟨a, b, c, d⟩ := K00_some hn'
    have e1 : f n ≠ f x := fun z => a (h.2.1 _ _ c ax z)
    have e2 : f n ≠ f y := fun z => b (h.2.1 _ _ c ay z)
    rw [nf_o hno, nf_o (fun i hi z => ?_), h3 n c]
    have := hg.1 i hi
    rw [← z, K00_keep e1 e2, h.1 n c] at this
    exact c this
theorem Iso_stp {f g fr gr : Nat → Nat} {N M : Nt} {x y kx ky : Nat} (hG : Good N) (hG' : Good M) (h1 : Half f N M) (h2 : Half g M N) (h3 : ∀ n, N.1 n ≠ none → g (f n) = n) (h4 : ∀ m, M.1 m ≠ none → f (g m) = m) (hr : Redex N x y kx ky) (hf : FrOk N x y fr) (hg : FrOk M (f x) (f y) gr) : Iso (stp kx ky x y fr N) (stp kx ky (f x) (f y) gr M) := by
  have ax : N.1 x ≠ none := by rw [hr.1]; exact fun z => by cases z
  have ay : N.1 y ≠ none := by rw [hr.2.1]; exact fun z => by cases z
  have hr' := Half_Redex h1 hr
  have gx := h3 x ax
  have gy := h3 y ay
  have hf' : FrOk N (g (f x)) (g (f y)) fr := by rw [gx, gy]; exact hf
  have k2 := Half_stp hG' hG h2 hr' hg hf'
  rw [gx, gy] at k2
  refine ⟨nf f fr gr, nf g gr fr, Half_stp hG hG' h1 hr hf hg, k2, nf_inv hG h1 h3 hr hf hg, fun m hm => nf_inv hG' h2 h4 hr' hg hf' m hm⟩
def Gs (N : Nt) (s : Nat) (N' : Nt) : Prop := ∃ x y kx ky fr, Redex N x y kx ky ∧ FrOk N x y fr ∧ N' = stp kx ky x y fr N ∧ s = sortS kx ky
def Rs : List Nat → Nt → Nt → Prop
  | [], N, M => N = M
  | s :: l, N, M => ∃ N1, Gs N s N1 ∧ Rs l N1 M
def Nf (N : Nt) : Prop := ∀ x y, N.2.1 (x, 0) ≠ some (y, 0)
theorem Gs_Good {N N' : Nt} {s : Nat} (h : Good N) (hs : Gs N s N') : Good N' := by
  obtain ⟨x, y, kx, ky, fr, h1, h2, h3, h4⟩ := hs
  rw [h3]
  exact stp_Good h h1 h2
theorem Gs_lift {N M N' : Nt} {s : Nat} (hG : Good N) (hG' : Good M) (hi : Iso N M) (hs : Gs N s N') : ∃ M', Gs M s M' ∧ Iso N' M' := by
  obtain ⟨f, g, h1, h2, h3, h4⟩ := hi
  obtain ⟨x, y, kx, ky, fr, a1, a2, a3, a4⟩ := hs
  obtain ⟨gr, hg, -⟩ := far_ex hG' (f x) (f y) 0
  exact ⟨_, ⟨_, _, kx, ky, gr, Half_Redex h1 a1, hg, rfl, a4⟩, by rw [a3]; exact Iso_stp hG hG' h1 h2 h3 h4 a1 a2 hg⟩
theorem Rs_lift : ∀ (l : List Nat) (N M N' : Nt), Good N → Good M → Iso N M → Rs l N N' → ∃ M', Rs l M M' ∧ Iso N' M' := by
  intro l
  induction l with
  | nil => intro N M N' _ _ hi h; exact ⟨M, rfl, by rw [← show N = N' from h]; exact hi⟩
  | cons s l ih =>
    intro N M N' hG hG' hi h
    obtain ⟨N1, g1, g2⟩ := h
    obtain ⟨M1, k1, k2⟩ := Gs_lift hG hG' hi g1
    obtain ⟨M', k3, k4⟩ := ih N1 M1 N' (Gs_Good hG g1) (Gs_Good hG' k1) k2 g2
    exact ⟨M', ⟨M1, k1, k3⟩, k4⟩
theorem Nf_iso {N M : Nt} (hi : Iso N M) (h : Nf N) : Nf M := by
  obtain ⟨f, g, h1, h2, h3, h4⟩ := hi
  intro x y hxy
  have := h2.2.2.1 _ _ hxy
  rw [Fp_lt g (by omega), Fp_lt g (by omega)] at this
  exact h _ _ this
theorem stp_same {N : Nt} {x y kx ky : Nat} {fr gr : Nat → Nat} (hG : Good N) (hr : Redex N x y kx ky) (hf : FrOk N x y fr) (hg : FrOk N x y gr) : Iso (stp kx ky x y fr N) (stp kx ky x y gr N) := by
  have h : Half (fun n => n) N N := ⟨fun _ _ => rfl, fun _ _ _ _ e => e, fun p q hp => by rw [Fp_id, Fp_id]; exact hp, rfl⟩
  exact Iso_stp hG hG h h (fun _ _ => rfl) (fun _ _ => rfl) hr hf hg
theorem sortS_sy (kx ky : Nat) : sortS kx ky = sortS ky kx := by
  unfold sortS
  grind
theorem Redex_sy {N : Nt} {x y kx ky : Nat} (hG : Good N) (h : Redex N x y kx ky) : Redex N y x ky kx := ⟨h.2.1, h.1, (hG.1.1 _ _ h.2.2).1⟩
theorem peak {N N0 N1 : Nt} {s0 s1 : Nat} (hG : Good N) (h0 : Gs N s0 N0) (h1 : Gs N s1 N1) : (s0 = s1 ∧ Iso N0 N1) ∨ ∃ P Q, Gs N0 s1 P ∧ Gs N1 s0 Q ∧ Iso P Q := by
  have G0 := Gs_Good hG h0
  have G1 := Gs_Good hG h1
  obtain ⟨x, y, kx, ky, fr, a1, a2, a3, a4⟩ := h0
  obtain ⟨u, v, ku', kv, fs, b1, b2, b3, b4⟩ := h1
  have M0 := hG.1.1
  have hxy := Redex_ne hG a1
  have huv := Redex_ne hG b1
  by_cases c1 : u = x
  · subst c1
    left
    have ev : (v, 0) = ((y, 0) : Port) := Option.some.inj (b1.2.2.symm.trans a1.2.2)
    have ev' : v = y := congrArg Prod.fst ev
    subst ev'
    have e1 : ku' = kx := Option.some.inj (b1.1.symm.trans a1.1)
    have e2 : kv = ky := Option.some.inj (b1.2.1.symm.trans a1.2.1)
    subst e1; subst e2
    rw [a3, b3, a4, b4]
    exact ⟨rfl, stp_same hG a1 a2 b2⟩
  · by_cases c2 : u = y
    · subst c2
      left
      have ev : (v, 0) = ((x, 0) : Port) := Option.some.inj (b1.2.2.symm.trans (M0 _ _ a1.2.2).1)
      have ev' : v = x := congrArg Prod.fst ev
      subst ev'
      have e1 : ku' = ky := Option.some.inj (b1.1.symm.trans a1.2.1)
      have e2 : kv = kx := Option.some.inj (b1.2.1.symm.trans a1.1)
      subst e1; subst e2
      rw [a3, b3, a4, b4, stp_fl hG b1 b2]
      exact ⟨sortS_sy _ _, stp_same hG a1 a2 (FrOk_fl huv b2)⟩
    · right
      have c3 : v ≠ x := fun z => by
        have := (M0 _ _ b1.2.2).1
        rw [z, a1.2.2] at this
        exact c2 (congrArg Prod.fst (Option.some.inj this)).symm
      have c4 : v ≠ y := fun z => by
        have := (M0 _ _ b1.2.2).1
        rw [z, (M0 _ _ a1.2.2).1] at this
        exact c1 (congrArg Prod.fst (Option.some.inj this)).symm
      obtain ⟨f1, hf1, hf2⟩ := far_ex hG x y (x + y + u + v + 1)
      obtain ⟨g1, hg1, hg2⟩ := far_ex hG u v (x + y + u + v + f1 0 + f1 1 + f1 2 + f1 3 + 1)
      have p0 := (hf2 0 (by omega)).1
      have p1 := (hf2 1 (by omega)).1
      have p2 := (hf2 2 (by omega)).1
      have p3 := (hf2 3 (by omega)).1
      have q0 := (hg2 0 (by omega)).1
      have q1 := (hg2 1 (by omega)).1
      have q2 := (hg2 2 (by omega)).1
      have q3 := (hg2 3 (by omega)).1
      have hd : ∀ n, Tn x y f1 n → ¬ Tn u v g1 n := by
        intro n h1 h2
        unfold Tn at h1 h2
        omega
      have hd' : ∀ n, Tn u v g1 n → ¬ Tn x y f1 n := fun n h1 h2 => hd n h2 h1
      have dia := diamond hG a1 b1 hf1 hg1 hd
      have r1 : Redex (stp kx ky x y f1 N) u v ku' kv := stp_o b1 (by unfold Tn; omega) (by unfold Tn; omega)
      have r2 : Redex (stp ku' kv u v g1 N) x y kx ky := stp_o a1 (by unfold Tn; omega) (by unfold Tn; omega)
      have k1 := FrOk_stp (kx := kx) (ky := ky) hg1 (fun i hi => (hg2 i hi).2) hd
      have k2 := FrOk_stp (kx := ku') (ky := kv) hf1 (fun i hi => (hf2 i hi).2) hd'
      have i0 : Iso (stp kx ky x y f1 N) N0 := by rw [a3]; exact stp_same hG a1 hf1 a2
      have i1 : Iso (stp ku' kv u v g1 N) N1 := by rw [b3]; exact stp_same hG b1 hg1 b2
      have g0 : Gs (stp kx ky x y f1 N) s1 (stp ku' kv u v g1 (stp kx ky x y f1 N)) := ⟨_, _, _, _, _, r1, k1, rfl, b4⟩
      have g2 : Gs (stp ku' kv u v g1 N) s0 (stp kx ky x y f1 (stp ku' kv u v g1 N)) := ⟨_, _, _, _, _, r2, k2, rfl, a4⟩
      obtain ⟨P, t1, t2⟩ := Gs_lift (stp_Good hG a1 hf1) G0 i0 g0
      obtain ⟨Q, t3, t4⟩ := Gs_lift (stp_Good hG b1 hg1) G1 i1 g2
      rw [dia] at t2
      exact ⟨P, Q, t1, t3, Iso_tr (Iso_sy t2) t4⟩
/-- how many of a sort -/
def ct (t : Nat) : List Nat → Nat
  | [] => 0
  | s :: l => (if s = t then 1 else 0) + ct t l
theorem ct_cons (t s : Nat) (l : List Nat) : ct t (s :: l) = (if s = t then 1 else 0) + ct t l := rfl
theorem ct_nil (t : Nat) : ct t [] = 0 := rfl
theorem conf : ∀ (l : List Nat) (N M : Nt), Good N → Rs l N M → Nf M → ∀ (s : Nat) (N1 : Nt), Gs N s N1 → ∃ l1 M1, Rs l1 N1 M1 ∧ Nf M1 ∧ Iso M M1 ∧ (∀ t, ct t (s :: l1) = ct t l) ∧ l1.length + 1 = l.length := by
  intro l
  induction l with
  | nil =>
    intro N M _ hR hN s N1 hs
    obtain ⟨x, y, kx, ky, fr, h1, -⟩ := hs
    rw [← show N = M from hR] at hN
    exact absurd h1.2.2 (hN x y)
  | cons s0 l ih =>
    intro N M hG hR hN s N1 hs
    obtain ⟨N0, g1, g2⟩ := hR
    rcases peak hG g1 hs with ⟨e, hi⟩ | ⟨P, Q, p1, p2, p3⟩
    · obtain ⟨M1, k1, k2⟩ := Rs_lift l N0 N1 M (Gs_Good hG g1) (Gs_Good hG hs) hi g2
      exact ⟨l, M1, k1, Nf_iso k2 hN, k2, fun t => by rw [e], rfl⟩
    · obtain ⟨l1, M1, a1, a2, a3, a4, a5⟩ := ih N0 M (Gs_Good hG g1) g2 hN s P p1
      obtain ⟨M2, k1, k2⟩ := Rs_lift l1 P Q M1 (Gs_Good (Gs_Good hG g1) p1) (Gs_Good (Gs_Good hG hs) p2) p3 a1
      refine ⟨s0 :: l1, M2, ⟨Q, p2, k1⟩, Nf_iso k2 a2, Iso_tr a3 k2, fun t => ?_, by simp only [List.length_cons]; omega⟩
      have := a4 t
      rw [ct_cons] at this
      rw [ct_cons, ct_cons, ct_cons]
      omega
theorem conf2 : ∀ (l1 : List Nat) (N X : Nt), Good N → Rs l1 N X → ∀ (l : List Nat) (M : Nt), Rs l N M → Nf M → ∃ l2 M', Rs l2 X M' ∧ Nf M' ∧ Iso M M' ∧ (∀ t, ct t l1 + ct t l2 = ct t l) ∧ l1.length + l2.length = l.length := by
  intro l1
  induction l1 with
  | nil =>
    intro N X hG hR l M hl hN
    rw [show N = X from hR] at hl
    exact ⟨l, M, hl, hN, Iso_rf M, fun t => by rw [ct_nil]; omega, by simp⟩
  | cons s l1 ih =>
    intro N X hG hR l M hl hN
    obtain ⟨N1, g1, g2⟩ := hR
    obtain ⟨l', M1, a1, a2, a3, a4, a5⟩ := conf l N M hG hl hN s N1 g1
    obtain ⟨l2, M', b1, b2, b3, b4, b5⟩ := ih N1 X (Gs_Good hG g1) g2 l' M1 a1 a2
    refine ⟨l2, M', b1, b2, Iso_tr a3 b3, fun t => ?_, by simp only [List.length_cons]; omega⟩
    have h1 := a4 t
    have h2 := b4 t
    rw [ct_cons] at h1 ⊢
    omega
/-- every way to an end is of one length, and of one outcome -/
theorem conf_end {N X M : Nt} {l1 l : List Nat} (hG : Good N) (h1 : Rs l1 N X) (h2 : Nf X) (h3 : Rs l N M) (h4 : Nf M) : Iso M X ∧ (∀ t, ct t l1 = ct t l) ∧ l1.length = l.length := by
  obtain ⟨l2, M', b1, b2, b3, b4, b5⟩ := conf2 l1 N X hG h1 l M h3 h4
  cases l2 with
  | nil =>
    rw [show X = M' from b1]
    exact ⟨b3, fun t => by have := b4 t; rw [ct_nil] at this; omega, by simpa using b5⟩
  | cons s l2 =>
    obtain ⟨N1, g1, -⟩ := b1
    obtain ⟨x, y, kx, ky, fr, h1, -⟩ := g1
    exact absurd h1.2.2 (h2 x y)
theorem conf_len {N X M : Nt} {l1 l : List Nat} (hG : Good N) (h1 : Rs l1 N X) (h3 : Rs l N M) (h4 : Nf M) : l1.length ≤ l.length := by
  obtain ⟨l2, M', b1, b2, b3, b4, b5⟩ := conf2 l1 N X hG h1 l M h3 h4
  omega
