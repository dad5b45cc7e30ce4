/-! the reference's layEnding, layRounds -/
/-- what lasts of the reference: the nets now and kept, and the rows and ints by name -/
def Pk (k : Nat) : Prop := k = 6 ∨ k = 8 ∨ k = 9 ∨ k = 10 ∨ k = 12 ∨ k = 45 ∨ k = 46 ∨ k = 47 ∨ k = 48 ∨ k = 39 ∨ k = 40
def Pv (k : Nat) : Prop := k = 5 ∨ k = 7 ∨ k = 11 ∨ k = 42 ∨ k = 43 ∨ k = 44
def Wk (o o' : Ob) : Prop := (∀ i, i < 360 → oA o' 0 i = oA o 0 i) ∧ (∀ i, i < 1080 → oA o' 1 i = oA o 1 i) ∧ (∀ i, i < 16 → oA o' 2 i = oA o 2 i) ∧ (∀ i, i < 2 → oA o' 3 i = oA o 3 i) ∧ (∀ k, Pk k → oA o' k = oA o k) ∧ (∀ k, Pv k → oV o' k = oV o k) ∧ oL o' 49 = oL o 49
theorem Wk_rf (o : Ob) : Wk o o := ⟨fun _ _ => rfl, fun _ _ => rfl, fun _ _ => rfl, fun _ _ => rfl, fun _ _ => rfl, fun _ _ => rfl, rfl⟩
theorem Wk_tr {o o' o'' : Ob} (h : Wk o o') (h' : Wk o' o'') : Wk o o'' := ⟨fun i hi => (h'.1 i hi).trans (h.1 i hi), fun i hi => (h'.2.1 i hi).trans (h.2.1 i hi), fun i hi => (h'.2.2.1 i hi).trans (h.2.2.1 i hi), fun i hi => (h'.2.2.2.1 i hi).trans (h.2.2.2.1 i hi), fun k hk => (h'.2.2.2.2.1 k hk).trans (h.2.2.2.2.1 k hk), fun k hk => (h'.2.2.2.2.2.1 k hk).trans (h.2.2.2.2.2.1 k hk), h'.2.2.2.2.2.2.trans h.2.2.2.2.2.2⟩
theorem Wk_Fm {b : Nat} {o o' : Ob} (hb : 2 ≤ b) (h : Fm b o o') : Wk o o' := by
  obtain ⟨h0, h1, h2, h3, h4, h5, h6⟩ := h
  refine ⟨fun i hi => h0 i (by omega), fun i hi => h1 i (by omega), fun i hi => h2 i (by omega), fun i hi => h3 i (by omega), fun k hk => h4 k ?_ ?_, fun k _ => h5 k, h6 49⟩
  · unfold Pk at hk; omega
  · unfold Pk at hk; omega
theorem Wk_sA {o : Ob} {k i : Nat} {v : Int32} (hk : 3 < k) (hp : ¬ Pk k) : Wk o (sA o k i v) := by
  have e : ∀ k', k' ≠ k → oA (sA o k i v) k' = oA o k' := fun k' h => by funext j; rw [oA_sA, if_neg (fun z => h z.1)]
  exact ⟨fun _ _ => by rw [e 0 (by omega)], fun _ _ => by rw [e 1 (by omega)], fun _ _ => by rw [e 2 (by omega)], fun _ _ => by rw [e 3 (by omega)], fun k' hk' => e k' (fun z => hp (z ▸ hk')), fun _ _ => rfl, rfl⟩
theorem Wk_sV {o : Ob} {k : Nat} {v : Int32} (hp : ¬ Pv k) : Wk o (sV o k v) := ⟨fun _ _ => rfl, fun _ _ => rfl, fun _ _ => rfl, fun _ _ => rfl, fun _ _ => rfl, fun k' hk' => by rw [oV_sV, if_neg (show ¬ k' = k from fun z => hp (by rw [← z]; exact hk'))], rfl⟩
theorem Sl_Wk {c : Nat} {o o' : Ob} {K : Kd} {w : Wr} {r : Nat} (hc : c < 2) (h : Sl c o K w r) (hw : Wk o o') : Sl c o' K w r := by
  obtain ⟨f0, f1, f2, f3, -⟩ := hw
  refine ⟨⟨fun n hn => ?_, h.1.2⟩, ⟨fun p q hp => ?_, fun i hi hp => ?_⟩, ?_⟩
  · rw [f0 _ (by omega)]; exact h.1.1 n hn
  · obtain ⟨a, b', d⟩ := h.2.1.1 p q hp
    refine ⟨a, b', ?_⟩
    rw [← d]
    unfold ma
    rcases a with ⟨a1, a2⟩ | ⟨a1, a2⟩
    · rw [if_neg (by omega), if_neg (by omega)]
      exact f1 _ (by omega)
    · rw [if_pos a1, if_pos a1]
      exact f2 _ (by omega)
  · rw [f2 _ (by omega)]; exact h.2.1.2 i hi hp
  · rw [f3 c hc]; exact h.2.2
/-- how many nodes are left behind steps -/
theorem Gs_cnt {N N' : Nt} {s : Nat} (hG : Good N) (h : Gs N s N') : ∃ B, ∀ n, B ≤ n → cnt N'.1 n + (if s = 1 then 2 else 0) = cnt N.1 n + (if s = 2 then 2 else 0) := by
  obtain ⟨x, y, kx, ky, fr, hr, hf, e, hs⟩ := h
  have hxy := Redex_ne hG hr
  refine ⟨x + y + fr 0 + fr 1 + fr 2 + fr 3 + 1, fun n hn => ?_⟩
  rw [e, hs]
  show cnt (kus (kl kx ky x y fr) N.1) n + _ = _
  have hc1 := cnt_del (K := N.1) (x := x) (by rw [hr.1]; exact fun z => by cases z) (n := n) (by omega)
  have hyK1 : ku N.1 x none y = some ky := by
    unfold ku
    rw [if_neg (fun z => hxy z.symm)]
    exact hr.2.1
  have hc2 := cnt_del (K := ku N.1 x none) (x := y) (by rw [hyK1]; exact fun z => by cases z) (n := n) (by omega)
  have q0 : cnt (K00 N.1 x y) n + 2 = cnt N.1 n := by
    show cnt (ku (ku N.1 x none) y none) n + 2 = cnt N.1 n
    omega
  have d01 := hf.2 0 1 (by omega) (by omega) (by omega)
  have d02 := hf.2 0 2 (by omega) (by omega) (by omega)
  have d03 := hf.2 0 3 (by omega) (by omega) (by omega)
  have d12 := hf.2 1 2 (by omega) (by omega) (by omega)
  have d13 := hf.2 1 3 (by omega) (by omega) (by omega)
  have d23 := hf.2 2 3 (by omega) (by omega) (by omega)
  have k0 := hf.1 0 (by omega)
  have k1 := hf.1 1 (by omega)
  have k2 := hf.1 2 (by omega)
  have k3 := hf.1 3 (by omega)
  unfold kl sortS
  by_cases c1 : kx = ky
  · rw [if_pos c1, if_pos c1, if_pos rfl, if_neg (by omega)]
    show cnt (K00 N.1 x y) n + 2 = _
    omega
  · rw [if_neg c1, if_neg c1]
    by_cases c2 : kx = 0 ∨ ky = 0
    · rw [if_pos c2, if_pos c2, if_neg (by omega), if_neg (by omega)]
      show cnt (ku (ku (K00 N.1 x y) (fr 0) (some 0)) (fr 1) (some 0)) n + 0 = _
      have e1 := cnt_add (n := n) (K := K00 N.1 x y) (x := fr 0) (k := 0) k0 (by omega)
      have e2 := cnt_add (n := n) (K := ku (K00 N.1 x y) (fr 0) (some 0)) (x := fr 1) (k := 0) (by unfold ku; rw [if_neg d01.symm]; exact k1) (by omega)
      omega
    · rw [if_neg c2, if_neg c2, if_neg (by omega), if_pos rfl]
      show cnt (ku (ku (ku (ku (K00 N.1 x y) (fr 0) (some kx)) (fr 1) (some kx)) (fr 2) (some ky)) (fr 3) (some ky)) n + 0 = _
      have e1 := cnt_add (n := n) (K := K00 N.1 x y) (x := fr 0) (k := kx) k0 (by omega)
      have e2 := cnt_add (n := n) (K := ku (K00 N.1 x y) (fr 0) (some kx)) (x := fr 1) (k := kx) (by unfold ku; rw [if_neg d01.symm]; exact k1) (by omega)
      have e3 := cnt_add (n := n) (K := ku (ku (K00 N.1 x y) (fr 0) (some kx)) (fr 1) (some kx)) (x := fr 2) (k := ky) (by unfold ku; rw [if_neg d12.symm, if_neg d02.symm]; exact k2) (by omega)
      have e4 := cnt_add (n := n) (K := ku (ku (ku (K00 N.1 x y) (fr 0) (some kx)) (fr 1) (some kx)) (fr 2) (some ky)) (x := fr 3) (k := ky) (by unfold ku; rw [if_neg d23.symm, if_neg d13.symm, if_neg d03.symm]; exact k3) (by omega)
      omega
theorem Rs_cnt : ∀ (l : List Nat) (N M : Nt), Good N → Rs l N M → ∃ B, ∀ n, B ≤ n → cnt M.1 n + 2 * ct 1 l = cnt N.1 n + 2 * ct 2 l := by
  intro l
  induction l with
  | nil => intro N M _ h; exact ⟨0, fun n _ => by rw [show N = M from h, ct_nil, ct_nil]⟩
  | cons s l ih =>
    intro N M hG h
    obtain ⟨N1, g1, g2⟩ := h
    obtain ⟨B1, h1⟩ := Gs_cnt hG g1
    obtain ⟨B2, h2⟩ := ih N1 M (Gs_Good hG g1) g2
    refine ⟨B1 + B2, fun n hn => ?_⟩
    have a1 := h1 n (by omega)
    have a2 := h2 n (by omega)
    rw [ct_cons, ct_cons]
    by_cases c1 : s = 1
    · rw [if_pos c1] at a1 ⊢
      rw [if_neg (by omega)] at a1
      rw [if_neg (by omega)]
      omega
    · rw [if_neg c1] at a1 ⊢
      by_cases c2 : s = 2
      · rw [if_pos c2] at a1 ⊢; omega
      · rw [if_neg c2] at a1 ⊢; omega
theorem Rs_cnt180 {l : List Nat} {N M : Nt} (hG : Good N) (h : Rs l N M) (h1 : ∀ m, 180 ≤ m → N.1 m = none) (h2 : ∀ m, 180 ≤ m → M.1 m = none) : cnt M.1 180 + 2 * ct 1 l = cnt N.1 180 + 2 * ct 2 l := by
  obtain ⟨B, hB⟩ := Rs_cnt l N M hG h
  have := hB (B + 180) (by omega)
  rw [cnt_ext (by omega) h1, cnt_ext (by omega) h2] at this
  exact this
section LE
variable {N0 : Nt}
theorem MS_bd {b : Nat} {o : Ob} {K : Kd} {w : Wr} {r : Nat} (h : MS b o K w r) : ∀ m, 180 ≤ m → K m = none := h.2.1.2.1
theorem head_get {l : List Nat} (h : l ≠ []) : ∃ x, l[0]? = some x ∧ x ∈ l := by
  cases l with
  | nil => exact absurd rfl h
  | cons x l => exact ⟨x, rfl, List.mem_cons_self ..⟩
theorem m_endLoop (hG0 : Good N0) (E : Ob → Option (Int32 × Ob)) : ∀ (d f : Nat) (o : Ob) (N : Nt) (l : List Nat), l.length + d = 60 → d < f → Good N → Rs l N0 N → MS 2 o N.1 N.2.1 N.2.2 → (∀ j, j < 4 → oA o 30 j = jI (dnc l j)) → cnt N.1 180 ≤ 60 + 2 * l.length → ∃ o' N' l', LX7_layEnding_31 E f o = E o' ∧ Good N' ∧ Rs l' N0 N' ∧ l'.length ≤ 60 ∧ MS 2 o' N'.1 N'.2.1 N'.2.2 ∧ (∀ j, j < 4 → oA o' 30 j = jI (dnc l' j)) ∧ (l'.length = 60 ∨ mtn 180 N' = []) ∧ Wk o o' := by
  intro d
  induction d with
  | zero =>
    intro f o N l hl hf hG hR hM hd hc
    obtain ⟨f, rfl⟩ : ∃ f', f = f' + 1 := ⟨f - 1, by omega⟩
    have d0 : oA o 30 0 = jI l.length := by rw [hd 0 (by omega)]; rfl
    have z0 : (0 : Int32).toNatClampNeg = 0 := rfl
    refine ⟨o, N, l, ?_, hG, hR, by omega, hM, hd, Or.inl (by omega), Wk_rf o⟩
    rw [LX7_layEnding_31.eq_2, z0, d0, if_pos (by rw [j_60, jI_le (by omega) (by omega) (by omega) (by omega)]; omega)]
  | succ d ih =>
    intro f o N l hl hf hG hR hM hd hc
    obtain ⟨f, rfl⟩ : ∃ f', f = f' + 1 := ⟨f - 1, by omega⟩
    have d0 : oA o 30 0 = jI l.length := by rw [hd 0 (by omega)]; rfl
    have z0 : (0 : Int32).toNatClampNeg = 0 := rfl
    have hlen := mtg_len N.1 N.2.1 180 0
    rw [LX7_layEnding_31.eq_2, z0, d0, if_neg (by rw [j_60, jI_le (by omega) (by omega) (by omega) (by omega)]; omega), MS_meetingsNow (by omega) hM hG.1, b1_some]
    by_cases c0 : mtg N.1 N.2.1 180 0 = []
    · rw [c0, if_pos (by decide)]
      exact ⟨o, N, l, rfl, hG, hR, by omega, hM, hd, Or.inr c0, Wk_rf o⟩
    · have hpos : 0 < (mtg N.1 N.2.1 180 0).length := List.length_pos_iff.mpr c0
      obtain ⟨x, hx, hxm⟩ := head_get c0
      obtain ⟨y, kx, ky, hr, -⟩ := (mtn_Pend (n := 180) hG).1 x hxm
      obtain ⟨N1, hP⟩ := Perf_ex hG x y kx ky
      have hG1 := Perf_Good hG hr hP
      obtain ⟨o1, e1, m1, f1⟩ := MS_meetNow (b := 2) (by omega) hM hG.1 hr.1 hr.2.1 hr.2.2 hP (fun _ => by omega)
      have hs := sortS_in kx ky
      have hcnt := Perf_cnt hG.1 hr.1 hr.2.1 hr.2.2 hP (MS_bd hM) (MS_bd m1)
      have hle : cnt N1.1 180 ≤ cnt N.1 180 + 2 := by
        by_cases c : sortS kx ky = 2
        · rw [if_pos c] at hcnt; omega
        · rw [if_neg c] at hcnt; omega
      have r30 : oA o1 30 = oA o 30 := f1.2.2.2.2.1 30 (by omega) (by omega)
      have sc : (jI (sortS kx ky : Int)).toNatClampNeg = sortS kx ky := by rw [jI_cl (by omega) (by omega), Int.toNat_natCast]
      let o2 := sA o1 30 (sortS kx ky) (oA o1 30 (sortS kx ky) + 1)
      let o3 := sA o2 30 0 (oA o2 30 0 + 1)
      have np : ¬ Pk 30 := by unfold Pk; omega
      have w3 : Wk o o3 := Wk_tr (Wk_tr (Wk_Fm (by omega) f1) (Wk_sA (by omega) np)) (Wk_sA (by omega) np)
      have m3 : MS 2 o3 N1.1 N1.2.1 N1.2.2 := MS_sc (MS_sc m1 (by omega)) (by omega)
      have d3 : ∀ j, j < 4 → oA o3 30 j = jI (dnc (l ++ [sortS kx ky]) j) := by
        intro j hj
        show oA (sA (sA o1 30 (sortS kx ky) (oA o1 30 (sortS kx ky) + 1)) 30 0 (oA (sA o1 30 (sortS kx ky) (oA o1 30 (sortS kx ky) + 1)) 30 0 + 1)) 30 j = _
        rw [dnc_app, oA_sA]
        by_cases c1 : j = 0
        · rw [if_pos ⟨rfl, c1⟩, oA_sA, if_neg (by omega), r30, hd 0 (by omega), jI_p1, c1]
          rfl
        · rw [if_neg (fun z => c1 z.2), oA_sA]
          by_cases c2 : j = sortS kx ky
          · rw [if_pos ⟨rfl, c2⟩, r30, hd _ (by omega), jI_p1, c2]
            congr 2
            show _ + 1 = _ + dnc [sortS kx ky] (sortS kx ky)
            unfold dnc
            rw [if_neg (by omega), if_neg (by omega), ct_cons, if_pos rfl, ct_nil]
          · rw [if_neg (fun z => c2 z.2), r30, hd j hj]
            congr 2
            show _ = _ + dnc [sortS kx ky] j
            unfold dnc
            rw [if_neg c1, if_neg c1, ct_cons, if_neg (fun z => c2 z.symm), ct_nil]
            rfl
      have la : (l ++ [sortS kx ky]).length = l.length + 1 := by simp
      obtain ⟨o', N', l', q1, q2, q3, q4, q5, q6, q7, q8⟩ := ih f o3 N1 (l ++ [sortS kx ky]) (by omega) (by omega) hG1 (Rs_app _ _ _ _ _ hR ⟨N1, Perf_is hG hr hP, rfl⟩) m3 d3 (by omega)
      refine ⟨o', N', l', ?_, q2, q3, q4, q5, q6, q7, Wk_tr w3 q8⟩
      rw [if_neg (by rw [j_0, jI_le (by omega) (by omega) (by omega) (by omega)]; omega)]
      have ma0 := MS_meetingAt (b := 2) (by omega) hM hG.1 0 (by omega)
      rw [hx] at ma0
      simp only at ma0
      rw [show (0 : Int32) = jI ((0 : Nat) : Int) from rfl, ma0, b1_some, e1, b2_some, if_pos (by rw [jI_inb (by omega) (by omega)]; omega), lT_eq, lT_eq, sc]
      exact q1
theorem m_zero30 (E : Ob → Option (Int32 × Ob)) (o : Ob) : ∃ o', LX7_layEnding_13 E fu 0 o = E o' ∧ (∀ j, j < 4 → oA o' 30 j = 0) ∧ (∀ k, k ≠ 30 → oA o' k = oA o k) ∧ (∀ k, oV o' k = oV o k) ∧ ∀ k, oL o' k = oL o k := by
  have st : ∀ (k f : Nat) (u : Ob), k < 4 → LX7_layEnding_13 E (f + 1) (jI k) u = LX7_layEnding_13 E f (jI ((k + 1 : Nat))) (sA u 30 k 0) := by
    intro k f u hk
    have kc : (jI (k : Int)).toNatClampNeg = k := by rw [jI_cl (by omega) (by omega), Int.toNat_natCast]
    rw [LX7_layEnding_13.eq_2, if_neg (by rw [j_4, jI_le (by omega) (by omega) (by omega) (by omega)]; omega), if_pos (by rw [jI_inb (by omega) (by omega)]; omega), lT_eq, lT_eq, jI_p1, kc]
  refine ⟨sA (sA (sA (sA o 30 0 0) 30 1 0) 30 2 0) 30 3 0, ?_, fun j hj => ?_, fun k hk => ?_, fun _ => rfl, fun _ => rfl⟩
  · rw [show (0 : Int32) = jI ((0 : Nat) : Int) from rfl, show fu = 4995 + 1 + 1 + 1 + 1 + 1 from rfl, st 0 _ _ (by omega), st 1 _ _ (by omega), st 2 _ _ (by omega), st 3 _ _ (by omega), LX7_layEnding_13.eq_2, if_pos (by rw [j_4, jI_le (by omega) (by omega) (by omega) (by omega)]; omega)]
    rfl
  · rw [oA_sA, oA_sA, oA_sA, oA_sA]
    rcases (show j = 0 ∨ j = 1 ∨ j = 2 ∨ j = 3 by omega) with rfl | rfl | rfl | rfl <;> simp
  · funext j
    rw [oA_sA, if_neg (fun z => hk z.1), oA_sA, if_neg (fun z => hk z.1), oA_sA, if_neg (fun z => hk z.1), oA_sA, if_neg (fun z => hk z.1)]
theorem Sl_o {b : Nat} {o o' : Ob} {K : Kd} {w : Wr} {r : Nat} (h : Sl b o K w r) (h0 : oA o' 0 = oA o 0) (h1 : oA o' 1 = oA o 1) (h2 : oA o' 2 = oA o 2) (h3 : oA o' 3 = oA o 3) : Sl b o' K w r := by
  refine ⟨⟨fun n hn => by rw [h0]; exact h.1.1 n hn, h.1.2⟩, ⟨fun p q hp => ?_, fun i hi hp => by rw [h2]; exact h.2.1.2 i hi hp⟩, by rw [h3]; exact h.2.2⟩
  have : ma b o' p = ma b o p := by unfold ma; rw [h1, h2]
  rw [this]
  exact h.2.1.1 p q hp
theorem m_layEnding (hG0 : Good N0) {o : Ob} {b : Nat} (hb : b < 2) (hS : Sl b o N0.1 N0.2.1 N0.2.2) (hc : cnt N0.1 180 ≤ 60) : (∃ o' l M, FX7_layEnding (jI b) o = some (1, o') ∧ Good M ∧ Rs l N0 M ∧ Nf M ∧ l.length ≤ 60 ∧ Sl 2 o' M.1 M.2.1 M.2.2 ∧ oV o' 4 = 0 ∧ (∀ j, j < 4 → oA o' 30 j = jI (dnc l j)) ∧ Wk o o') ∨ (∃ o', FX7_layEnding (jI b) o = some (0, o') ∧ oV o' 4 = 0 ∧ Wk o o' ∧ ∀ l' M, Rs l' N0 M → Nf M → 60 < l'.length) := by
  obtain ⟨o1, e1, s1, f1, k1⟩ := Sl_copy (t := 2) (f := b) (by omega) (by omega) (by omega) hS
  obtain ⟨o2, e2, z2, k2, v2, lg2⟩ := m_zero30 (fun o0_11 => LX7_layEnding_31 (fun o0_26 => BX7_layEnding_80 o0_26) fu o0_11) (sV o1 4 2)
  have s2 : Sl 2 o2 N0.1 N0.2.1 N0.2.2 := Sl_o s1 (k2 0 (by omega)) (k2 1 (by omega)) (k2 2 (by omega)) (k2 3 (by omega))
  have m2 : MS 2 o2 N0.1 N0.2.1 N0.2.2 := ⟨by rw [v2, oV_sV, if_pos rfl]; rfl, s2⟩
  have np : ¬ Pk 30 := by unfold Pk; omega
  have nv : ¬ Pv 4 := by unfold Pv; omega
  have w2 : Wk o o2 := by
    refine Wk_tr (Wk_Fm (by omega) f1) ?_
    refine ⟨fun _ _ => by rw [k2 0 (by omega)]; rfl, fun _ _ => by rw [k2 1 (by omega)]; rfl, fun _ _ => by rw [k2 2 (by omega)]; rfl, fun _ _ => by rw [k2 3 (by omega)]; rfl, fun k hk => by rw [k2 k (fun z => np (z ▸ hk))]; rfl, fun k hk => by rw [v2 k, oV_sV, if_neg (show ¬ k = 4 from fun z => nv (by rw [← z]; exact hk))], by rw [lg2]; rfl⟩
  obtain ⟨o3, N', l', q1, q2, q3, q4, q5, q6, q7, q8⟩ := m_endLoop hG0 (fun o0_26 => BX7_layEnding_80 o0_26) 60 fu o2 N0 [] (by simp) (by rw [fu_eq]; omega) hG0 rfl m2 (fun j hj => by
    rw [z2 j hj]
    unfold dnc
    split <;> rfl) (by simpa using hc)
  have w3 : Wk o (sV o3 4 0) := Wk_tr (Wk_tr w2 q8) (Wk_sV nv)
  have hlen := mtg_len N'.1 N'.2.1 180 0
  have unf : FX7_layEnding (jI b) o = BX7_layEnding_80 o3 := by
    unfold FX7_layEnding
    rw [show (2 : Int32) = jI ((2 : Nat) : Int) from rfl, e1, b1_some, lT_eq]
    exact e2.trans q1
  rw [unf]
  unfold BX7_layEnding_80
  rw [MS_meetingsNow (by omega) q5 q2.1, b1_some]
  by_cases c0 : mtg N'.1 N'.2.1 180 0 = []
  · left
    rw [c0, if_pos (by rfl), lT_eq]
    exact ⟨_, l', N', rfl, q2, q3, mtn_Nf (n := 180) q2 (MS_bd q5) c0, q4, q5.2, rfl, q6, w3⟩
  · right
    have hpos : 0 < (mtg N'.1 N'.2.1 180 0).length := List.length_pos_iff.mpr c0
    rw [if_neg (by rw [j_0, jI_eq (by omega) (by omega) (by omega) (by omega)]; omega), lT_eq]
    refine ⟨_, rfl, rfl, w3, fun l1 M h1 h2 => ?_⟩
    rcases q7 with q7 | q7
    · obtain ⟨x, hx, hxm⟩ := head_get c0
      obtain ⟨y, kx, ky, hr, -⟩ := (mtn_Pend (n := 180) q2).1 x hxm
      obtain ⟨N1, hP⟩ := Perf_ex q2 x y kx ky
      have r1 : Rs [sortS kx ky] N' N1 := ⟨N1, Perf_is q2 hr hP, rfl⟩
      have := conf_len hG0 (Rs_app _ _ _ _ _ q3 r1) h1 h2
      rw [List.length_append] at this
      simp only [List.length_cons, List.length_nil] at this
      omega
    · exact absurd q7 c0
end LE
