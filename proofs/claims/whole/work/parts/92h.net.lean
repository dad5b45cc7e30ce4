/-! rings; a net laid, in both -/
def pr (i : Nat) : Port := (if i % 2 = 0 then i / 2 else 8 + i / 2, 3)
theorem pr_ix {i : Nat} (h : i < 16) : ixn (pr i).1 = i ∧ lt (pr i) = i / 2 ∧ (pr i).1 < 16 := by
  unfold ixn lt pr
  simp only
  by_cases c : i % 2 = 0
  · simp only [if_pos c]; rw [if_pos (by omega), if_pos (by omega)]; omega
  · simp only [if_neg c]; rw [if_neg (by omega), if_neg (by omega)]; omega
theorem i_half : ∀ i : Nat, i < 16 → jI i / (2 : Int32) = jI ((i / 2 : Nat)) := by decide +kernel
section RG
variable {u : Nat → Nat} {w : Wr} {n : Nat} {K : Kd}
def R3 (o o' : Ob) : Prop := (∀ k, k ≠ 29 → k ≠ 3 → oA o' k = oA o k) ∧ (∀ i, i ≠ 0 → oA o' 3 i = oA o 3 i) ∧ ∀ k, oV o' k = oV o k
theorem R3_rf (o : Ob) : R3 o o := ⟨fun _ _ _ => rfl, fun _ _ => rfl, fun _ => rfl⟩
theorem R3_tr {o o' o'' : Ob} (h : R3 o o') (h' : R3 o' o'') : R3 o o'' := ⟨fun k a b => (h'.1 k a b).trans (h.1 k a b), fun i a => (h'.2.1 i a).trans (h.2.1 i a), fun k => (h'.2.2 k).trans (h.2.2 k)⟩
theorem R3_D {o o' : Ob} (h : D29 o o') : R3 o o' := ⟨fun k a _ => h.1 k a, fun i _ => by rw [h.1 3 (by omega)], h.2⟩
theorem m_ring (hO : Occ n u K w) {S : List Nat} (hI : I0 u w S) (hc : ∀ x, isL2 u x → lt x ∉ S → ∀ q, w x = some q → isL2 u q) {e0 : Port} (he0 : isL2 u e0) (hn : lt e0 ∉ S) {o : Ob} (hR : RawOk u w o) (hM : MkR u (oA o 29) (fun i => i ∈ S)) (h3 : oA o 3 0 = jI (Fz w S).2) : ∃ o' S', FX7_ring (jI (ixn e0.1)) o = some o' ∧ R3 o o' ∧ I0 u w S' ∧ oA o' 3 0 = jI (Fz w S').2 ∧ MkR u (oA o' 29) (fun i => i ∈ S') ∧ (∀ i, i ∈ S → i ∈ S') ∧ lt e0 ∈ S' := by
  have hU := Occ_HU hO
  obtain ⟨m1, m2, m3, m4⟩ := L2_mate he0
  have mk := (hM e0 he0).2 hn
  have hwm : w (mate e0) ≠ none := by
    rcases (L2_or m1).2 with a | a
    · rw [a.1]; exact (hU.2 _ (L2_or m1).1 m1.2.2).1
    · rw [a.1]; exact (hU.2 _ (L2_or m1).1 m1.2.2).2
  obtain ⟨q, hq⟩ := some_of hwm
  have hqL := hc (mate e0) m1 (by rw [m2]; exact hn) q hq
  have ixl := ixn_lt he0.2.1
  have ixm := ixn_lt m1.2.1
  have em : rp (mate e0) = 540 + ixn (mate e0).1 := ix_rp rfl
  have ex := ix_xor e0.1 he0.2.1
  rw [show (if e0.1 < 8 then 8 + e0.1 else e0.1 - 8) = (mate e0).1 from rfl] at ex
  let o1 := sA (sA o 29 (ixn e0.1) 1) 29 (ixn (mate e0).1) 1
  have d1 : D29 o o1 := ⟨fun k hk => by show oA (sA (sA o 29 _ _) 29 _ _) k = _; rw [sA_ne _ _ _ hk, sA_ne _ _ _ hk], fun _ => rfl⟩
  have hraw : oA o1 23 (540 + ixn (mate e0).1) = jI (rp q) := by rw [d1.1 23 (by omega), ← em]; exact hR.1 _ _ hq
  have hlen := nodup_lt 8 S hI.1.1 (fun i hi => (hI.1.2 i hi).1)
  obtain ⟨o2, S', t1, t2, t3, t4, t5, t6, t7⟩ := m_ringLoop hO he0 (fun o0_11 => lT (sA o0_11 3 (0 : Int32).toNatClampNeg ((oA o0_11 3 (0 : Int32).toNatClampNeg) + (1 : Int32))) fun o0_13 => some o0_13) hc (8 - S.length) S q 4999 o1 (by omega) (by omega) hI.1 (fun i hi => hi) hn (by rw [hI.2 _ m1 (by rw [m2]; exact hn)]; exact hq) hqL (fun x hx hxs _ _ => hI.2 x hx hxs) (RawOk_D hR d1) (MkR_mark hM he0 (fun j => by show oA (sA (sA o 29 _ _) 29 _ _) 29 j = _; rw [sA_rw, sA_rw]) (fun i => Iff.rfl))
  have d2 := D29_tr d1 t2
  refine ⟨sA o2 3 0 (jI (Fz w S').2), S', ?_, R3_tr (R3_D d2) ⟨fun k a b => sA_ne _ _ _ b, fun i hi => by rw [sA_rw, if_neg hi], fun _ => rfl⟩, t3, by rw [sA_rw, if_pos rfl], by rw [sA_ne _ _ _ (by omega)]; exact t5, t6, t7⟩
  unfold FX7_ring
  rw [show fu = 4999 + 1 from rfl, LX7_ring_2.eq_2, if_pos (by rw [jI_inb (by omega) (by omega)]; omega), jc _ (by omega), mk, if_pos rfl, lT_eq, ex, nar1, if_pos (by rw [jI_inb (by omega) (by omega)]; omega), lT_eq, jc _ (by omega), show (540 : Int32) + jI (ixn (mate e0).1 : Int) = jI ((540 + ixn (mate e0).1 : Nat)) from by rw [j_540, jI_add]; rfl, if_pos (by rw [jI_inb (by omega) (by omega)]; omega), lT_eq, jc _ (by omega)]
  show LX7_ring_2 _ 4999 (oA o1 23 (540 + ixn (mate e0).1) - 540) o1 = _
  rw [hraw, ix_rp hqL.1, show jI ((540 + ixn q.1 : Nat) : Int) - (540 : Int32) = jI (ixn q.1) from by rw [j_540, jI_sub]; congr 1; omega]
  refine t1.trans ?_
  rw [lT_eq, show (0 : Int32).toNatClampNeg = 0 from rfl, d2.1 3 (by omega), h3, jI_p1, t4]
theorem m_lay163 (hO : Occ n u K w) : ∀ (e i F : Nat) (o : Ob) (S : List Nat), i + e = 16 → e < F → RawOk u w o → MkR u (oA o 29) (fun i => i ∈ S) → I0 u w S → (∀ x, isL2 u x → lt x ∉ S → ∀ q, w x = some q → isL2 u q) → oA o 3 0 = jI (Fz w S).2 → (∀ j, 2 * j < i → u j = 2 → j ∈ S) → ∃ o' S', LX7_layNet_163 F (jI i) o = some o' ∧ R3 o o' ∧ I0 u w S' ∧ oA o' 3 0 = jI (Fz w S').2 ∧ ∀ j, j < 8 → u j = 2 → j ∈ S' := by
  intro e
  induction e with
  | zero =>
    intro i F o S hi hF hR hM hI hc h3 hd
    obtain ⟨F, rfl⟩ : ∃ f', F = f' + 1 := ⟨F - 1, by omega⟩
    exact ⟨o, S, by rw [LX7_layNet_163.eq_2, if_pos (by rw [j_16, jI_le (by omega) (by omega) (by omega) (by omega)]; omega)], R3_rf o, hI, h3, fun j hj hu => hd j (by omega) hu⟩
  | succ e ih =>
    intro i F o S hi hF hR hM hI hc h3 hd
    obtain ⟨F, rfl⟩ : ∃ f', F = f' + 1 := ⟨F - 1, by omega⟩
    have hu2 := hO.2.2.1 (i / 2) (by omega)
    rw [LX7_layNet_163.eq_2, if_neg (by rw [j_16, jI_le (by omega) (by omega) (by omega) (by omega)]; omega), i_half i (by omega), if_pos (by rw [jI_inb (by omega) (by omega)]; omega), jc _ (by omega), hR.2 (i / 2) (by omega)]
    by_cases c2 : u (i / 2) = 2
    · obtain ⟨p1, p2, p3⟩ := pr_ix (show i < 16 by omega)
      have hL : isL2 u (pr i) := ⟨rfl, p3, by rw [p2]; exact c2⟩
      rw [if_pos (by rw [c2]; rfl), if_pos (by rw [jI_inb (by omega) (by omega)]; omega), jc _ (by omega)]
      by_cases cs : i / 2 ∈ S
      · have mk := (hM _ hL).1 (show lt (pr i) ∈ S by rw [p2]; exact cs)
        rw [p1] at mk
        rw [mk, if_neg (by decide), lT_eq, jI_p1]
        exact ih (i + 1) F o S (by omega) (by omega) hR hM hI hc h3 (fun j hj hu => by
          by_cases cj : j = i / 2
          · rw [cj]; exact cs
          · exact hd j (by omega) hu)
      · have mk := (hM _ hL).2 (show ¬ lt (pr i) ∈ S by rw [p2]; exact cs)
        rw [p1] at mk
        obtain ⟨o1, S1, t1, t2, t3, t4, t5, t6, t7⟩ := m_ring hO hI hc hL (by rw [p2]; exact cs) hR hM h3
        rw [p1] at t1
        rw [p2] at t7
        obtain ⟨o', S', q1, q2, q3⟩ := ih (i + 1) F o1 S1 (by omega) (by omega) ⟨fun p q hp => by rw [t2.1 23 (by omega) (by omega)]; exact hR.1 p q hp, by rw [PU, t2.1 24 (by omega) (by omega)]; exact hR.2⟩ t5 t3 (fun x hx hxs => hc x hx (fun z => hxs (t6 _ z))) t4 (fun j hj hu => by
          by_cases cj : j = i / 2
          · rw [cj]; exact t7
          · exact t6 _ (hd j (by omega) hu))
        refine ⟨o', S', ?_, R3_tr t2 q2, q3⟩
        rw [mk, if_pos rfl, t1, b1_some, lT_eq, jI_p1]
        exact q1
    · rw [if_neg (by rw [j_2, jI_eq (by omega) (by omega) (by omega) (by omega)]; omega), lT_eq, jI_p1]
      exact ih (i + 1) F o S (by omega) (by omega) hR hM hI hc h3 (fun j hj hu => by
        by_cases cj : j = i / 2
        · rw [cj] at hu; exact absurd hu c2
        · exact hd j (by omega) hu)
theorem m_met0 (E : Ob → Option Ob) : ∀ (e i F : Nat) (o : Ob), i + e = 16 → e < F → ∃ o', LX7_layNet_11 E F (jI i) o = E o' ∧ (∀ j, i ≤ j → j < 16 → oA o' 29 j = 0) ∧ (∀ j, j < i → oA o' 29 j = oA o 29 j) ∧ D29 o o' := by
  intro e
  induction e with
  | zero =>
    intro i F o hi hF
    obtain ⟨F, rfl⟩ : ∃ f', F = f' + 1 := ⟨F - 1, by omega⟩
    exact ⟨o, by rw [LX7_layNet_11.eq_2, j_16, if_pos (by rw [jI_le (by omega) (by omega) (by omega) (by omega)]; omega)], fun j h1 h2 => by omega, fun _ _ => rfl, D29_rf o⟩
  | succ e ih =>
    intro i F o hi hF
    obtain ⟨F, rfl⟩ : ∃ f', F = f' + 1 := ⟨F - 1, by omega⟩
    obtain ⟨o', q1, q2, q3, q4⟩ := ih (i + 1) F (sA o 29 i 0) (by omega) (by omega)
    refine ⟨o', ?_, fun j h1 h2 => ?_, fun j h1 => ?_, D29_tr ⟨fun k hk => sA_ne _ _ _ hk, fun _ => rfl⟩ q4⟩
    · rw [LX7_layNet_11.eq_2, j_16, if_neg (by rw [jI_le (by omega) (by omega) (by omega) (by omega)]; omega), if_pos (by rw [jI_inb (by omega) (by omega)]; omega), lT_eq, lT_eq, nar0, jI_p1, jc _ (by omega)]
      exact q1
    · by_cases c : j = i
      · rw [q3 j (by omega), sA_rw, if_pos c]
      · exact q2 j (by omega) h2
    · rw [q3 j (by omega), sA_rw, if_neg (by omega)]
theorem m_layNet (hO : Occ n u K w) {o : Ob} (hR : RawOk u w o) (h22 : ∀ m k, K m = some k → oA o 22 m = jI k) (h21 : oV o 21 = jI n) : ∃ o', FX7_layNet o = some o' ∧ Sl 0 o' K (Fz w (lk u 8)).1 (Fz w (lk u 8)).2 ∧ oV o' 4 = 0 ∧ FN (sV o 4 0) o' := by
  have hU := Occ_HU hO
  obtain ⟨o1, e1, r0, r1, r2, r3, fm, k1⟩ := m_empty (b := 0) (by omega) (o := sV o 4 0) rfl
  obtain ⟨o2, e2, z2, -, d2⟩ := m_met0 (fun o0_11 => LX7_layNet_32 (fun o0_34 => LX7_layNet_108 (fun o0_52 => LX7_layNet_163 fu (0 : Int32) o0_52) fu (0 : Int32) o0_34) fu (0 : Int32) o0_11) 16 0 fu o1 (by omega) (by rw [fu_eq]; omega)
  have f2 : FN (sV o 4 0) o2 := FN_tr (o' := o1) ⟨fun i hi => fm.1 i (by omega), fun i hi => fm.2.1 i (by omega), fun i hi => fm.2.2.1 i (by omega), fun i hi => fm.2.2.2.1 i hi, fun k hk _ => k1 k hk, fm.2.2.2.2.2.1⟩ (FN_D d2)
  have hb : Base n u K w o2 [] := by
    refine ⟨⟨fun p q hp => ?_, ?_⟩, fun m k hm => ?_, ?_, fun x hx => ⟨fun z => (by cases z), fun _ => z2 _ (by omega) (ixn_lt hx.2.1)⟩, ⟨List.nodup_nil, fun i hi => by cases hi⟩, fun x _ _ => rfl⟩
    · rw [f2.2.2.2.2.1 23 (by omega) (by omega)]; exact hR.1 p q hp
    · rw [PU, f2.2.2.2.2.1 24 (by omega) (by omega)]; exact hR.2
    · rw [f2.2.2.2.2.1 22 (by omega) (by omega)]; exact h22 m k hm
    · rw [f2.2.2.2.2.2 21]; exact h21
  have hl : LN n u K w 0 0 0 o2 [] := by
    refine ⟨hb, rfl, fun j hj => ?_, fun p t hp => ?_, fun p q hp => ?_, fun i hi => ?_, ?_⟩
    · rw [if_neg (by omega), d2.1 0 (by omega)]
      have := r0 j hj
      rw [Nat.mul_zero, Nat.zero_add] at this
      exact this
    · have := hp.2; omega
    · have := hp.2; omega
    · rw [d2.1 2 (by omega)]
      have := r2 i hi
      rw [Nat.mul_zero, Nat.zero_add] at this
      exact this
    · rw [d2.1 3 (by omega)]; exact r3
  have hn60 := hO.2.2.2.1
  obtain ⟨o3, S3, e3, l3, f3⟩ := m_lay32 hO (fun o0_34 => LX7_layNet_108 (fun o0_52 => LX7_layNet_163 fu (0 : Int32) o0_52) fu (0 : Int32) o0_34) n 0 fu o2 [] (by omega) (by rw [fu_eq]; omega) hl
  obtain ⟨o4, S4, e4, l4, f4⟩ := m_lay108 hO (fun o0_52 => LX7_layNet_163 fu (0 : Int32) o0_52) 8 0 fu o3 S3 (by omega) (by rw [fu_eq]; omega) (LO_of hO l3)
  obtain ⟨hB, hz, hk, hlk, hcm, ho, ho2, hco, hr⟩ := l4
  obtain ⟨o5, S5, e5, r5, i5, g5, a5⟩ := m_lay163 hO 16 0 fu o4 S4 (by omega) (by rw [fu_eq]; omega) hB.1 hB.2.2.2.1 hB.2.2.2.2 (fun x hx hxs q hq => by
    by_cases c : isL2 u q
    · exact c
    · exfalso
      have hqx := (hO.2.1 _ _ hq).1
      rcases Occ_end hO (show w q ≠ none by rw [hqx]; exact fun z => by cases z) c with a | a
      · exact hxs (hcm q x a.1 hqx hx)
      · have eq : q = (q.1, 3) := Prod.ext rfl a.1
        rw [eq] at hqx
        exact hxs (hco q.1 x a.2.1 a.2.2 hqx hx)) (by rw [hr, hz]; rfl) (fun j hj => by omega)
  have perm : Fz w S5 = Fz w (lk u 8) := by
    refine aps_perm ((List.perm_ext_iff_of_nodup i5.1.1 (lk_nodup 8)).mpr (fun i => ?_)) (w, 0) ⟨hU.1, i5.1.1, fun i hi => ⟨(i5.1.2 i hi).1, hU.2 i (i5.1.2 i hi).1 (i5.1.2 i hi).2⟩⟩
    rw [lk_mem 8 i]
    exact ⟨fun z => i5.1.2 i z, fun z => a5 i z.1 z.2⟩
  have fO := (Fz_facts hU (lk_ok (u := u) (k := 8) (by omega)))
  have hv : ∀ p, (Fz w (lk u 8)).1 p ≠ none → vm p ∧ ¬ isL2 u p := fun p hp => by
    have hn : ¬ isL2 u p := fun z => hp (W_none hO (Or.inr z))
    refine ⟨?_, hn⟩
    rcases Occ_end hO ((fO.2 p).mp hp).1 hn with a | a
    · exact Or.inl ⟨a.1, by omega⟩
    · exact Or.inr ⟨a.1, a.2.1⟩
  refine ⟨o5, ?_, ⟨⟨fun m hm => ?_, fun m hm => (hO.2.2.2.2.1 m).mpr (by omega), hO.2.2.2.2.2⟩, ⟨fun p q hp => ?_, fun i hi hp => ?_⟩, ?_⟩, ?_, FN_tr f2 (FN_tr f3 (FN_tr f4 ⟨fun i _ => by rw [r5.1 0 (by omega) (by omega)], fun i _ => by rw [r5.1 1 (by omega) (by omega)], fun i _ => by rw [r5.1 2 (by omega) (by omega)], fun i hi => r5.2.1 i hi, fun k a b => r5.1 k b (by omega), r5.2.2⟩))⟩
  · unfold FX7_layNet
    rw [lT_eq, e1, b1_some]
    exact e2.trans (e3.trans (e4.trans e5))
  · rw [Nat.mul_zero, Nat.zero_add, r5.1 0 (by omega) (by omega)]
    exact hk m hm
  · have h1 := hv p (by rw [hp]; exact fun z => by cases z)
    have h2 := hv q (by rw [(fO.1 _ _ hp).1]; exact fun z => by cases z)
    refine ⟨h1.1, h2.1, ?_⟩
    unfold ma
    rcases h1.1 with a | a
    · rw [if_neg (by omega), r5.1 1 (by omega) (by omega), Nat.mul_zero, Nat.zero_add]
      exact hlk p q a.1 hp
    · rw [if_pos a.1, r5.1 2 (by omega) (by omega), Nat.mul_zero, Nat.zero_add]
      exact ho p.1 q a.2 (by rw [show ((p.1, 3) : Port) = p from Prod.ext rfl a.1.symm]; exact hp)
  · rw [Nat.mul_zero, Nat.zero_add, r5.1 2 (by omega) (by omega)]
    exact ho2 i hi (Or.inr hp)
  · rw [g5, perm]
  · rw [r5.2.2, f4.2.2.2.2.2, f3.2.2.2.2.2, f2.2.2.2.2.2]; rfl
end RG
