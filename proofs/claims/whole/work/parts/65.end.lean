/-! the reference's meetEnd; what a round of its meetAlike does -/
theorem K00_comm (K : Kd) {x y : Nat} (h : x ≠ y) : K00 K x y = K00 K y x := ku_comm _ _ h
theorem wA0_comm (x y : Nat) (w : Wr) : wA0 x y w = wA0 y x w := by
  funext r
  rw [wA0_eq, wA0_eq]
  grind
section ME
variable {b : Nat} {o : Ob} {K : Kd} {w : Wr} {r : Nat}
theorem MS_lt (h : MS b o K w r) {n k : Nat} (hn : K n = some k) : n < 180 := by
  rcases Nat.lt_or_ge n 180 with c | c
  · exact c
  · rw [h.2.1.2.1 n c] at hn; cases hn
theorem MS_eat (hb : b < 4) (h : MS b o K w r) (hF : WF K w) {e z kz n0 n1 : Nat} (he : K e = some 0) (hz : K z = some kz) (hez : e ≠ z) (hq : w (e, 0) = some (z, 0)) (hkz : kz ≠ 0) (ha : lf (K00 K e z) n0) (hb' : lf (ku (K00 K e z) n0 (some 0)) n1) (l0 : n0 < 180) (l1 : n1 < 180) : ∃ o', FX7_meetEnd (jI e) (jI z) o = some o' ∧ MS b o' (ku (ku (K00 K e z) n0 (some 0)) n1 (some 0)) (wm (z, 2) (n1, 0) (wm (z, 1) (n0, 0) (wA0 e z w))) r ∧ Fm b o o' := by
  have hM := hF.1
  have he180 := MS_lt h he
  have hz180 := MS_lt h hz
  have hab := lf_lt ha hb'
  have fb := (ku_none hb'.1).2
  have M4 : Mt (wA0 e z w) := Mt_cut hM hq
  obtain ⟨A0, a0⟩ := some_of (aux_some (x := e) (y := z) hF hz hkz (s := 1) (Or.inl rfl))
  obtain ⟨A1, a1⟩ := some_of (aux_some (x := e) (y := z) hF hz hkz (s := 2) (Or.inr rfl))
  have N0 : ∀ n, K00 K e z n = none → wA0 e z w (n, 0) = none := fun n hn => wA0_none hF hn (by omega) (Or.inr rfl)
  have conv : ∀ n s, s ≠ 0 → wA0 e z w (n, s) = w (n, s) := fun n s hs => wA0_same (pne (Or.inr hs)) (pne (Or.inr hs))
  have a0' : w (z, 1) = some A0 := by rw [← conv z 1 (by omega)]; exact a0
  have a1' : w (z, 2) = some A1 := by rw [← conv z 2 (by omega)]; exact a1
  have eN : ∀ s, s = 1 ∨ s = 2 → w (e, s) = none := by
    intro s hs
    by_cases c : w (e, s) = none
    · exact c
    · rcases (hF.2.1 e s (by omega)).mp c with ⟨z1, -⟩ | ⟨-, k, z2⟩
      · omega
      · rw [he] at z2; cases z2
  obtain ⟨u, e1, m1, f1, -, sc⟩ := MS_layPorts hb h hz180 he180 (fun z => hez z.symm)
  obtain ⟨o2, e2, m2, f2, s2⟩ := MS_vanish hb m1 he180
  obtain ⟨o3, e3, m3, f3, s3⟩ := MS_vanish hb m2 hz180
  obtain ⟨o4, e4, m4, f4', s4⟩ := MS_made (k := 0) hb m3 l0 ha (by omega)
  obtain ⟨o6, e6, m6, f6, s6⟩ := MS_made (k := 0) hb m4 l1 hb' (by omega)
  have F6 : Fm b o o6 := Fm_tr (Fm_tr (Fm_tr (Fm_tr f1 f2) f3) f4') f6
  have S6 : Sc u o6 := Sc_tr (Sc_tr (Sc_tr s2 s3) s4) s6
  obtain ⟨c1, c2, c3⟩ := sc 0 A0 (by omega) a0'
  obtain ⟨d1, -, -⟩ := sc 1 A1 (by omega) a1'
  have vA0 := (h.2.2.1.1 _ _ a0').2.1
  have vA1 := (h.2.2.1.1 _ _ a1').2.1
  have w0 : vm (n0, 0) := Or.inl ⟨by simp only; omega, l0⟩
  have w1 : vm (n1, 0) := Or.inl ⟨by simp only; omega, l1⟩
  obtain ⟨t1, t2⟩ := two_wires (u := w3 z (w3 e w)) M4 a0 a1 (N0 n0 ha.1) (N0 n1 fb) (pne (Or.inr (by omega))) (pne (Or.inl (by omega))) (by
    intro q
    obtain ⟨n, s⟩ := q
    have := eN 1 (Or.inl rfl)
    have := eN 2 (Or.inr rfl)
    rw [w33, wA0_eq]
    simp only [Prod.mk.injEq]
    by_cases q1 : n = e
    · subst q1
      rcases Nat.lt_or_ge s 3 with q2 | q2
      · rcases (show s = 0 ∨ s = 1 ∨ s = 2 by omega) with rfl | rfl | rfl <;> grind
      · grind
    · grind)
  have unf : FX7_meetEnd (jI e) (jI z) o = if (oA o6 15 (0 : Int32).toNatClampNeg) = (1 : Int32) then
    b1 (FX7_wire ((3 : Int32) * jI n0) ((3 : Int32) * jI n1) o6) fun o0_13 =>
    some o0_13
  else
    b1 (FX7_wire ((3 : Int32) * jI n0) (oA o6 14 (0 : Int32).toNatClampNeg) o6) fun o0_15 =>
    b1 (FX7_wire ((3 : Int32) * jI n1) (oA o0_15 14 (1 : Int32).toNatClampNeg) o0_15) fun o0_17 =>
    some o0_17 := by
    unfold FX7_meetEnd
    rw [show jI ((0 : Nat) : Int) = (0 : Int32) from rfl] at e4 e6
    rw [e1, b1_some, e2, b1_some, e3, b1_some, e4, b2_some, e6, b2_some]
  have z0 : (0 : Int32).toNatClampNeg = 0 := rfl
  have z1 : (1 : Int32).toNatClampNeg = 1 := rfl
  rw [unf, z0, z1, S6 15 (by omega), S6 14 (by omega), mp3, mp3, c1]
  by_cases cc : A0 = (z, 2)
  · rw [c2 1 (by omega) cc, if_pos (show jI ((1 : Nat) : Int) = (1 : Int32) from rfl)]
    obtain ⟨o7, q1, q2, q3, q4⟩ := MS_wire hb m6 w0 w1 (pne (Or.inl (by omega)))
    rw [q1, b1_some, ← t2 cc]
    exact ⟨o7, rfl, q2, Fm_tr F6 q3⟩
  · have q15 : oA u 15 0 = jI (-1) := by
      refine c3 (fun k hk zz => ?_)
      rcases (show k = 0 ∨ k = 1 ∨ k = 2 ∨ k = 3 by omega) with rfl | rfl | rfl | rfl
      · exact (hM _ _ a0').2 zz.symm
      · exact cc zz
      · have := (hM _ _ a0').1
        rw [zz] at this
        rw [show PP z e 2 = (e, 1) from rfl, eN 1 (Or.inl rfl)] at this
        cases this
      · have := (hM _ _ a0').1
        rw [zz] at this
        rw [show PP z e 3 = (e, 2) from rfl, eN 2 (Or.inr rfl)] at this
        cases this
    have hA0 : ((n0, 0) : Port) ≠ A0 := fun zz => by
      have := (M4 _ _ a0).1
      rw [← zz, N0 _ ha.1] at this
      cases this
    have hA1 : ((n1, 0) : Port) ≠ A1 := fun zz => by
      have := (M4 _ _ a1).1
      rw [← zz, N0 _ fb] at this
      cases this
    rw [q15, if_neg (by decide)]
    obtain ⟨o7, q1, q2, q3, q4⟩ := MS_wire hb m6 w0 vA0 hA0
    obtain ⟨o8, r1, r2, r3, r4⟩ := MS_wire hb q2 w1 vA1 hA1
    rw [q1, b1_some, q4 14 (by omega), S6 14 (by omega), d1, r1, b1_some, ← t1 cc]
    exact ⟨o8, rfl, r2, Fm_tr (Fm_tr F6 q3) r3⟩
end ME
/-! overFrom, in small -/
def ac (cr k : Nat) : Nat := if cr = 0 then (k + 2) % 4 else 3 - k
def ovL (cr : Nat) (ins : Nat → Int) : Nat → Nat → (Nat → Nat) → Option (Nat × (Nat → Nat))
  | 0, _, _ => none
  | f + 1, j, d => if ins j = -1 then some (j, d) else if d (ins j).toNat = 0 then ovL cr ins f (ac cr (ins j).toNat) (fun q => if q = ac cr (ins j).toNat then 1 else if q = (ins j).toNat then 1 else d q) else some (j, d)
def Al (o : Ob) (ins : Nat → Int) (d : Nat → Nat) : Prop := (∀ k, k < 4 → oA o 15 k = jI (ins k) ∧ -1 ≤ ins k ∧ ins k < 4) ∧ ∀ k, k < 4 → oA o 16 k = jI (d k) ∧ d k < 2
theorem a_across {k cr : Nat} (hk : k < 4) (hc : cr < 2) : FX7_across (jI k) (jI cr) = some (jI (ac cr k)) ∧ ac cr k < 4 := by
  unfold FX7_across ac
  by_cases c : cr = 0
  · subst c
    rw [if_pos (show jI ((0 : Nat) : Int) = (0 : Int32) from rfl), if_pos rfl]
    refine ⟨?_, by omega⟩
    have e : jI (k : Int) + (2 : Int32) = jI ((k + 2 : Nat)) := by rw [j_2, jI_add]; rfl
    rw [e]
    have := pk_rem (a := k + 2) (d := 4) (by omega) (by omega) (by omega)
    exact congrArg some this
  · have : cr = 1 := by omega
    subst this
    rw [if_neg (by decide), if_neg (by decide)]
    refine ⟨?_, by omega⟩
    rw [j_3, jI_sub]
    congr 2
    omega
/-- what differs is the row isDone alone -/
def D16 (o o' : Ob) : Prop := (∀ k, k ≠ 16 → oA o' k = oA o k) ∧ (∀ k, oV o' k = oV o k) ∧ ∀ k, oL o' k = oL o k
theorem D16_tr {o o' o'' : Ob} (h : D16 o o') (h' : D16 o' o'') : D16 o o'' := ⟨fun k hk => (h'.1 k hk).trans (h.1 k hk), fun k => (h'.2.1 k).trans (h.2.1 k), fun k => (h'.2.2 k).trans (h.2.2 k)⟩
theorem D16_sA (o : Ob) (i : Nat) (v : Int32) : D16 o (sA o 16 i v) := ⟨fun k hk => by funext j; rw [oA_sA, if_neg (fun z => hk z.1)], fun _ => rfl, fun _ => rfl⟩
theorem Al_set {o : Ob} {ins : Nat → Int} {d : Nat → Nat} (h : Al o ins d) (i : Nat) : Al (sA o 16 i 1) ins (fun q => if q = i then 1 else d q) := by
  refine ⟨fun k hk => ?_, fun k hk => ?_⟩
  · rw [oA_sA, if_neg (by omega)]; exact h.1 k hk
  · rw [oA_sA]
    by_cases c : k = i
    · rw [if_pos ⟨rfl, c⟩]; simp only [if_pos c]; exact ⟨rfl, by omega⟩
    · rw [if_neg (fun z => c z.2)]; simp only [if_neg c]; exact h.2 k hk
theorem a_ovL {cr : Nat} (hc : cr < 2) {ins : Nat → Int} : ∀ (f F j : Nat) (d : Nat → Nat) (o : Ob) (j' : Nat) (d' : Nat → Nat), ovL cr ins f j d = some (j', d') → f ≤ F → j < 4 → Al o ins d → ∃ o', LX7_overFrom_20 (jI cr) F (jI j) o = some (jI j', o') ∧ Al o' ins d' ∧ D16 o o' ∧ j' < 4 := by
  intro f
  induction f with
  | zero => intro F j d o j' d' h; cases h
  | succ f ih =>
    intro F j d o j' d' h hF hj hA
    obtain ⟨F, rfl⟩ : ∃ F', F = F' + 1 := ⟨F - 1, by omega⟩
    have jc : (jI (j : Int)).toNatClampNeg = j := by rw [jI_cl (by omega) (by omega), Int.toNat_natCast]
    obtain ⟨i1, i2, i3⟩ := hA.1 j hj
    unfold ovL at h
    rw [LX7_overFrom_20.eq_2, if_pos (by rw [jI_inb (by omega) (by omega)]; omega), jc, i1]
    by_cases c1 : ins j = -1
    · rw [if_pos c1] at h
      cases h
      rw [if_pos (by rw [c1]; rfl)]
      exact ⟨o, rfl, hA, ⟨fun _ _ => rfl, fun _ => rfl, fun _ => rfl⟩, hj⟩
    · rw [if_neg c1] at h
      obtain ⟨i, hi⟩ : ∃ i : Nat, ins j = i := ⟨(ins j).toNat, by omega⟩
      rw [hi] at h ⊢
      rw [Int.toNat_natCast] at h
      have i4 : i < 4 := by omega
      have ic : (jI (i : Int)).toNatClampNeg = i := by rw [jI_cl (by omega) (by omega), Int.toNat_natCast]
      have ii : inb (jI (i : Int)) 4 := by rw [jI_inb (by omega) (by omega)]; omega
      obtain ⟨k1, k2⟩ := hA.2 i i4
      rw [if_neg (by rw [j_m1, jI_eq (by omega) (by omega) (by omega) (by omega)]; omega), if_pos ii, ic, k1]
      by_cases c2 : d i = 0
      · rw [if_pos c2] at h
        obtain ⟨q1, q2⟩ := a_across (k := i) (cr := cr) i4 hc
        have qc : (jI (ac cr i : Int)).toNatClampNeg = ac cr i := by rw [jI_cl (by omega) (by omega), Int.toNat_natCast]
        have nb : vp_nar .boolean (1 : Int32) = 1 := rfl
        obtain ⟨o', r1, r2, r3, r4⟩ := ih F (ac cr i) _ (sA (sA o 16 i 1) 16 (ac cr i) 1) j' d' h (by omega) q2 (Al_set (Al_set hA i) (ac cr i))
        refine ⟨o', ?_, r2, D16_tr (D16_tr (D16_sA o i 1) (D16_sA _ _ _)) r3, r4⟩
        rw [if_pos (by rw [c2]; rfl), lT_eq, if_pos ii, lT_eq, ic, nb, q1, b1_some, if_pos (by rw [jI_inb (by omega) (by omega)]; omega), lT_eq, qc]
        exact r1
      · rw [if_neg c2] at h
        cases h
        rw [if_neg (by rw [j_0, jI_eq (by omega) (by omega) (by omega) (by omega)]; omega)]
        exact ⟨o, rfl, hA, ⟨fun _ _ => rfl, fun _ => rfl, fun _ => rfl⟩, hj⟩
def ov (cr : Nat) (ins : Nat → Int) (k : Nat) (d : Nat → Nat) : Option (Nat × (Nat → Nat)) := ovL cr ins 9 (ac cr k) (fun q => if q = ac cr k then 1 else if q = k then 1 else d q)
theorem a_ov {cr : Nat} (hc : cr < 2) {ins : Nat → Int} {k : Nat} {d : Nat → Nat} {o : Ob} {j' : Nat} {d' : Nat → Nat} (h : ov cr ins k d = some (j', d')) (hk : k < 4) (hA : Al o ins d) : ∃ o', FX7_overFrom (jI k) (jI cr) o = some (jI j', o') ∧ Al o' ins d' ∧ D16 o o' ∧ j' < 4 := by
  obtain ⟨q1, q2⟩ := a_across (k := k) (cr := cr) hk hc
  have kc : (jI (k : Int)).toNatClampNeg = k := by rw [jI_cl (by omega) (by omega), Int.toNat_natCast]
  have qc : (jI (ac cr k : Int)).toNatClampNeg = ac cr k := by rw [jI_cl (by omega) (by omega), Int.toNat_natCast]
  have nb : vp_nar .boolean (1 : Int32) = 1 := rfl
  obtain ⟨o', r1, r2, r3, r4⟩ := a_ovL hc 9 fu (ac cr k) _ (sA (sA o 16 k 1) 16 (ac cr k) 1) j' d' h (by rw [fu_eq]; omega) q2 (Al_set (Al_set hA k) (ac cr k))
  refine ⟨o', ?_, r2, D16_tr (D16_tr (D16_sA o k 1) (D16_sA _ _ _)) r3, r4⟩
  unfold FX7_overFrom
  rw [if_pos (by rw [jI_inb (by omega) (by omega)]; omega), lT_eq, kc, nb, q1, b1_some, if_pos (by rw [jI_inb (by omega) (by omega)]; omega), lT_eq, qc]
  exact r1
