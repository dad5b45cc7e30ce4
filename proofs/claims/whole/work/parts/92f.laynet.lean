/-! the reference's ways along letters -/
def ixn (a : Nat) : Nat := if a < 8 then 2 * a else 2 * (a - 8) + 1
theorem ix_rp {e : Port} (h : e.2 = 3) : rp e = 540 + ixn e.1 := by unfold rp ixn; rw [if_pos h]
theorem ixn_lt {a : Nat} (h : a < 16) : ixn a < 16 := by unfold ixn; split <;> omega
theorem ixn_inj {a b : Nat} (ha : a < 16) (hb : b < 16) (h : ixn a = ixn b) : a = b := by
  unfold ixn at h
  split at h <;> split at h <;> omega
theorem ixn_half {a : Nat} (h : a < 16) : ixn a / 2 = (if a < 8 then a else a - 8) := by unfold ixn; split <;> omega
theorem ix_xor : ∀ a : Nat, a < 16 → (jI (ixn a) ^^^ (1 : Int32)) = jI (ixn (if a < 8 then 8 + a else a - 8)) := by decide +kernel
theorem ix_div : ∀ a : Nat, a < 16 → jI (ixn a) / (2 : Int32) = jI ((if a < 8 then a else a - 8 : Nat)) := by decide +kernel
theorem nar1 : vp_nar .boolean (1 : Int32) = 1 := by decide
theorem nar0 : vp_nar .boolean (0 : Int32) = 0 := by decide
/-- which letters bear the mark -/
def MkR (u : Nat → Nat) (row : Nat → Int32) (Q : Nat → Prop) : Prop := ∀ e, isL2 u e → (Q (lt e) → row (ixn e.1) = 1) ∧ (¬ Q (lt e) → row (ixn e.1) = 0)
theorem MkR_mark {u : Nat → Nat} {row row' : Nat → Int32} {Q Q' : Nat → Prop} (h : MkR u row Q) {e : Port} (he : isL2 u e) (hr : ∀ j, row' j = if j = ixn (mate e).1 then 1 else if j = ixn e.1 then 1 else row j) (hQ : ∀ i, Q' i ↔ Q i ∨ i = lt e) : MkR u row' Q' := by
  have hm := (L2_mate he).1
  intro x hx
  have l1 := hx.2.1
  refine ⟨fun q => ?_, fun q => ?_⟩
  · rw [hr]
    by_cases c1 : x = mate e
    · rw [if_pos (by rw [c1])]
    · by_cases c2 : x = e
      · by_cases c3 : ixn x.1 = ixn (mate e).1
        · rw [if_pos c3]
        · rw [if_neg c3, if_pos (by rw [c2])]
      · have nx : lt x ≠ lt e := fun z => (L2_same he hx z).elim c2 c1
        have qx : Q (lt x) := ((hQ _).mp q).elim id (fun z => absurd z nx)
        by_cases c3 : ixn x.1 = ixn (mate e).1
        · rw [if_pos c3]
        · rw [if_neg c3]
          by_cases c4 : ixn x.1 = ixn e.1
          · rw [if_pos c4]
          · rw [if_neg c4]; exact (h x hx).1 qx
  · have nq : ¬ Q (lt x) := fun z => q ((hQ _).mpr (Or.inl z))
    have nx : lt x ≠ lt e := fun z => q ((hQ _).mpr (Or.inr z))
    rw [hr, if_neg (fun z => nx ?_), if_neg (fun z => nx ?_)]
    · exact (h x hx).2 nq
    · have : x.1 = e.1 := ixn_inj l1 he.2.1 z
      unfold lt
      rw [this]
    · have : x.1 = (mate e).1 := ixn_inj l1 hm.2.1 z
      rw [← (L2_mate he).2.1]
      unfold lt
      rw [this]
/-- but for the marks all is as it was -/
def D29 (o o' : Ob) : Prop := (∀ k, k ≠ 29 → oA o' k = oA o k) ∧ ∀ k, oV o' k = oV o k
theorem D29_rf (o : Ob) : D29 o o := ⟨fun _ _ => rfl, fun _ => rfl⟩
theorem D29_tr {o o' o'' : Ob} (h : D29 o o') (h' : D29 o' o'') : D29 o o'' := ⟨fun k a => (h'.1 k a).trans (h.1 k a), fun k => (h'.2 k).trans (h.2 k)⟩
def RawOk (u : Nat → Nat) (w : Wr) (o : Ob) : Prop := (∀ p q, w p = some q → oA o 23 (rp p) = jI (rp q)) ∧ PU (oA o 24) u
theorem RawOk_D {u : Nat → Nat} {w : Wr} {o o' : Ob} (h : RawOk u w o) (hd : D29 o o') : RawOk u w o' := ⟨fun p q hp => by rw [hd.1 23 (by omega)]; exact h.1 p q hp, by rw [PU, hd.1 24 (by omega)]; exact h.2⟩
section OE
variable {u : Nat → Nat} {w : Wr} {n : Nat} {K : Kd} {lim : Nat → Nat}
/-- what is wired, when all is read -/
def Occ (n : Nat) (u : Nat → Nat) (K : Kd) (w : Wr) : Prop := (∀ p, w p ≠ none ↔ Plc n (fun _ => 2) u K p) ∧ Mt w ∧ (∀ i, i < 8 → u i ≤ 2) ∧ n ≤ 60 ∧ (∀ m, K m = none ↔ n ≤ m) ∧ ∀ m k, K m = some k → k ≤ 3
theorem Occ_HU (h : Occ n u K w) : HU u w := by
  refine ⟨h.2.1, fun i hi hu => ⟨(h.1 _).mpr (Or.inr (Or.inr ⟨rfl, Or.inl ⟨hi, by simp only; omega⟩⟩)), (h.1 _).mpr (Or.inr (Or.inr ⟨rfl, Or.inr ⟨by simp only; omega, by simp only; omega, ?_⟩⟩))⟩⟩
  simp only
  rw [show 8 + i - 8 = i by omega]
  exact hu
theorem Occ_end (h : Occ n u K w) {t : Port} (ht : w t ≠ none) (hn : ¬ isL2 u t) : (t.2 < 3 ∧ t.1 < n) ∨ (t.2 = 3 ∧ t.1 < 8 ∧ u t.1 = 1) := by
  rcases (h.1 t).mp ht with a | ⟨a1, ⟨k, a2⟩, a3⟩ | ⟨a1, a2 | a2⟩
  · exact Or.inl ⟨by omega, a.2⟩
  · refine Or.inl ⟨by omega, ?_⟩
    rcases Nat.lt_or_ge t.1 n with c | c
    · exact c
    · rw [(h.2.2.2.2.1 _).mpr c] at a2; cases a2
  · refine Or.inr ⟨a1, a2.1, ?_⟩
    have h2 := h.2.2.1 t.1 a2.1
    have : u t.1 ≠ 2 := fun z => hn ⟨a1, by omega, by unfold lt; rw [if_pos a2.1]; exact z⟩
    omega
  · exfalso
    exact hn ⟨a1, a2.2.1, by unfold lt; rw [if_neg (by omega)]; exact a2.2.2⟩
theorem m_other (hO : Occ n u K w) {t : Port} (ht : ¬ isL2 u t) : ∀ (l : List Port) (q : Port) (F : Nat) (o : Ob), Ch u w l q t → l.length < F → RawOk u w o → w q ≠ none → ∃ o', LX7_otherEnd_2 F (jI (rp q)) o = some (jI (mp t), o') ∧ D29 o o' ∧ ∀ Q, MkR u (oA o 29) Q → MkR u (oA o' 29) (fun i => Q i ∨ ∃ e, e ∈ l ∧ lt e = i) := by
  intro l
  induction l with
  | nil =>
    intro q F o hC hF hR hw
    obtain ⟨F, rfl⟩ : ∃ f', F = f' + 1 := ⟨F - 1, by omega⟩
    have e : q = t := hC
    subst e
    have hn := hO.2.2.2.1
    have mkE : ∀ (row : Nat → Int32) Q, MkR u row Q → MkR u row (fun i => Q i ∨ ∃ e, e ∈ ([] : List Port) ∧ lt e = i) := fun row Q h x hx => by
      refine ⟨fun z => (h x hx).1 (z.elim id ?_), fun z => (h x hx).2 (fun y => z (Or.inl y))⟩
      rintro ⟨e, z, -⟩
      cases z
    rcases Occ_end hO hw ht with ⟨a1, a2⟩ | ⟨a1, a2, a3⟩
    · have e1 : rp q = 3 * q.1 + q.2 := by unfold rp; rw [if_neg (by omega)]
      have e2 : mp q = 3 * q.1 + q.2 := by unfold mp; rw [if_neg (by omega)]
      refine ⟨o, ?_, D29_rf o, fun Q h => mkE _ Q h⟩
      rw [LX7_otherEnd_2.eq_2, e1, e2, if_pos (by rw [j_540, jI_lt (by omega) (by omega) (by omega) (by omega)]; omega)]
    · have e0 : ixn q.1 = 2 * q.1 := by unfold ixn; rw [if_pos a2]
      have e1 : rp q = 540 + ixn q.1 := ix_rp a1
      have e2 : mp q = 900 + q.1 := by unfold mp; rw [if_pos a1]
      have ed := ix_div q.1 (by omega)
      rw [if_pos a2] at ed
      have hu1 : oA (sA o 29 (ixn q.1) 1) 24 q.1 = jI 1 := by rw [sA_ne _ _ _ (by omega), hR.2 q.1 a2, a3]; rfl
      refine ⟨sA o 29 (ixn q.1) 1, ?_, ⟨fun k hk => sA_ne _ _ _ hk, fun _ => rfl⟩, fun Q h => mkE _ Q (fun x hx => ?_)⟩
      · rw [LX7_otherEnd_2.eq_2, e1, if_neg (by rw [j_540, jI_lt (by omega) (by omega) (by omega) (by omega)]; omega), lT_eq, show jI ((540 + ixn q.1 : Nat) : Int) - (540 : Int32) = jI (ixn q.1) from by rw [j_540, jI_sub]; congr 1; omega, if_pos (by rw [jI_inb (by omega) (by omega)]; omega), lT_eq, ed, nar1, jc _ (by omega), if_pos (by rw [jI_inb (by omega) (by omega)]; omega), jc _ (by omega), hu1, if_pos (by rfl), e2, j_900, jI_add]
        rfl
      · have hne : ixn x.1 ≠ ixn q.1 := fun z => by
          have := ixn_inj hx.2.1 (by omega) z
          have h3 := hx.2.2
          unfold lt at h3
          rw [this, if_pos a2] at h3
          omega
        rw [sA_rw, if_neg hne]
        exact h x hx
  | cons e l ih =>
    intro q F o hC hF hR hw
    obtain ⟨F, rfl⟩ : ∃ f', F = f' + 1 := ⟨F - 1, by omega⟩
    obtain ⟨rfl, he, q', hq', hC'⟩ := hC
    simp only [List.length_cons] at hF
    have l16 := he.2.1
    have hlt := (L2_or he).1
    have ixl := ixn_lt l16
    have ixm := ixn_lt (L2_mate he).1.2.1
    have e1 : rp q = 540 + ixn q.1 := ix_rp he.1
    have em : rp (mate q) = 540 + ixn (mate q).1 := ix_rp rfl
    have ex := ix_xor q.1 l16
    rw [show (if q.1 < 8 then 8 + q.1 else q.1 - 8) = (mate q).1 from rfl] at ex
    have ed := ix_div q.1 l16
    rw [show (if q.1 < 8 then q.1 else q.1 - 8) = lt q from rfl] at ed
    let o1 := sA (sA o 29 (ixn q.1) 1) 29 (ixn (mate q).1) 1
    have d1 : D29 o o1 := ⟨fun k hk => by show oA (sA (sA o 29 _ _) 29 _ _) k = _; rw [sA_ne _ _ _ hk, sA_ne _ _ _ hk], fun _ => rfl⟩
    have hu1 : oA (sA o 29 (ixn q.1) 1) 24 (lt q) = jI 2 := by rw [sA_ne _ _ _ (by omega), hR.2 _ hlt, he.2.2]; rfl
    have hraw : oA o1 23 (540 + ixn (mate q).1) = jI (rp q') := by rw [d1.1 23 (by omega), ← em]; exact hR.1 _ _ hq'
    obtain ⟨o2, t1, t2, t3⟩ := ih q' F o1 hC' (by omega) (RawOk_D hR d1) (by rw [(hO.2.1 _ _ hq').1]; exact fun z => by cases z)
    refine ⟨o2, ?_, D29_tr d1 t2, fun Q h => ?_⟩
    · rw [LX7_otherEnd_2.eq_2, e1, if_neg (by rw [j_540, jI_lt (by omega) (by omega) (by omega) (by omega)]; omega), lT_eq, show jI ((540 + ixn q.1 : Nat) : Int) - (540 : Int32) = jI (ixn q.1) from by rw [j_540, jI_sub]; congr 1; omega, if_pos (by rw [jI_inb (by omega) (by omega)]; omega), lT_eq, ed, ex, nar1, jc _ (by omega), if_pos (by rw [jI_inb (by omega) (by omega)]; omega), jc _ (by omega), hu1, if_neg (by decide), if_pos (by rw [jI_inb (by omega) (by omega)]; omega), lT_eq, jc _ (by omega), show (540 : Int32) + jI (ixn (mate q).1 : Int) = jI ((540 + ixn (mate q).1 : Nat)) from by rw [j_540, jI_add]; rfl, if_pos (by rw [jI_inb (by omega) (by omega)]; omega), lT_eq, jc _ (by omega)]
      show LX7_otherEnd_2 F (oA o1 23 (540 + ixn (mate q).1)) o1 = _
      rw [hraw]
      exact t1
    · have m1 : MkR u (oA o1 29) (fun i => Q i ∨ i = lt q) := MkR_mark h he (fun j => by show oA (sA (sA o 29 _ _) 29 _ _) 29 j = _; rw [sA_rw, sA_rw]) (fun i => Iff.rfl)
      have m2 := t3 _ m1
      intro x hx
      refine ⟨fun z => (m2 x hx).1 ?_, fun z => (m2 x hx).2 (fun y => z ?_)⟩
      · rcases z with z | ⟨e, z1, z2⟩
        · exact Or.inl (Or.inl z)
        · rcases List.mem_cons.mp z1 with c | c
          · exact Or.inl (Or.inr (by rw [← z2, c]))
          · exact Or.inr ⟨e, c, z2⟩
      · rcases y with (y | y) | ⟨e, y1, y2⟩
        · exact Or.inl y
        · exact Or.inr ⟨q, List.mem_cons_self .., y.symm⟩
        · exact Or.inr ⟨e, List.mem_cons_of_mem _ y1, y2⟩
/-- a place of the net: where its wire ends, and the letters gone along -/
theorem m_chase (hO : Occ n u K w) {S : List Nat} (hI : I0 u w S) {r t : Port} {o : Ob} (hr : ¬ isL2 u r) (hW : (Fz w (lk u 8)).1 r = some t) (hR : RawOk u w o) (hM : MkR u (oA o 29) (fun i => i ∈ S)) : ∃ o' S' q, w r = some q ∧ FX7_otherEnd (jI (rp q)) o = some (jI (mp t), o') ∧ D29 o o' ∧ I0 u w S' ∧ (Fz w S').2 = (Fz w S).2 ∧ MkR u (oA o' 29) (fun i => i ∈ S') ∧ (∀ i, i ∈ S → i ∈ S') ∧ (isL2 u q → lt q ∈ S') := by
  have hU := Occ_HU hO
  obtain ⟨fM, fO⟩ := Fz_facts hU (lk_ok (u := u) (k := 8) (by omega))
  have ht : ¬ isL2 u t := fun z => by
    have h1 := (fO t).mp (by rw [(fM _ _ hW).1]; exact fun z => by cases z)
    have h2 := h1.2 (lt t) ((lk_mem 8 _).mpr ⟨(L2_or z).1, z.2.2⟩)
    rcases (L2_or z).2 with a | a
    · exact h2.1 a.1
    · exact h2.2 a.1
  obtain ⟨q, l, h1, h2, h3⟩ := lk_Ch hU 8 (by omega) r t hW
  have h3' : l.length < 256 := h3
  obtain ⟨S', s1, s2, s3⟩ := way hU hI hr ht h1 h2
  obtain ⟨o', t1, t2, t3⟩ := m_other hO ht l q fu o h2 (by rw [fu_eq]; omega) hR (by rw [(hO.2.1 _ _ h1).1]; exact fun z => by cases z)
  refine ⟨o', S', q, h1, t1, t2, s1, s2, fun x hx => ?_, fun i hi => (s3 i).mpr (Or.inl hi), fun hq => (s3 _).mpr (Or.inr ⟨q, ?_, rfl⟩)⟩
  · have := t3 _ hM x hx
    exact ⟨fun z => this.1 ((s3 _).mp z), fun z => this.2 (fun y => z ((s3 _).mpr y))⟩
  · cases l with
    | nil => exact absurd (by rw [← show q = t from h2]; exact hq) ht
    | cons e l => rw [h2.1]; exact List.mem_cons_self ..
/-- a ring -/
theorem m_ringLoop (hO : Occ n u K w) {e0 : Port} (he0 : isL2 u e0) (E : Ob → Option Ob) {S0 : List Nat} (hc : ∀ x, isL2 u x → lt x ∉ S0 → ∀ q, w x = some q → isL2 u q) : ∀ (d : Nat) (S : List Nat) (q : Port) (F : Nat) (o : Ob), S.length + d = 8 → d < F → LOk u S → (∀ i, i ∈ S0 → i ∈ S) → lt e0 ∉ S → (Fz w S).1 (mate e0) = some q → isL2 u q → (∀ x, isL2 u x → lt x ∉ S → x ≠ q → x ≠ mate e0 → (Fz w S).1 x = w x) → RawOk u w o → MkR u (oA o 29) (fun i => i ∈ S ∨ i = lt e0) → ∃ o' S', LX7_ring_2 E F (jI (ixn q.1)) o = E o' ∧ D29 o o' ∧ I0 u w S' ∧ (Fz w S').2 = (Fz w S).2 + 1 ∧ MkR u (oA o' 29) (fun i => i ∈ S') ∧ (∀ i, i ∈ S → i ∈ S') ∧ lt e0 ∈ S' := by
  have hU := Occ_HU hO
  obtain ⟨n1, n2, n3, n4⟩ := L2_mate he0
  intro d
  induction d with
  | zero =>
    intro S q F o hd hF hS h0 hn hq hqL hI hR hM
    exfalso
    have hS9 := LOk_snoc hS he0 hn
    have := nodup_lt 8 _ hS9.1 (fun i hi => (hS9.2 i hi).1)
    rw [List.length_append] at this
    simp only [List.length_cons, List.length_nil] at this
    omega
  | succ d ih =>
    intro S q F o hd hF hS h0 hn hq hqL hI hR hM
    obtain ⟨F, rfl⟩ : ∃ f', F = f' + 1 := ⟨F - 1, by omega⟩
    obtain ⟨fM, fO⟩ := Fz_facts hU hS
    have hqr := fM _ _ hq
    have ixl := ixn_lt hqL.2.1
    by_cases c : lt q = lt e0
    · -- round
      have hqe : q = e0 := by
        rcases L2_same he0 hqL c with z | z
        · exact z
        · exact absurd z hqr.2.symm
      subst hqe
      have mk := (hM q hqL).1 (Or.inr rfl)
      have at' := fun x => fuse_at (R := (Fz w S).2) fM hqL x
      rw [show ((Fz w S).1, (Fz w S).2) = Fz w S from rfl] at at'
      refine ⟨o, S ++ [lt q], ?_, D29_rf o, ⟨LOk_snoc hS hqL hn, fun x hx hxs => ?_⟩, ?_, fun x hx => ?_, fun i hi => List.mem_append_left _ hi, List.mem_append_right _ (List.mem_cons_self ..)⟩
      · rw [LX7_ring_2.eq_2, if_pos (by rw [jI_inb (by omega) (by omega)]; omega), jc _ (by omega), mk, if_neg (by decide)]
      · have hxS : lt x ∉ S := fun z => hxs (List.mem_append_left _ z)
        have hxe : lt x ≠ lt q := fun z => hxs (List.mem_append_right _ (by rw [z]; exact List.mem_cons_self ..))
        have hx1 : x ≠ q := fun z => hxe (by rw [z])
        have hx2 : x ≠ mate q := fun z => hxe (by rw [z, n2])
        rw [Fz_snoc, (at' x).1, if_neg (fun z => z.elim hx1 hx2), ← hI x hx hxS hx1 hx2]
        cases hs : (Fz w S).1 x with
        | none => rfl
        | some s =>
          simp only
          have hsx := (fM _ _ hs).1
          rw [if_neg (fun z => hx2 (by rw [z, hqr.1] at hsx; exact (Option.some.inj hsx).symm)), if_neg (fun z => hx1 (by rw [z, hq] at hsx; exact (Option.some.inj hsx).symm))]
      · rw [Fz_snoc, (at' q).2, if_pos hqr.1]
      · have := hM x hx
        refine ⟨fun z => this.1 ?_, fun z => this.2 (fun y => z ?_)⟩
        · rcases List.mem_append.mp z with z | z
          · exact Or.inl z
          · simp only [List.mem_cons, List.not_mem_nil, or_false] at z; exact Or.inr z
        · rcases y with y | y
          · exact List.mem_append_left _ y
          · exact List.mem_append_right _ (by rw [y]; exact List.mem_cons_self ..)
    · -- on
      have hqS : lt q ∉ S := Fz_gone hU hS hqL (by rw [hqr.1]; exact fun z => by cases z)
      have mk := (hM q hqL).2 (fun z => z.elim hqS c)
      obtain ⟨m1, m2, m3, m4⟩ := L2_mate hqL
      have hwm : w (mate q) ≠ none := by
        rcases (L2_or m1).2 with a | a
        · rw [a.1]; exact (hU.2 _ (L2_or m1).1 m1.2.2).1
        · rw [a.1]; exact (hU.2 _ (L2_or m1).1 m1.2.2).2
      obtain ⟨q', hq'⟩ := some_of hwm
      have hq'L := hc (mate q) m1 (fun z => hqS (by rw [← m2]; exact h0 _ z)) q' hq'
      have hrm : mate e0 ≠ mate q := fun z => c (by rw [← m2, ← z, n2])
      obtain ⟨a1, a2, a3, a4, a5⟩ := one_more hU hS hq hqL hrm hI hq'
      have ixm := ixn_lt m1.2.1
      have em : rp (mate q) = 540 + ixn (mate q).1 := ix_rp rfl
      have ex := ix_xor q.1 hqL.2.1
      rw [show (if q.1 < 8 then 8 + q.1 else q.1 - 8) = (mate q).1 from rfl] at ex
      let o1 := sA (sA o 29 (ixn q.1) 1) 29 (ixn (mate q).1) 1
      have d1 : D29 o o1 := ⟨fun k hk => by show oA (sA (sA o 29 _ _) 29 _ _) k = _; rw [sA_ne _ _ _ hk, sA_ne _ _ _ hk], fun _ => rfl⟩
      have hraw : oA o1 23 (540 + ixn (mate q).1) = jI (rp q') := by rw [d1.1 23 (by omega), ← em]; exact hR.1 _ _ hq'
      have hM1 : MkR u (oA o1 29) (fun i => i ∈ S ++ [lt q] ∨ i = lt e0) := MkR_mark hM hqL (fun j => by show oA (sA (sA o 29 _ _) 29 _ _) 29 j = _; rw [sA_rw, sA_rw]) (fun i => by
        rw [List.mem_append]
        simp only [List.mem_cons, List.not_mem_nil, or_false]
        constructor
        · rintro ((z | z) | z)
          · exact Or.inl (Or.inl z)
          · exact Or.inr z
          · exact Or.inl (Or.inr z)
        · rintro ((z | z) | z)
          · exact Or.inl (Or.inl z)
          · exact Or.inr z
          · exact Or.inl (Or.inr z))
      obtain ⟨o', S', t1, t2, t3, t4, t5, t6, t7⟩ := ih (S ++ [lt q]) q' F o1 (by rw [List.length_append]; simp only [List.length_cons, List.length_nil]; omega) (by omega) a2 (fun i hi => List.mem_append_left _ (h0 i hi)) (fun z => by
        rcases List.mem_append.mp z with z | z
        · exact hn z
        · simp only [List.mem_cons, List.not_mem_nil, or_false] at z; exact c z.symm) a3 hq'L a5 (RawOk_D hR d1) hM1
      refine ⟨o', S', ?_, D29_tr d1 t2, t3, by rw [t4, a4], t5, fun i hi => t6 i (List.mem_append_left _ hi), t7⟩
      rw [LX7_ring_2.eq_2, if_pos (by rw [jI_inb (by omega) (by omega)]; omega), jc _ (by omega), mk, if_pos rfl, lT_eq, ex, nar1, if_pos (by rw [jI_inb (by omega) (by omega)]; omega), lT_eq, jc _ (by omega), show (540 : Int32) + jI (ixn (mate q).1 : Int) = jI ((540 + ixn (mate q).1 : Nat)) from by rw [j_540, jI_add]; rfl, if_pos (by rw [jI_inb (by omega) (by omega)]; omega), lT_eq, jc _ (by omega)]
      show LX7_ring_2 E F (oA o1 23 (540 + ixn (mate q).1) - 540) o1 = _
      rw [hraw, ix_rp hq'L.1, show jI ((540 + ixn q'.1 : Nat) : Int) - (540 : Int32) = jI (ixn q'.1) from by rw [j_540, jI_sub]; congr 1; omega]
      exact t1
end OE
