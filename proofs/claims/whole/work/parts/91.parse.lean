/-! A PAGE IS READ: the class puts a bracket where it belongs by its first sign, the reference by its last -/
def rp (p : Port) : Nat := if p.2 = 3 then 540 + (if p.1 < 8 then 2 * p.1 else 2 * (p.1 - 8) + 1) else 3 * p.1 + p.2
theorem rp_lt {p : Port} (h : vp 180 p) : rp p < 556 := by
  unfold rp
  rcases h with ⟨h1, h2⟩ | ⟨h1, h2⟩
  · rw [if_neg (by omega)]; omega
  · rw [if_pos h1]; split <;> omega
theorem rp_inj {p q : Port} (h : vp 180 p) (h' : vp 180 q) (e : rp p = rp q) : p = q := by
  obtain ⟨a, b⟩ := p
  obtain ⟨c, d⟩ := q
  unfold rp at e
  unfold vp at h h'
  simp only at e h h'
  have : a = c ∧ b = d := by
    by_cases h1 : b = 3 <;> by_cases h2 : d = 3
    · simp only [h1, h2, if_true] at e; split at e <;> split at e <;> omega
    · simp only [h1, h2, if_true, if_false] at e; split at e <;> omega
    · simp only [h1, h2, if_true, if_false] at e; split at e <;> omega
    · simp only [h1, h2, if_false] at e; omega
  rw [this.1, this.2]
def PA (d : Ob) (D st : Nat) (nd lim : Nat → Nat) (L : Port) : Prop := oV d 3 = jI D ∧ oV d 4 = jI st ∧ (1 ≤ st → oV d 5 = jI (cp L)) ∧ ∀ j, j < D → oA d 0 j = jI (nd j) ∧ oA d 1 j = jI (lim (nd j))
def PU (row : Nat → Int32) (u : Nat → Nat) : Prop := ∀ i, i < 8 → row i = jI (u i)
def stt (D st tp : Nat) : Nat := if D = 0 then (if st = 1 then 1 else if st = 3 then 2 else 0) else if tp = 2 then 3 else 0
def insd (D h : Nat) : Prop := D ≠ 0 ∨ h = 1
def sdeP (D st h s : Nat) : Prop := (insd D h → (st = 1 → s = 0) ∧ (st = 3 → s = 1)) ∧ (¬ insd D h → (st = 1 ∨ st = 2 → s = 1) ∧ (st = 0 ∨ st = 3 → s = 0))
def PR (o : Ob) (n D st : Nat) (nd lim : Nat → Nat) (L : Port) (h : Nat) : Prop :=
  oV o 20 = jI D ∧ oV o 21 = jI n ∧ (h = 0 → oV o 25 = jI (stt D st (lim (nd (D - 1))))) ∧ (∃ s : Nat, oV o 26 = jI s ∧ s ≤ 1 ∧ sdeP D st h s) ∧ ((insd D h ∧ st = 3) ∨ (¬ insd D h ∧ (st = 1 ∨ st = 2)) → oV o 27 = jI (rp L)) ∧ ∀ j, j < D → oA o 18 j = jI (nd j) ∧ oA o 19 j = jI ((if j + 1 = D ∧ h = 0 then lim (nd j) else lim (nd j) - 1 : Nat))
def PW (o : Ob) (D : Nat) (nd : Nat → Nat) (w : Wr) (h : Nat) (P : Port) : Prop := ∀ p q, w p = some q → (∀ j, j < D → p ≠ (nd j, 0) ∧ q ≠ (nd j, 0)) → (h = 1 → p ≠ P ∧ q ≠ P) → oA o 23 (rp p) = jI (rp q)
def PG (g : Ob) (n : Nat) (K : Kd) (w : Wr) : Prop := RGr 180 g K w 0 ∧ Mt w ∧ (∀ m, K m = none ↔ n ≤ m) ∧ ∀ j, j < 4 → oA g 3 j = 0
def PS (n D st : Nat) (nd lim : Nat → Nat) (K : Kd) (w : Wr) (L : Port) (h : Nat) (P : Port) : Prop :=
  (∀ j, j < D → nd j < n ∧ lim (nd j) ≤ 2 ∧ ∃ k, K (nd j) = some (k + 1)) ∧ (∀ i j, i < D → j < D → nd i = nd j → i = j) ∧ (∀ j, j + 1 < D → 1 ≤ lim (nd j) ∧ w (nd (j + 1), 0) = some (nd j, lim (nd j))) ∧ (0 < D → (st = 1 ∧ L = (nd 0, 0)) ∨ (st = 3 ∧ w (nd 0, 0) = some L)) ∧ (h = 1 → 0 < D → 1 ≤ lim (nd (D - 1)) ∧ w P = some (nd (D - 1), lim (nd (D - 1)))) ∧ (h = 1 → D = 0 → (st = 1 ∧ L = P) ∨ (st = 3 ∧ w P = some L)) ∧ st ≤ 3
def PD (Pl : Port → Prop) (w : Wr) (st : Nat) (L : Port) : Prop := (∀ p, w p ≠ none ↔ Pl p ∧ ¬ (p = L ∧ (st = 1 ∨ st = 2))) ∧ (st = 1 ∨ st = 2 → Pl L) ∧ ∀ p, Pl p → vp 180 p
theorem m_rawWire {o : Ob} {p q : Port} (hp : vp 180 p) (hq : vp 180 q) : FX7_rawWire (jI (rp p)) (jI (rp q)) o = some (sA (sA o 23 (rp p) (jI (rp q))) 23 (rp q) (jI (rp p))) := by
  have := rp_lt hp
  have := rp_lt hq
  unfold FX7_rawWire
  rw [if_pos (by rw [jI_inb (by omega) (by omega)]; omega), lT_eq, if_pos (by rw [jI_inb (by omega) (by omega)]; omega), lT_eq, jc _ (by omega), jc _ (by omega)]
section PL1
variable {d g o : Ob} {n D st : Nat} {nd lim : Nat → Nat} {K : Kd} {w : Wr} {L P P0 : Port} {Pl : Port → Prop}
theorem PG_link (hG : PG g n K w) {p q : Port} (hp : vp 180 p) (hq : vp 180 q) (hpq : p ≠ q) (h1 : w p = none) (h2 : w q = none) : ∃ g', FX2_link 180 (jI (cp p)) (jI (cp q)) g = some g' ∧ PG g' n K (wl p q w) := by
  obtain ⟨⟨T, t, a1, a2, a3, a4, a5, a6⟩, b1, b2⟩ := hG
  exact ⟨_, s_link (by omega) hp hq, ⟨T, t, RK_sA1 (RK_sA1 a1 _ _) _ _, RW_wl a2 hp hq hpq, a3, a4, a5, a6⟩, Mt_wl b1 h1 h2 hpq, b2.1, fun j hj => by rw [sA_ne _ _ _ (by omega), sA_ne _ _ _ (by omega)]; exact b2.2 j hj⟩
theorem wl_of {p q : Port} (h : w p = none) (h' : w q = none) {a b : Port} (hab : w a = some b) : wl p q w a = some b := by
  unfold wl
  rw [if_neg (fun z => by rw [z, h'] at hab; cases hab), if_neg (fun z => by rw [z, h] at hab; cases hab)]
  exact hab
set_option maxHeartbeats 800000 in
theorem p_place (hA : PA d D st nd lim L) (hG : PG g n K w) (hS : PS n D st nd lim K w L 0 P0) (hD : PD Pl w st L) (hP : ¬ Pl P) (hv : vp 180 P) (due : (0 < D ∧ lim (nd (D - 1)) < 2) ∨ (D = 0 ∧ (st = 0 ∨ st = 2))) (hf : 0 < D → ¬ Pl (nd (D - 1), 1 + lim (nd (D - 1)))) (hs0 : P.2 = 0 ∨ P.2 = 3) (hn : n ≤ 180) (hD8 : D ≤ 80) :
    ∃ d' g' st' lim' L' w', FX1_place 180 (jI (cp P)) d g = some (d', g') ∧ PA d' D st' nd lim' L' ∧ oA d' 2 = oA d 2 ∧ PG g' n K w' ∧ PS n D st' nd lim' K w' L' 1 P ∧ PD (fun p => Pl p ∨ p = P ∨ (0 < D ∧ p = (nd (D - 1), 1 + lim (nd (D - 1))))) w' st' L' ∧ (∀ o, PW o D nd w 0 P0 → PW o D nd w' 1 P) ∧ (∀ o n, PR o n D st nd lim L 0 → PR o n D st' nd lim' L' 1) ∧ ∀ m, lim' m = if 0 < D ∧ m = nd (D - 1) then lim m + 1 else lim m := by
  obtain ⟨A1, A2, A3, A4⟩ := hA
  obtain ⟨S1, S2, S3, S4, -, -, S7⟩ := hS
  obtain ⟨D1, D2, D3⟩ := hD
  have wP : w P = none := by
    cases h : w P with
    | none => rfl
    | some q => exact absurd ((D1 P).mp (by rw [h]; exact fun z => by cases z)).1 hP
  have lP := cp_lt hv
  unfold FX1_place
  rw [A1, lT_eq]
  rcases due with ⟨dpos, d2⟩ | ⟨rfl, dst⟩
  · -- under a bracket
    have eD : jI (D : Int) - 1 = jI ((D - 1 : Nat)) := jI_s1 (by omega)
    obtain ⟨s1, s2, s3⟩ := S1 (D - 1) (by omega)
    obtain ⟨a1, a2⟩ := A4 (D - 1) (by omega)
    have hq : vp 180 (nd (D - 1), 1 + lim (nd (D - 1))) := Or.inl ⟨by simp only; omega, by simp only; omega⟩
    have wq : w (nd (D - 1), 1 + lim (nd (D - 1))) = none := by
      cases h : w (nd (D - 1), 1 + lim (nd (D - 1))) with
      | none => rfl
      | some q => exact absurd ((D1 _).mp (by rw [h]; exact fun z => by cases z)).1 (hf dpos)
    have nPq : (nd (D - 1), 1 + lim (nd (D - 1))) ≠ P := fun z => by
      rw [← z] at hs0; simp only at hs0; omega
    obtain ⟨g', e1, g1⟩ := PG_link hG hq hv nPq wq wP
    have lim1 : ∀ j, j < D → j + 1 ≠ D → nd j ≠ nd (D - 1) := fun j h1 h2 z => by have := S2 j (D - 1) h1 (by omega) z; omega
    refine ⟨sA d 1 (D - 1) (jI ((lim (nd (D - 1)) + 1 : Nat))), g', st, fun m => if m = nd (D - 1) then lim m + 1 else lim m, L, _, ?_, ⟨A1, A2, A3, fun j hj => ⟨?_, ?_⟩⟩, sA_ne _ _ _ (by omega), g1, ⟨fun j hj => ⟨(S1 j hj).1, ?_, (S1 j hj).2.2⟩, S2, fun j hj => ?_, fun h0 => ?_, fun _ h0 => ?_, fun _ h0 => by omega, S7⟩, ⟨fun p => ?_, fun h => Or.inl (D2 h), fun p hp => ?_⟩, fun o hW p q hp hj hh => ?_, fun o n' hR => ?_, fun m => ?_⟩
    · rw [eD, if_neg (by rw [j_0, jI_lt (by omega) (by omega) (by omega) (by omega)]; omega), if_neg (by rw [j_80, jI_le (by omega) (by omega) (by omega) (by omega)]; omega), if_pos (by rw [jI_inb (by omega) (by omega)]; omega), jc _ (by omega), a1, a2, j_1, jI_add]
      have ep : FX2_port (jI (nd (D - 1) : Int)) (jI (1 + (lim (nd (D - 1)) : Int))) = some (jI (cp (nd (D - 1), 1 + lim (nd (D - 1))))) := by
        have := s_port_cp (n := nd (D - 1)) (s := 1 + lim (nd (D - 1))) (by omega)
        rw [← this]
        rfl
      rw [ep, b1_some, e1, b1_some, lT_eq, jI_add]
      rfl
    · rw [sA_ne _ _ _ (by omega)]; exact (A4 j hj).1
    · rw [sA_rw]
      by_cases c : j = D - 1
      · subst c
        rw [if_pos rfl]
        simp only [if_true]
      · rw [if_neg c]
        simp only
        rw [if_neg (lim1 j hj (by omega))]
        exact (A4 j hj).2
    · simp only
      split
      · rename_i z; rw [z]; omega
      · exact (S1 j hj).2.1
    · obtain ⟨z1, z2⟩ := S3 j hj
      simp only
      rw [if_neg (lim1 j (by omega) (by omega))]
      exact ⟨z1, wl_of wq wP z2⟩
    · rcases S4 h0 with z | z
      · exact Or.inl z
      · exact Or.inr ⟨z.1, wl_of wq wP z.2⟩
    · simp only [if_true]
      refine ⟨by omega, ?_⟩
      unfold wl
      rw [if_pos rfl, Nat.add_comm]
    · rw [occ_wl]
      constructor
      · rintro (h | h | h)
        · refine ⟨Or.inr (Or.inr ⟨dpos, h⟩), fun z => ?_⟩
          exact hf dpos (by rw [← h, z.1]; exact D2 z.2)
        · exact ⟨Or.inr (Or.inl h), fun z => hP (by rw [← h, z.1]; exact D2 z.2)⟩
        · exact ⟨Or.inl ((D1 p).mp h).1, ((D1 p).mp h).2⟩
      · rintro ⟨h | h | h, h2⟩
        · exact Or.inr (Or.inr ((D1 p).mpr ⟨h, h2⟩))
        · exact Or.inr (Or.inl h)
        · exact Or.inl h.2
    · rcases hp with h | h | h
      · exact D3 p h
      · rw [h]; exact hv
      · rw [h.2]; exact hq
    · unfold wl at hp
      by_cases c1 : p = P
      · exact absurd c1 (hh rfl).1
      · rw [if_neg c1] at hp
        by_cases c2 : p = (nd (D - 1), 1 + lim (nd (D - 1)))
        · rw [if_pos c2] at hp
          exact absurd (Option.some.inj hp).symm (hh rfl).2
        · rw [if_neg c2] at hp
          exact hW p q hp hj (fun z => by omega)
    · obtain ⟨r1, r2, r3, ⟨s, r4, r5, r6⟩, r7, r8⟩ := hR
      have i1 : insd D 1 := Or.inl (by omega)
      have i0 : insd D 0 := Or.inl (by omega)
      refine ⟨r1, r2, fun z => by omega, ⟨s, r4, r5, fun _ => r6.1 i0, fun z => absurd i1 z⟩, fun z => r7 ?_, fun j hj => ⟨(r8 j hj).1, ?_⟩⟩
      · rcases z with z | z
        · exact Or.inl ⟨i0, z.2⟩
        · exact absurd i1 z.1
      · rw [(r8 j hj).2]
        congr 2
        rw [if_neg (show ¬ (j + 1 = D ∧ 1 = 0) by omega)]
        by_cases c : j + 1 = D
        · rw [if_pos ⟨c, rfl⟩, show j = D - 1 by omega]
          show lim (nd (D - 1)) = (if nd (D - 1) = nd (D - 1) then lim (nd (D - 1)) + 1 else lim (nd (D - 1))) - 1
          rw [if_pos rfl]
          omega
        · rw [if_neg (fun z => c z.1)]
          show lim (nd j) - 1 = (if nd j = nd (D - 1) then lim (nd j) + 1 else lim (nd j)) - 1
          rw [if_neg (lim1 j hj c)]
    · simp only [dpos, true_and]
  · -- a side of a pair
    rw [show jI ((0 : Nat) : Int) - 1 = jI (-1) from rfl, if_pos (by decide)]
    unfold BX1_place_55
    have limE : ∀ m, lim m = if 0 < 0 ∧ m = nd (0 - 1) then lim m + 1 else lim m := fun m => by rw [if_neg (by omega)]
    rcases dst with rfl | rfl
    · rw [A2, if_pos (by rfl), lT_eq, lT_eq]
      refine ⟨_, g, 1, lim, P, w, rfl, ⟨A1, rfl, fun _ => rfl, fun j hj => by omega⟩, rfl, hG, ⟨fun j hj => by omega, fun i j hi => by omega, fun j hj => by omega, fun h => by omega, fun _ h => by omega, fun _ _ => Or.inl ⟨rfl, rfl⟩, by omega⟩, ⟨fun p => ?_, fun _ => Or.inr (Or.inl rfl), fun p hp => ?_⟩, fun o hW p q hp hj hh => hW p q hp hj (fun z => by omega), fun o n' hR => ?_, limE⟩
      · rw [D1 p]
        constructor
        · rintro ⟨h1, -⟩
          exact ⟨Or.inl h1, fun z => hP (by rw [← z.1]; exact h1)⟩
        · rintro ⟨h | h | h, h2⟩
          · exact ⟨h, by omega⟩
          · exact absurd ⟨h, Or.inl rfl⟩ h2
          · omega
      · rcases hp with h | h | h
        · exact D3 p h
        · rw [h]; exact hv
        · omega
      · obtain ⟨r1, r2, r3, ⟨s, r4, r5, r6⟩, r7, r8⟩ := hR
        have i1 : insd 0 1 := Or.inr rfl
        have i0 : ¬ insd 0 0 := fun z => by unfold insd at z; omega
        refine ⟨r1, r2, fun z => by omega, ⟨s, r4, r5, fun _ => ⟨fun _ => (r6.2 i0).2 (Or.inl rfl), fun z => by omega⟩, fun z => absurd i1 z⟩, fun z => ?_, fun j hj => by omega⟩
        rcases z with z | z
        · omega
        · exact absurd i1 z.1
    · rw [A2, if_neg (by decide), A3 (by omega)]
      have PlL := D2 (Or.inr rfl)
      have hvL := D3 L PlL
      have wL : w L = none := by
        cases h : w L with
        | none => rfl
        | some q => exact absurd ⟨rfl, Or.inr rfl⟩ ((D1 L).mp (by rw [h]; exact fun z => by cases z)).2
      have nLP : L ≠ P := fun z => hP (z ▸ PlL)
      obtain ⟨g', e1, g1⟩ := PG_link hG hvL hv nLP wL wP
      rw [e1, b1_some, lT_eq]
      refine ⟨_, g', 3, lim, L, _, rfl, ⟨A1, rfl, fun _ => A3 (by omega), fun j hj => by omega⟩, rfl, g1, ⟨fun j hj => by omega, fun i j hi => by omega, fun j hj => by omega, fun h => by omega, fun _ h => by omega, fun _ _ => Or.inr ⟨rfl, by unfold wl; rw [if_pos rfl]⟩, by omega⟩, ⟨fun p => ?_, fun z => by omega, fun p hp => ?_⟩, fun o hW p q hp hj hh => ?_, fun o n' hR => ?_, limE⟩
      · rw [occ_wl, D1 p]
        constructor
        · rintro (h | h | h)
          · exact ⟨Or.inl (by rw [h]; exact PlL), by omega⟩
          · exact ⟨Or.inr (Or.inl h), by omega⟩
          · exact ⟨Or.inl h.1, by omega⟩
        · rintro ⟨h | h | h, h2⟩
          · by_cases c : p = L
            · exact Or.inl c
            · exact Or.inr (Or.inr ⟨h, fun z => c z.1⟩)
          · exact Or.inr (Or.inl h)
          · omega
      · rcases hp with h | h | h
        · exact D3 p h
        · rw [h]; exact hv
        · omega
      · unfold wl at hp
        by_cases c1 : p = P
        · exact absurd c1 (hh rfl).1
        · rw [if_neg c1] at hp
          by_cases c2 : p = L
          · rw [if_pos c2] at hp
            exact absurd (Option.some.inj hp).symm (hh rfl).2
          · rw [if_neg c2] at hp
            exact hW p q hp hj (fun z => by omega)
      · obtain ⟨r1, r2, r3, ⟨s, r4, r5, r6⟩, r7, r8⟩ := hR
        have i1 : insd 0 1 := Or.inr rfl
        have i0 : ¬ insd 0 0 := fun z => by unfold insd at z; omega
        refine ⟨r1, r2, fun z => by omega, ⟨s, r4, r5, fun _ => ⟨fun z => by omega, fun _ => (r6.2 i0).1 (Or.inr rfl)⟩, fun z => absurd i1 z⟩, fun z => ?_, fun j hj => by omega⟩
        exact r7 (Or.inr ⟨i0, Or.inr rfl⟩)
/-- what reading a page leaves of the reference -/
def Pf (o o' : Ob) : Prop := (∀ k, ¬ (k = 18 ∨ k = 19 ∨ k = 22 ∨ k = 23 ∨ k = 24) → oA o' k = oA o k) ∧ ∀ k, ¬ (k = 20 ∨ k = 21 ∨ (25 ≤ k ∧ k ≤ 28)) → oV o' k = oV o k
theorem Pf_rf (o : Ob) : Pf o o := ⟨fun _ _ => rfl, fun _ _ => rfl⟩
theorem Pf_tr {o o' o'' : Ob} (h : Pf o o') (h' : Pf o' o'') : Pf o o'' := ⟨fun k a => (h'.1 k a).trans (h.1 k a), fun k a => (h'.2 k a).trans (h.2 k a)⟩
theorem p_treeIs (hR : PR o n D st nd lim L 1) (hW : PW o D nd w 1 P) (hS : PS n D st nd lim K w L 1 P) (hD : PD Pl w st L) (hv : vp 180 P) (hM : Mt w) (hn : n ≤ 180) (hD8 : D ≤ 80) : ∃ o', FX7_treeIs (jI (rp P)) o = some o' ∧ PR o' n D st nd lim L 0 ∧ PW o' D nd w 0 P ∧ Pf o o' ∧ oA o' 22 = oA o 22 ∧ oA o' 24 = oA o 24 := by
  obtain ⟨r1, r2, -, ⟨s, r4, r5, r6⟩, r7, r8⟩ := hR
  obtain ⟨S1, S2, S3, S4, S5, S6, S7⟩ := hS
  have i1 : insd D 1 := Or.inr rfl
  have vpw : ∀ p q, w p = some q → vp 180 p ∧ vp 180 q := fun p q h => ⟨hD.2.2 p ((hD.1 p).mp (by rw [h]; exact fun z => by cases z)).1, hD.2.2 q ((hD.1 q).mp (by rw [(hM _ _ h).1]; exact fun z => by cases z)).1⟩
  -- the raw row behind one more wire
  have wires : ∀ (o1 : Ob) (a : Port), (∀ p q, w p = some q → (∀ j, j < D → p ≠ (nd j, 0) ∧ q ≠ (nd j, 0)) → p ≠ P ∧ q ≠ P → oA o1 23 (rp p) = jI (rp q)) → w P = some a → ∀ o2, (∀ j, oA o2 23 j = if j = rp a then jI (rp P) else if j = rp P then jI (rp a) else oA o1 23 j) → PW o2 D nd w 0 P := by
    intro o1 a h1 ha o2 h2 p q hp hj _
    have v1 := vpw p q hp
    have va := (vpw P a ha).2
    have hPa := hM P a ha
    rw [h2]
    by_cases c1 : p = a
    · rw [if_pos (by rw [c1])]
      rw [c1, hPa.1] at hp
      rw [Option.some.inj hp]
    · rw [if_neg (fun z => c1 (rp_inj v1.1 va z))]
      by_cases c2 : p = P
      · rw [if_pos (by rw [c2])]
        rw [c2, ha] at hp
        rw [Option.some.inj hp]
      · rw [if_neg (fun z => c2 (rp_inj v1.1 hv z))]
        refine h1 p q hp hj ⟨c2, fun z => c1 ?_⟩
        have := (hM p q hp).1
        rw [z, ha] at this
        exact (Option.some.inj this).symm
  have hW' : ∀ p q, w p = some q → (∀ j, j < D → p ≠ (nd j, 0) ∧ q ≠ (nd j, 0)) → p ≠ P ∧ q ≠ P → oA o 23 (rp p) = jI (rp q) := fun p q a b c => hW p q a b (fun _ => c)
  unfold FX7_treeIs
  rw [r1]
  by_cases dz : D = 0
  · subst dz
    rw [if_pos (by rfl), r4]
    have i0 : ¬ insd 0 0 := fun z => by unfold insd at z; omega
    rcases S6 rfl rfl with ⟨rfl, rfl⟩ | ⟨rfl, hPL⟩
    · have s0 : s = 0 := (r6.1 i1).1 rfl
      subst s0
      rw [if_pos (by rfl), lT_eq, lT_eq, lT_eq]
      refine ⟨_, rfl, ⟨r1, r2, fun _ => rfl, ⟨1, rfl, by omega, fun z => absurd z i0, fun _ => ⟨fun _ => rfl, fun z => by omega⟩⟩, fun _ => rfl, fun j hj => by omega⟩, fun p q hp hj _ => ?_, ⟨fun k _ => rfl, fun k hk => ?_⟩, rfl, rfl⟩
      · refine hW p q hp hj (fun _ => ⟨fun z => ?_, fun z => ?_⟩)
        · exact ((hD.1 p).mp (by rw [hp]; exact fun z => by cases z)).2 ⟨z, Or.inl rfl⟩
        · exact ((hD.1 q).mp (by rw [(hM _ _ hp).1]; exact fun z => by cases z)).2 ⟨z, Or.inl rfl⟩
      · rw [oV_sV, if_neg (by omega), oV_sV, if_neg (by omega), oV_sV, if_neg (by omega)]
    · have s1 : s = 1 := (r6.1 i1).2 rfl
      subst s1
      have hvL := (vpw P L hPL).2
      rw [if_neg (by decide), r7 (Or.inl ⟨i1, rfl⟩), m_rawWire hvL hv, b1_some, lT_eq, lT_eq]
      refine ⟨_, rfl, ⟨r1, r2, fun _ => rfl, ⟨0, rfl, by omega, fun z => absurd z i0, fun _ => ⟨fun z => by omega, fun _ => rfl⟩⟩, fun z => ?_, fun j hj => by omega⟩, ?_, ⟨fun k hk => ?_, fun k hk => ?_⟩, ?_, ?_⟩
      · rcases z with z | z
        · exact absurd z.1 i0
        · omega
      · have hne : rp L ≠ rp P := fun z => (hM _ _ hPL).2 (rp_inj hvL hv z).symm
        refine wires o L hW' hPL _ (fun j => ?_)
        rw [oA_sV, oA_sV, sA_rw, sA_rw]
        by_cases c : j = rp P
        · rw [if_pos c, if_neg (by omega), if_pos c]
        · rw [if_neg c, if_neg c]
      · rw [oA_sV, oA_sV, sA_ne _ _ _ (by omega), sA_ne _ _ _ (by omega)]
      · rw [oV_sV, if_neg (by omega), oV_sV, if_neg (by omega)]; rfl
      · rw [oA_sV, oA_sV, sA_ne _ _ _ (by omega), sA_ne _ _ _ (by omega)]
      · rw [oA_sV, oA_sV, sA_ne _ _ _ (by omega), sA_ne _ _ _ (by omega)]
  · have dpos : 0 < D := by omega
    have i0 : insd D 0 := Or.inl dz
    have eD : jI (D : Int) - 1 = jI ((D - 1 : Nat)) := jI_s1 (by omega)
    obtain ⟨t1, t2⟩ := S5 rfl dpos
    obtain ⟨s1, s2, s3⟩ := S1 (D - 1) (by omega)
    obtain ⟨a1, a2⟩ := r8 (D - 1) (by omega)
    rw [if_neg (show ¬ (D - 1 + 1 = D ∧ 1 = 0) by omega)] at a2
    have hva := (vpw P _ t2).2
    have erp : (((3 : Int32) * jI (nd (D - 1) : Int)) + 1) + jI ((lim (nd (D - 1)) - 1 : Nat) : Int) = jI (rp (nd (D - 1), lim (nd (D - 1)))) := by
      rw [j_3, j_1, jI_mul, jI_add, jI_add]
      congr 1
      unfold rp
      rw [if_neg (by simp only; omega)]
      simp only
      omega
    rw [if_neg (by rw [j_0, jI_le (by omega) (by omega) (by omega) (by omega)]; omega), eD, if_pos (by rw [jI_inb (by omega) (by omega)]; omega), lT_eq, jc _ (by omega), a1, a2, erp, m_rawWire hva hv, b1_some]
    have row : ∀ (x y : Int32) (j : Nat), oA (sA (sA o 23 (rp (nd (D - 1), lim (nd (D - 1)))) x) 23 (rp P) y) 19 j = oA o 19 j := fun x y j => by rw [sA_ne _ _ _ (by omega), sA_ne _ _ _ (by omega)]
    have el : jI ((lim (nd (D - 1)) - 1 : Nat) : Int) + 1 = jI (lim (nd (D - 1))) := by rw [jI_p1]; congr 2; omega
    have jD : (jI ((D - 1 : Nat) : Int)).toNatClampNeg = D - 1 := jc _ (by omega)
    simp only [lT_eq, oV_sA, r1, eD, jD, row, a2, el, sA_rw, if_true]
    have hin : inb (jI ((D - 1 : Nat) : Int)) 80 := by rw [jI_inb (by omega) (by omega)]; omega
    rw [if_pos hin, if_pos hin]
    -- what is left alike in both
    have fin : ∀ v : Nat, v = stt D st (lim (nd (D - 1))) → ∃ o', some (sV (sA (sA (sA o 23 (rp (nd (D - 1), lim (nd (D - 1)))) (jI (rp P))) 23 (rp P) (jI (rp (nd (D - 1), lim (nd (D - 1)))))) 19 (D - 1) (jI (lim (nd (D - 1))))) 25 (jI v)) = some o' ∧ PR o' n D st nd lim L 0 ∧ PW o' D nd w 0 P ∧ Pf o o' ∧ oA o' 22 = oA o 22 ∧ oA o' 24 = oA o 24 := by
      intro v hv'
      refine ⟨_, rfl, ⟨r1, r2, fun _ => by rw [oV_sV, if_pos rfl, hv'], ⟨s, r4, r5, fun _ => r6.1 i1, fun z => absurd i0 z⟩, fun z => r7 ?_, fun j hj => ⟨?_, ?_⟩⟩, ?_, ⟨fun k hk => ?_, fun k hk => ?_⟩, ?_, ?_⟩
      · rcases z with z | z
        · exact Or.inl ⟨i1, z.2⟩
        · exact absurd i0 z.1
      · rw [oA_sV, sA_ne _ _ _ (by omega), sA_ne _ _ _ (by omega), sA_ne _ _ _ (by omega)]
        exact (r8 j hj).1
      · rw [oA_sV, sA_rw]
        by_cases c : j = D - 1
        · rw [if_pos c, if_pos ⟨by omega, rfl⟩, c]
        · rw [if_neg c, row, (r8 j hj).2, if_neg (by omega), if_neg (by omega)]
      · have hne : rp (nd (D - 1), lim (nd (D - 1))) ≠ rp P := fun z => (hM _ _ t2).2 (rp_inj hva hv z).symm
        refine wires o _ hW' t2 _ (fun j => ?_)
        rw [oA_sV, sA_ne _ _ _ (by omega), sA_rw, sA_rw]
        by_cases c : j = rp P
        · rw [if_pos c, if_neg (by omega), if_pos c]
        · rw [if_neg c, if_neg c]
      · rw [oA_sV, sA_ne _ _ _ (by omega), sA_ne _ _ _ (by omega), sA_ne _ _ _ (by omega)]
      · rw [oV_sV, if_neg (by omega)]; rfl
      · rw [oA_sV, sA_ne _ _ _ (by omega), sA_ne _ _ _ (by omega), sA_ne _ _ _ (by omega)]
      · rw [oA_sV, sA_ne _ _ _ (by omega), sA_ne _ _ _ (by omega), sA_ne _ _ _ (by omega)]
    by_cases c2 : lim (nd (D - 1)) = 2
    · rw [if_pos (by rw [c2]; rfl)]
      exact fin 3 (by unfold stt; rw [if_neg dz, if_pos c2])
    · rw [if_neg (by rw [j_2, jI_eq (by omega) (by omega) (by omega) (by omega)]; omega)]
      exact fin 0 (by unfold stt; rw [if_neg dz, if_neg c2])
end PL1
