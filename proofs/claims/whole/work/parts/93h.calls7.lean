/-! same; an image kept, and gone back to -/
def opB (w w' : Wr) : Nat → Nat → Bool
  | 0, _ => true
  | d + 1, i => decide ((w (i, 3) = none) ↔ (w' (i, 3) = none)) && opB w w' d (i + 1)
theorem opB_s (w w' : Wr) (d i : Nat) : opB w w' (d + 1) i = (decide ((w (i, 3) = none) ↔ (w' (i, 3) = none)) && opB w w' d (i + 1)) := rfl
def sg (l : List Nat) : List Int32 := l.map (fun (x : Nat) => jI x)
section C7
variable {n : Nat} {M : Nat → Ob} {o : Ob}
theorem Bq_o {N N' : Nt} {t hi s s' l : Nat} {cs : Nat → Nat} (h : Bq n M o N N' t hi s s' l cs) {o' : Ob} (hA : ∀ k, k ≠ 39 → oA o' k = oA o k) (hV : ∀ k, oV o' k = oV o k) : Bq n M o' N N' t hi s s' l cs := by
  obtain ⟨a1, a2, a3, a4, a5, a6, a7, a8, a9⟩ := h
  have nb : ∀ g b dr N, dr ≠ 39 → NB g o b dr N → NB g o' b dr N := fun g b dr N hd ⟨b1, b2, b3, b4, b5⟩ => ⟨b1, b2, Sl_o b3 (hA 0 (by omega)) (hA 1 (by omega)) (hA 2 (by omega)) (hA 3 (by omega)), by rw [hA dr hd]; exact b4, by rw [hA dr hd]; exact b5⟩
  have sb : ∀ x vs r1 r2 r3 s, r1 ≠ 39 → r2 ≠ 39 → r3 ≠ 39 → SB x o vs r1 r2 r3 s → SB x o' vs r1 r2 r3 s := fun x vs r1 r2 r3 s h1 h2 h3 ⟨b1, b2, b3, b4, b5⟩ => ⟨b1, b2, by rw [hV vs]; exact b3, by rw [hA r1 h1, hA r2 h2, hA r3 h3]; exact b4, b5⟩
  exact ⟨nb _ _ _ _ (by omega) a1, by rw [hV 4]; exact a2, FB_v a3 (hV 5) (hV 42) (hV 43), a4, a5, fun z => nb _ _ _ _ (by omega) (a6 z), sb _ _ _ _ _ _ (by omega) (by omega) (by omega) a7, sb _ _ _ _ _ _ (by omega) (by omega) (by omega) a8, PgB_v a9 (hV 11) (hA 12 (by omega))⟩
theorem c_opens {g g' : Ob} {w w' : Wr} (hg : RW 60 g w) (hg' : RW 60 g' w') : ∀ (e i F : Nat), i + e = 8 → e < F → LX2_hasOpenWiresOf_2 60 60 g g' F (jI i) = some (if opB w w' e i = true then 1 else 0) := by
  intro e
  induction e with
  | zero =>
    intro i F hi hF
    obtain ⟨F, rfl⟩ : ∃ f', F = f' + 1 := ⟨F - 1, by omega⟩
    rw [LX2_hasOpenWiresOf_2.eq_2, if_pos (by rw [j_8, jI_le (by omega) (by omega) (by omega) (by omega)]; omega)]
    rfl
  | succ e ih =>
    intro i F hi hF
    obtain ⟨F, rfl⟩ : ∃ f', F = f' + 1 := ⟨F - 1, by omega⟩
    rw [LX2_hasOpenWiresOf_2.eq_2, if_neg (by rw [j_8, jI_le (by omega) (by omega) (by omega) (by omega)]; omega), s_isOpen (by omega) hg (by omega), b1_some, s_isOpen (by omega) hg' (by omega), b1_some, lT_eq, jI_p1, ih (i + 1) F (by omega) (by omega), opB_s]
    by_cases c1 : w (i, 3) = none <;> by_cases c2 : w' (i, 3) = none <;> simp [c1, c2]
theorem m_opens {o : Ob} {K K' : Kd} {w w' : Wr} {r r' : Nat} (h0 : Sl 0 o K w r) (h1 : Sl 1 o K' w' r') (E : Int32 → Option (Int32 × Ob)) : ∀ (e i F : Nat) (x : Nat), i + e = 8 → e < F → x ≤ 1 → LX7_same_166 o E F (jI x) (jI i) = E (if x = 1 ∧ opB w w' e i = true then 1 else 0) := by
  have vl : ∀ (i : Nat), i < 8 → (oA o 2 i = -1 ↔ w (i, 3) = none) ∧ (oA o 2 (8 + i) = -1 ↔ w' (i, 3) = none) := by
    intro i hi
    have key : ∀ {b : Nat} {K : Kd} {w : Wr} {r : Nat}, Sl b o K w r → (oA o 2 (8 * b + i) = -1 ↔ w (i, 3) = none) := by
      intro b K w r h
      constructor
      · intro z
        cases hq : w (i, 3) with
        | none => rfl
        | some q =>
          exfalso
          obtain ⟨a1, a2, a3⟩ := h.2.1.1 _ _ hq
          have := mp_lt a2
          unfold ma at a3
          rw [if_pos rfl] at a3
          simp only at a3
          rw [a3, j_m1, jI_eq (by omega) (by omega) (by omega) (by omega)] at z
          omega
      · intro z
        exact h.2.1.2 i hi z
    have k0 := key h0
    have k1 := key h1
    rw [Nat.mul_zero, Nat.zero_add] at k0
    rw [Nat.mul_one] at k1
    exact ⟨k0, k1⟩
  intro e
  induction e with
  | zero =>
    intro i F x hi hF hx
    obtain ⟨F, rfl⟩ : ∃ f', F = f' + 1 := ⟨F - 1, by omega⟩
    rw [LX7_same_166.eq_2, if_pos (by rw [j_8, jI_le (by omega) (by omega) (by omega) (by omega)]; omega)]
    rcases (show x = 0 ∨ x = 1 by omega) with rfl | rfl
    · rw [if_neg (by omega)]; rfl
    · rw [if_pos ⟨rfl, rfl⟩]; rfl
  | succ e ih =>
    intro i F x hi hF hx
    obtain ⟨F, rfl⟩ : ∃ f', F = f' + 1 := ⟨F - 1, by omega⟩
    rw [LX7_same_166.eq_2, if_neg (by rw [j_8, jI_le (by omega) (by omega) (by omega) (by omega)]; omega)]
    rcases (show x = 0 ∨ x = 1 by omega) with rfl | rfl
    · rw [if_pos (by rfl), lT_eq, jI_p1]
      refine (ih (i + 1) F 0 (by omega) (by omega) (by omega)).trans ?_
      rw [if_neg (by omega), if_neg (by omega)]
    · obtain ⟨v1, v2⟩ := vl i (by omega)
      have b93 : ∀ y : Nat, y ≤ 1 → (y = 1 ↔ w (i, 3) = none) → BX7_same_193 (LX7_same_166 o E F) (jI i) (jI y) o = E (if opB w w' (e + 1) i = true then 1 else 0) := by
        intro y hy hyw
        have i0 := ih (i + 1) F 0 (by omega) (by omega) (by omega)
        have i1 := ih (i + 1) F 1 (by omega) (by omega) (by omega)
        rw [if_neg (by omega)] at i0
        have z0 : jI ((0 : Nat) : Int) = (0 : Int32) := rfl
        have z1 : jI ((1 : Nat) : Int) = (1 : Int32) := rfl
        rw [z0] at i0
        rw [z1] at i1
        unfold BX7_same_193
        rw [opB_s, show (8 : Int32) + jI (i : Int) = jI ((8 + i : Nat)) from by rw [j_8, jI_add]; rfl, if_pos (by rw [jI_inb (by omega) (by omega)]; omega), jc _ (by omega)]
        simp only [lT_eq, jI_p1, i0, i1]
        by_cases c2 : w' (i, 3) = none
        · rw [if_pos (v2.mpr c2)]
          by_cases c1 : w (i, 3) = none
          · rw [if_pos (by rw [hyw.mpr c1]; rfl)]
            simp [c1, c2]
          · have : y = 0 := by have : y ≠ 1 := fun z => c1 (hyw.mp z); omega
            rw [if_neg (by rw [this]; decide)]
            simp [c1, c2]
        · rw [if_neg (fun z => c2 (v2.mp z))]
          by_cases c1 : w (i, 3) = none
          · rw [if_neg (by rw [hyw.mpr c1]; decide)]
            simp [c1, c2]
          · have : y = 0 := by have : y ≠ 1 := fun z => c1 (hyw.mp z); omega
            rw [if_pos (by rw [this]; rfl)]
            simp [c1, c2]
      rw [if_neg (by decide), if_pos (by rw [jI_inb (by omega) (by omega)]; omega), jc _ (by omega)]
      by_cases c1 : w (i, 3) = none
      · rw [if_pos (v1.mpr c1)]
        refine (b93 1 (by omega) ⟨fun _ => c1, fun _ => rfl⟩).trans ?_
        simp
      · rw [if_neg (fun z => c1 (v1.mp z))]
        refine (b93 0 (by omega) ⟨fun z => by omega, fun z => absurd z c1⟩).trans ?_
        simp
theorem sg_cons {l : List Nat} {i : Nat} (h : i < l.length) : (sg l).drop i = jI ((l[i]'h : Nat)) :: (sg l).drop (i + 1) := by
  unfold sg
  rw [List.drop_eq_getElem_cons (by simpa using h)]
  simp
theorem c_like {o8 o9 : Ob} {l l' : List Nat} (h1 : oV o8 2 = jI l.length) (h2 : SgA (oA o8 0) l) (h3 : l.length ≤ 556) (g1 : oV o9 2 = jI l'.length) (g2 : SgA (oA o9 0) l') (hl : l.length = l'.length) : ∀ (e i F : Nat), i + e = l.length → e < F → LX5_areLike_15 o8 o9 F (jI i) = some (if (sg l).drop i = (sg l').drop i then 1 else 0) := by
  intro e
  induction e with
  | zero =>
    intro i F hi hF
    obtain ⟨F, rfl⟩ : ∃ f', F = f' + 1 := ⟨F - 1, by omega⟩
    rw [LX5_areLike_15.eq_2, h1, if_pos (by rw [jI_le (by omega) (by omega) (by omega) (by omega)]; omega), List.drop_eq_nil_of_le (by unfold sg; simp; omega), List.drop_eq_nil_of_le (by unfold sg; simp; omega), if_pos rfl]
  | succ e ih =>
    intro i F hi hF
    obtain ⟨F, rfl⟩ : ∃ f', F = f' + 1 := ⟨F - 1, by omega⟩
    have gl : l[i]? = some (l[i]'(by omega)) := List.getElem?_eq_getElem (by omega)
    have gl' : l'[i]? = some (l'[i]'(by omega)) := List.getElem?_eq_getElem (by omega)
    rw [LX5_areLike_15.eq_2, h1, if_neg (by rw [jI_le (by omega) (by omega) (by omega) (by omega)]; omega), c_at h1 h2 h3 (by omega), b1_some, c_at g1 g2 (by omega) (by omega), b1_some, gl, gl', kI_s, kI_s, lT_eq, jI_p1, ih (i + 1) F (by omega) (by omega), sg_cons (l := l) (i := i) (by omega), sg_cons (l := l') (i := i) (by omega)]
    by_cases c : jI ((l[i]'(by omega) : Nat) : Int) = jI ((l'[i]'(by omega) : Nat) : Int)
    · rw [if_pos c, c]
      simp
    · rw [if_neg c, if_neg (fun z => c (List.cons.inj z).1)]
theorem c_areLike {o8 o9 : Ob} {l l' : List Nat} (h1 : oV o8 2 = jI l.length) (h2 : SgA (oA o8 0) l) (h3 : l.length ≤ 556) (g1 : oV o9 2 = jI l'.length) (g2 : SgA (oA o9 0) l') (g3 : l'.length ≤ 556) : FX5_areLike o8 o9 = some (if sg l = sg l' then 1 else 0) := by
  unfold FX5_areLike
  rw [h1, g1]
  by_cases c : l.length = l'.length
  · rw [if_pos (by rw [c])]
    refine (c_like h1 h2 h3 g1 g2 c l.length 0 fu (by omega) (by rw [fu_eq]; omega)).trans ?_
    rw [List.drop_zero, List.drop_zero]
  · rw [if_neg (by rw [jI_eq (by omega) (by omega) (by omega) (by omega)]; omega), if_neg (fun z => c (by have := congrArg List.length z; unfold sg at this; simpa using this))]
theorem m_keep {l : List Nat} (hl : l.length ≤ 556) (x2 : Int32) (E : Ob → Option (Int32 × Ob)) : ∀ (e i F : Nat) (o : Ob), i + e = l.length → e < F → SgA (oA o 33) l → (∀ j v, j < i → l[j]? = some v → oA o 39 j = jI v) → ∃ o', LX7_same_51 (jI l.length) x2 E F (jI i) o = E o' ∧ SgA (oA o' 39) l ∧ (∀ k, k ≠ 39 → oA o' k = oA o k) ∧ ∀ k, oV o' k = oV o k := by
  intro e
  induction e with
  | zero =>
    intro i F o hi hF h hk
    obtain ⟨F, rfl⟩ : ∃ f', F = f' + 1 := ⟨F - 1, by omega⟩
    refine ⟨o, by rw [LX7_same_51.eq_2, if_pos (by rw [jI_le (by omega) (by omega) (by omega) (by omega)]; omega)], fun j v hv => hk j v ?_ hv, fun _ _ => rfl, fun _ => rfl⟩
    rcases Nat.lt_or_ge j l.length with c | c
    · omega
    · rw [List.getElem?_eq_none c] at hv; cases hv
  | succ e ih =>
    intro i F o hi hF h hk
    obtain ⟨F, rfl⟩ : ∃ f', F = f' + 1 := ⟨F - 1, by omega⟩
    have gl : l[i]? = some (l[i]'(by omega)) := List.getElem?_eq_getElem (by omega)
    obtain ⟨o', q1, q2, q3, q4⟩ := ih (i + 1) F (sA o 39 i (oA o 33 i)) (by omega) (by omega) (by rw [sA_ne _ _ _ (by omega)]; exact h) (fun j v hj hv => by
      rw [sA_rw]
      by_cases c : j = i
      · rw [if_pos c]; rw [c] at hv; exact h i v hv
      · rw [if_neg c]; exact hk j v (by omega) hv)
    refine ⟨o', ?_, q2, fun k hk => by rw [q3 k hk, sA_ne _ _ _ hk], fun k => q4 k⟩
    rw [LX7_same_51.eq_2, if_neg (by rw [jI_le (by omega) (by omega) (by omega) (by omega)]; omega), if_neg (by rw [j_1000, jI_le (by omega) (by omega) (by omega) (by omega)]; omega), if_pos (by rw [jI_inb (by omega) (by omega)]; omega), lT_eq, lT_eq, jI_p1, jc _ (by omega)]
    exact q1
theorem m_cmp {o : Ob} {l l' : List Nat} (h3 : l.length ≤ 556) (h2 : SgA (oA o 39) l) (g2 : SgA (oA o 33) l') (hl : l.length = l'.length) (E : Int32 → Option (Int32 × Ob)) : ∀ (e i F : Nat), i + e = l.length → e + 1 < F → LX7_same_124 (jI l.length) o E F (1 : Int32) (jI i) = E (if (sg l').drop i = (sg l).drop i then 1 else 0) := by
  intro e
  induction e with
  | zero =>
    intro i F hi hF
    obtain ⟨F, rfl⟩ : ∃ f', F = f' + 1 := ⟨F - 1, by omega⟩
    rw [LX7_same_124.eq_2, if_pos (by rw [jI_le (by omega) (by omega) (by omega) (by omega)]; omega), List.drop_eq_nil_of_le (by unfold sg; simp; omega), List.drop_eq_nil_of_le (by unfold sg; simp; omega), if_pos rfl]
  | succ e ih =>
    intro i F hi hF
    obtain ⟨F, rfl⟩ : ∃ f', F = f' + 1 := ⟨F - 1, by omega⟩
    have gl : l[i]? = some (l[i]'(by omega)) := List.getElem?_eq_getElem (by omega)
    have gl' : l'[i]? = some (l'[i]'(by omega)) := List.getElem?_eq_getElem (by omega)
    rw [LX7_same_124.eq_2, if_neg (by rw [jI_le (by omega) (by omega) (by omega) (by omega)]; omega), if_neg (by decide), if_pos (by rw [jI_inb (by omega) (by omega)]; omega), jc _ (by omega), h2 i _ gl, g2 i _ gl', lT_eq, lT_eq, jI_p1, ih (i + 1) F (by omega) (by omega), sg_cons (l := l) (i := i) (by omega), sg_cons (l := l') (i := i) (by omega)]
    by_cases c : jI ((l'[i]'(by omega) : Nat) : Int) = jI ((l[i]'(by omega) : Nat) : Int)
    · rw [if_pos c, c]
      simp
    · rw [if_neg c, if_neg (fun z => c (List.cons.inj z).1)]
      obtain ⟨F, rfl⟩ : ∃ f', F = f' + 1 := ⟨F - 1, by omega⟩
      rw [LX7_same_124.eq_2]
      by_cases c2 : jI (l.length : Int) ≤ jI ((i + 1 : Nat) : Int)
      · rw [if_pos c2]
      · rw [if_neg c2, if_pos rfl]
theorem m_cmp0 {o : Ob} (x1 : Int32) (E : Int32 → Option (Int32 × Ob)) : LX7_same_124 x1 o E fu (0 : Int32) (0 : Int32) = E 0 := by
  rw [show fu = 4999 + 1 from rfl, LX7_same_124.eq_2]
  by_cases c2 : x1 ≤ (0 : Int32)
  · rw [if_pos c2]
  · rw [if_neg c2, if_pos rfl]
theorem ok_same (hn : n < 64) (hb : Bd n M o) : ∃ (r : Int32) (M' : Nat → Ob) (o' : Ob), FX6_same M = some (r, M') ∧ FX7_same o = some (r, o') ∧ Bd (n + 1) M' o' := by
  obtain ⟨N, N', t, hi, s, s', l, cs, h⟩ := hb
  obtain ⟨-, -, n2⟩ := isNet_t h.2.2.1 h.2.2.2.1 (by omega)
  have ht := h.2.2.2.1
  obtain ⟨f1, f2, f3, f4, f5, f6, f7⟩ := h.2.2.1
  have z0 : (0 : Int32) = jI ((0 : Nat) : Int) := rfl
  have z1 : (1 : Int32) = jI ((1 : Nat) : Int) := rfl
  have z2 : (2 : Int32) = jI ((2 : Nat) : Int) := rfl
  rcases (show hi = 0 ∨ hi = 1 by omega) with hi0 | hi1
  · refine ⟨-103, M, o, ?_, ?_, Bq_up h⟩
    · unfold FX6_same
      by_cases t0 : t = 0
      · rw [if_pos (n2.mpr t0)]
      · rw [if_neg (fun z => t0 (n2.mp z)), f2, if_pos (by rw [hi0]; rfl)]
    · unfold FX7_same
      rcases f7 hi0 with y | ⟨t', y1, y2⟩
      · rw [if_pos y]
      · by_cases c42 : oV o 42 = 0
        · rw [if_pos c42]
        · rw [if_neg c42, y2, f4, if_neg (by rw [jI_eq (by omega) (by omega) (by omega) (by omega)]; omega)]
  · obtain ⟨tp, x42, x43⟩ := f6 hi1
    have hK := h.2.2.2.2.2.1 hi1
    obtain ⟨bd1, bd2⟩ := NB_bd h.1
    obtain ⟨bk1, bk2⟩ := NB_bd hK
    obtain ⟨g1, g2, hh⟩ := c_find4 (M := M) hK.1 hK.2.1
    have ref1 : FX7_same o = b2 (FX7_layEnding (0 : Int32) o) (fun r_1 o0_2 => if r_1 = 0 then some ((-2 : Int32), o0_2) else b1 (FX7_layReading (2 : Int32) o0_2) fun o0_4 => lT (oV o0_4 34) fun x1_6 => lT (oA o0_4 3 (2 : Int32).toNatClampNeg) fun x2_8 => LX7_same_51 x1_6 x2_8 (fun o0_17 => BX7_same_81 x1_6 x2_8 o0_17) fu (0 : Int32) o0_4) := by
      unfold FX7_same
      rw [x42, if_neg (by decide), x43, f4, if_pos rfl]
    have cls1 : FX6_same M = b2 (FX6_findEnding_4 M) (fun r_1 M_2 => if r_1 = 0 then some ((-2 : Int32), M_2) else b1 (FX5_tellAll 180 (M_2 9) (M_2 5)) fun s_4 => lT (sM M_2 9 s_4) fun M_6 => b1 (FX2_rings 180 (M_6 5)) fun r_8 => b2 (FX6_findEnding_3 M_6) fun r_10 M_11 => if r_10 = 0 then some ((-2 : Int32), M_11) else b1 (FX5_tellAll 180 (M_11 8) (M_11 5)) fun s_13 => lT (sM M_11 8 s_13) fun M_15 => b1 (FX2_rings 180 (M_15 5)) fun r_17 => if r_17 = r_8 then b1 (FX2_hasOpenWiresOf 60 60 (M_15 3) (M_15 4)) fun r_19 => if r_19 = 0 then BX6_same_118 M_15 else b1 (FX5_areLike (M_15 8) (M_15 9)) fun r_21 => if r_21 = 0 then BX6_same_118 M_15 else if (1 : Int32) = 0 then some ((0 : Int32), M_15) else some ((1 : Int32), M_15) else BX6_same_118 M_15) := by
      unfold FX6_same
      rw [if_neg (fun z => by have := n2.mp z; omega), f2, if_neg (by rw [hi1]; decide)]
    -- the net's own ending, in the reference
    have refN : NoEnd N → ∃ o', FX7_same o = some (-2, o') ∧ Wk o o' ∧ oV o' 4 = 0 := fun hE => by
      obtain ⟨o1, q1, q2, q3⟩ := m_noend (b := 0) (by omega) h.1.1 h.1.2.2.1 bd2 hE
      refine ⟨o1, ?_, q3, q2⟩
      rw [ref1, z0, q1, b2_some, if_pos (by rfl)]
    have refE : ∀ R ss M1, EndD N R ss M1 → ∃ o3, FX7_same o = BX7_same_81 (jI (rdg M1.1 M1.2.1).length) (jI M1.2.2) o3 ∧ Bq n M o3 N N' t hi s s' l cs ∧ SgA (oA o3 39) (rdg M1.1 M1.2.1) ∧ (rdg M1.1 M1.2.1).length ≤ 556 := fun R ss M1 hE => by
      obtain ⟨o1, M2, q1, q2, q3, q4, q5, q6, q7, q8, q9⟩ := m_end (b := 0) (by omega) h.1.1 h.1.2.2.1 bd2 bd1 hE
      obtain ⟨o2, p1, p2, p3, p4, p5, p6, p7⟩ := m_layReading (b := 2) (by omega) q3.1 q2 q2.1.2.1
      rw [q9] at p2 p3 p4
      obtain ⟨o3, k1, k2, k3, k4⟩ := m_keep p4 (jI M1.2.2) (fun o0_17 => BX7_same_81 (jI (rdg M1.1 M1.2.1).length) (jI M1.2.2) o0_17) (rdg M1.1 M1.2.1).length 0 fu o2 (by omega) (by rw [fu_eq]; omega) p3 (fun j v hj => by omega)
      refine ⟨o3, ?_, Bq_o (Bq_Wk (Bq_Wk h q6 q4) p6 p5) k3 k4, k2, p4⟩
      have r2 : oA o2 3 2 = jI M1.2.2 := by rw [p7 3 (by omega) (by omega) (by omega), q2.2.2, q8]
      have q1' : FX7_layEnding (0 : Int32) o = some (1, o1) := q1
      have p1' : FX7_layReading (2 : Int32) o1 = some o2 := p1
      rw [ref1, q1', b2_some, if_neg (by decide), p1', b1_some, lT_eq, lT_eq, p2, show (2 : Int32).toNatClampNeg = 2 from rfl, r2]
      exact k1
    rcases hh with ⟨R', ss', M1', e1, e2, e3, e4, e5⟩ | ⟨e1, e2⟩
    · obtain ⟨-, gd1', -⟩ := EndD_Rs hK.1 e2
      obtain ⟨o9, y1, y2, y3, y4⟩ := c_tellAll (N := 180) (by omega) gd1'.1 e3 (M 9)
      let Ma := sM (sM (sM M 5 g1) 5 g2) 9 o9
      have ca : Cls M Ma := Cls_tr (Cls_55 M _ _) (Cls_sM _ _ (by omega))
      obtain ⟨T', t', -, -, rn', -⟩ := e3
      obtain ⟨g3, g4, hh2⟩ := c_find (M := Ma) (N := N) h.1.1 h.1.2.1
      have cls2 : FX6_same M = b2 (FX6_findEnding_3 Ma) (fun r_10 M_11 => if r_10 = 0 then some ((-2 : Int32), M_11) else b1 (FX5_tellAll 180 (M_11 8) (M_11 5)) fun s_13 => lT (sM M_11 8 s_13) fun M_15 => b1 (FX2_rings 180 (M_15 5)) fun r_17 => if r_17 = jI M1'.2.2 then b1 (FX2_hasOpenWiresOf 60 60 (M_15 3) (M_15 4)) fun r_19 => if r_19 = 0 then BX6_same_118 M_15 else b1 (FX5_areLike (M_15 8) (M_15 9)) fun r_21 => if r_21 = 0 then BX6_same_118 M_15 else if (1 : Int32) = 0 then some ((0 : Int32), M_15) else some ((1 : Int32), M_15) else BX6_same_118 M_15) := by
        rw [cls1, e1, b2_some, if_neg (by decide), show (sM (sM M 5 g1) 5 g2) 5 = g2 from rfl, show (sM (sM M 5 g1) 5 g2) 9 = M 9 from rfl, y1, b1_some, lT_eq]
        show b1 (FX2_rings 180 g2) _ = _
        rw [show FX2_rings 180 g2 = some (jI M1'.2.2) from by unfold FX2_rings; rw [rn'], b1_some]
      rcases hh2 with ⟨R, ss, M1, v1, v2, v3, v4, v5⟩ | ⟨v1, v2⟩
      · obtain ⟨-, gd1, -⟩ := EndD_Rs h.1.1 v2
        obtain ⟨o3, w1, w2, w3, w4⟩ := refE R ss M1 v2
        obtain ⟨o8, x1, x2, x3, x4⟩ := c_tellAll (N := 180) (by omega) gd1.1 v3 (M 8)
        obtain ⟨T, t1, -, -, rn, -⟩ := v3
        let Mb := sM (sM (sM Ma 5 g3) 5 g4) 8 o8
        have cb : Cls M Mb := Cls_tr ca (Cls_tr (Cls_55 Ma _ _) (Cls_sM _ _ (by omega)))
        have op1 := c_opens h.1.2.1.choose_spec.choose_spec.2.1 hK.2.1.choose_spec.choose_spec.2.1 8 0 fu (by omega) (by rw [fu_eq]; omega)
        have lk1 := c_areLike x2 x3 x4 y2 y3 y4
        have cls3 : FX6_same M = some (if jI M1.2.2 = jI M1'.2.2 ∧ opB N.2.1 N'.2.1 8 0 = true ∧ sg (rdg M1.1 M1.2.1) = sg (rdg M1'.1 M1'.2.1) then 1 else 0, Mb) := by
          rw [cls2, v1, b2_some, if_neg (by decide)]
          show b1 (FX5_tellAll 180 (M 8) g4) _ = _
          rw [x1, b1_some, lT_eq]
          show b1 (FX2_rings 180 g4) (fun r_17 => if r_17 = jI M1'.2.2 then b1 (FX2_hasOpenWiresOf 60 60 (M 3) (M 4)) fun r_19 => if r_19 = 0 then BX6_same_118 Mb else b1 (FX5_areLike o8 o9) fun r_21 => if r_21 = 0 then BX6_same_118 Mb else if (1 : Int32) = 0 then some ((0 : Int32), Mb) else some ((1 : Int32), Mb) else BX6_same_118 Mb) = _
          rw [show FX2_rings 180 g4 = some (jI M1.2.2) from by unfold FX2_rings; rw [rn], b1_some]
          have b118 : BX6_same_118 Mb = some (0, Mb) := by unfold BX6_same_118; rw [if_pos rfl]
          rw [b118]
          by_cases cA : jI (M1.2.2 : Int) = jI (M1'.2.2 : Int)
          · rw [if_pos cA]
            have op1' : FX2_hasOpenWiresOf 60 60 (M 3) (M 4) = some (if opB N.2.1 N'.2.1 8 0 = true then 1 else 0) := op1
            rw [op1', b1_some]
            by_cases cB : opB N.2.1 N'.2.1 8 0 = true
            · rw [if_pos cB, if_neg (by decide), lk1, b1_some]
              by_cases cC : sg (rdg M1.1 M1.2.1) = sg (rdg M1'.1 M1'.2.1)
              · rw [if_pos cC, if_neg (by decide), if_neg (by decide), if_pos ⟨cA, cB, cC⟩]
              · rw [if_neg cC, if_pos rfl, if_neg (fun z => cC z.2.2)]
            · rw [if_neg cB, if_pos rfl, if_neg (fun z => cB z.2.1)]
          · rw [if_neg cA, if_neg (fun z => cA z.1)]
        -- the reference, the image's ending
        have hK3 := w2.2.2.2.2.2.1 hi1
        obtain ⟨o4, M2', q1, q2, q3, q4, q5, q6, q7, q8, q9⟩ := m_end (b := 1) (by omega) hK3.1 hK3.2.2.1 bk2 bk1 e2
        obtain ⟨o5, p1, p2, p3, p4, p5, p6, p7⟩ := m_layReading (b := 2) (by omega) q3.1 q2 q2.1.2.1
        rw [q9] at p2 p3 p4
        have w6 := Bq_Wk (Bq_Wk w2 q6 q4) p6 p5
        have r39 : SgA (oA o5 39) (rdg M1.1 M1.2.1) := by rw [p7 39 (by omega) (by omega) (by omega), q6.2.2.2.2.1 39 (by unfold Pk; omega)]; exact w3
        have r2 : oA o5 3 2 = jI M1'.2.2 := by rw [p7 3 (by omega) (by omega) (by omega), q2.2.2, q8]
        have hK6 := w6.2.2.2.2.2.1 hi1
        have opn := m_opens w6.1.2.2.1 hK6.2.2.1 (fun x3_50 => if x3_50 = 0 then some ((0 : Int32), o5) else some ((1 : Int32), o5)) 8 0 fu
        have op1 := opn 1 (by omega) (by rw [fu_eq]; omega) (by omega)
        have op0 := opn 0 (by omega) (by rw [fu_eq]; omega) (by omega)
        rw [if_neg (show ¬ (0 = 1 ∧ opB N.2.1 N'.2.1 8 0 = true) from fun z => by have := z.1; omega)] at op0
        have op0' : LX7_same_166 o5 (fun x3_50 => if x3_50 = 0 then some ((0 : Int32), o5) else some ((1 : Int32), o5)) fu (0 : Int32) (0 : Int32) = some (0, o5) := by
          refine op0.trans ?_
          rw [if_pos rfl]
        have op1' : LX7_same_166 o5 (fun x3_50 => if x3_50 = 0 then some ((0 : Int32), o5) else some ((1 : Int32), o5)) fu (1 : Int32) (0 : Int32) = some (if opB N.2.1 N'.2.1 8 0 = true then 1 else 0, o5) := by
          refine op1.trans ?_
          by_cases cB : opB N.2.1 N'.2.1 8 0 = true
          · rw [if_pos (show 1 = 1 ∧ opB N.2.1 N'.2.1 8 0 = true from ⟨rfl, cB⟩), if_neg (by decide), if_pos cB]
          · rw [if_neg (show ¬ (1 = 1 ∧ opB N.2.1 N'.2.1 8 0 = true) from fun z => cB z.2), if_pos rfl, if_neg cB]
        have ref3 : FX7_same o = some (if jI M1.2.2 = jI M1'.2.2 ∧ opB N.2.1 N'.2.1 8 0 = true ∧ sg (rdg M1.1 M1.2.1) = sg (rdg M1'.1 M1'.2.1) then 1 else 0, o5) := by
          have q1' : FX7_layEnding (1 : Int32) o3 = some (1, o4) := q1
          have p1' : FX7_layReading (2 : Int32) o4 = some o5 := p1
          rw [w1]
          unfold BX7_same_81
          rw [q1', b2_some, if_neg (by decide), p1', b1_some, p2, show (2 : Int32).toNatClampNeg = 2 from rfl, r2]
          by_cases cl : (rdg M1.1 M1.2.1).length = (rdg M1'.1 M1'.2.1).length
          · rw [if_pos (by rw [cl])]
            by_cases cA : jI (M1.2.2 : Int) = jI (M1'.2.2 : Int)
            · rw [if_pos cA]
              have cm := m_cmp w4 r39 p3 cl (fun x3_31 => LX7_same_166 o5 (fun x3_50 => if x3_50 = 0 then some ((0 : Int32), o5) else some ((1 : Int32), o5)) fu x3_31 (0 : Int32)) (rdg M1.1 M1.2.1).length 0 fu (by omega) (by rw [fu_eq]; omega)
              refine cm.trans ?_
              simp only [List.drop_zero]
              by_cases cC : sg (rdg M1'.1 M1'.2.1) = sg (rdg M1.1 M1.2.1)
              · rw [if_pos cC, op1']
                by_cases cB : opB N.2.1 N'.2.1 8 0 = true
                · rw [if_pos cB, if_pos ⟨cA, cB, cC.symm⟩]
                · rw [if_neg cB, if_neg (fun z => cB z.2.1)]
              · rw [if_neg cC, op0', if_neg (fun z => cC z.2.2.symm)]
            · rw [if_neg cA, m_cmp0, op0', if_neg (fun z => cA z.1)]
          · rw [if_neg (by rw [jI_eq (by omega) (by omega) (by omega) (by omega)]; omega), m_cmp0, op0', if_neg (fun z => cl (by have := congrArg List.length z.2.2; unfold sg at this; simpa using this))]
        exact ⟨_, Mb, o5, cls3, ref3, Bq_up (Bq_Cls w6 cb)⟩
      · obtain ⟨o', w1, w2, w3⟩ := refN v2
        refine ⟨-2, _, o', ?_, w1, Bq_up (Bq_Cls (Bq_Wk h w2 w3) (Cls_tr ca (Cls_55 Ma g3 g4)))⟩
        rw [cls2, v1, b2_some, if_pos rfl]
    · have cls2 : FX6_same M = some (-2, sM (sM M 5 g1) 5 g2) := by rw [cls1, e1, b2_some, if_pos rfl]
      rcases c_find (M := M) h.1.1 h.1.2.1 with ⟨g3, g4, ⟨R, ss, M1, v1, v2, v3⟩ | ⟨v1, v2⟩⟩
      · obtain ⟨o3, w1, w2, w3, w4⟩ := refE R ss M1 v2
        have hK3 := w2.2.2.2.2.2.1 hi1
        obtain ⟨o4, q1, q2, q3⟩ := m_noend (b := 1) (by omega) hK3.1 hK3.2.2.1 bk2 e2
        refine ⟨-2, _, o4, cls2, ?_, Bq_up (Bq_Cls (Bq_Wk w2 q3 q2) (Cls_55 M _ _))⟩
        have q1' : FX7_layEnding (1 : Int32) o3 = some (0, o4) := q1
        rw [w1]
        unfold BX7_same_81
        rw [q1', b2_some, if_pos rfl]
      · obtain ⟨o', w1, w2, w3⟩ := refN v2
        exact ⟨-2, _, o', cls2, w1, Bq_up (Bq_Cls (Bq_Wk h w2 w3) (Cls_55 M _ _))⟩
end C7
