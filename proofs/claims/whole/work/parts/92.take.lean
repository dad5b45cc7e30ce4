/-! one letter of a page, in both -/
def Plc (n : Nat) (lim u : Nat → Nat) (K : Kd) (p : Port) : Prop := (p.2 = 0 ∧ p.1 < n) ∨ ((p.2 = 1 ∨ p.2 = 2) ∧ (∃ k, K p.1 = some (k + 1)) ∧ p.2 ≤ lim p.1) ∨ (p.2 = 3 ∧ ((p.1 < 8 ∧ 1 ≤ u p.1) ∨ (8 ≤ p.1 ∧ p.1 < 16 ∧ u (p.1 - 8) = 2)))
def PB (d g o : Ob) (n D st : Nat) (nd lim u : Nat → Nat) (K : Kd) (w : Wr) (L : Port) : Prop :=
  PA d D st nd lim L ∧ PU (oA d 2) u ∧ PU (oA o 24) u ∧ (∀ i, i < 8 → u i ≤ 2) ∧ PR o n D st nd lim L 0 ∧ (∀ m k, K m = some k → oA o 22 m = jI k) ∧ PW o D nd w 0 (0, 0) ∧ PG g n K w ∧ PD (Plc n lim u K) w st L ∧ PS n D st nd lim K w L 0 (0, 0) ∧ (∀ m, lim m = 2 ∨ ∃ j, j < D ∧ m = nd j) ∧ D ≤ n
def kb (c : Nat) : Int := if c = 42 then 0 else if c = 40 then 1 else if c = 91 then 2 else if c = 123 then 3 else -1
theorem kb_ix : ∀ c : Nat, c < 127 → 32 ≤ c → ixL 0 (((jI c).toUInt32 % 65536).toInt32) = jI (kb c) := by decide +kernel
theorem kb_by : ∀ c : Nat, c < 127 → 32 ≤ c → FX7_kindBy (jI c) = some (jI (kb c)) := by decide +kernel
theorem clo_by {k : Nat} (hk : k ≤ 2) : FX7_closing (jI ((k + 1 : Nat))) = some (jI (clo (k + 1))) := by
  rcases (show k = 0 ∨ k = 1 ∨ k = 2 by omega) with rfl | rfl | rfl <;> decide +kernel
theorem PD_congr {Pl Pl' : Port → Prop} {w : Wr} {st : Nat} {L : Port} (h : PD Pl w st L) (e : ∀ p, Pl' p ↔ Pl p) : PD Pl' w st L := ⟨fun p => by rw [h.1 p, e p], fun z => (e L).mpr (h.2.1 z), fun p hp => h.2.2 p ((e p).mp hp)⟩
theorem PW_P {o : Ob} {D : Nat} {nd : Nat → Nat} {w : Wr} {P P' : Port} (h : PW o D nd w 0 P) : PW o D nd w 0 P' := fun p q a b _ => h p q a b (fun z => by omega)
theorem PS_P {n D st : Nat} {nd lim : Nat → Nat} {K : Kd} {w : Wr} {L P P' : Port} {h : Nat} (hs : PS n D st nd lim K w L h P) : PS n D st nd lim K w L 0 P' := ⟨hs.1, hs.2.1, hs.2.2.1, hs.2.2.2.1, fun z => by omega, fun z => by omega, hs.2.2.2.2.2.2⟩
theorem PS_n {n n' D st : Nat} {nd lim lim' : Nat → Nat} {K K' : Kd} {w : Wr} {L P : Port} {h : Nat} (hs : PS n D st nd lim K w L h P) (hn : n ≤ n') (hK : ∀ m, m < n → K' m = K m) (hl : ∀ m, m < n → lim' m = lim m) : PS n' D st nd lim' K' w L h P := by
  obtain ⟨h1, h2, h3, h4, h5, h6, h7⟩ := hs
  refine ⟨fun j hj => ?_, h2, fun j hj => ?_, h4, fun a b => ?_, h6, h7⟩
  · obtain ⟨a, b, c⟩ := h1 j hj
    exact ⟨by omega, by rw [hl _ a]; exact b, by rw [hK _ a]; exact c⟩
  · rw [hl _ (h1 j (by omega)).1]; exact h3 j hj
  · rw [hl _ (h1 (D - 1) (by omega)).1]; exact h5 a b
section TK
variable {d g o : Ob} {n D st : Nat} {nd lim u : Nat → Nat} {K : Kd} {w : Wr} {L P P0 : Port} {Pl : Port → Prop}
theorem PG_add (hG : PG g n K w) (hn : n < 180) {k : Nat} (hk : k ≤ 3) : ∃ g', FX2_addNode 180 (jI k) g = some (jI n, g') ∧ PG g' (n + 1) (ku K n (some k)) w := by
  obtain ⟨⟨T, t, a1, a2, a3, a4, a5, a6⟩, b1, b2⟩ := hG
  have hl : lf K n := ⟨(b2.1 n).mpr (Nat.le_refl n), fun m hm z => by have := (b2.1 m).mp z; omega⟩
  have ht : t ≤ n := by
    rcases Nat.lt_or_ge n t with c | c
    · exact absurd hl.1 (a5 n c)
    · exact c
  obtain ⟨g', e1, e2, e3, e4, e5, e6⟩ := s_addNode (N := 180) (by omega) a1 a4 hn hl ht hk
  have kk : ∀ m, ku K n (some k) m = none ↔ n + 1 ≤ m := fun m => by
    unfold ku
    by_cases c : m = n
    · rw [if_pos c]; constructor
      · intro z; cases z
      · intro z; omega
    · rw [if_neg c, b2.1 m]; omega
  refine ⟨g', e1, ⟨_, n + 1, e2, RW_other a2 (e6 1 (by omega)), by rw [e5 7 (by omega) (by omega) (by omega)]; exact a3, e3, fun m hm z => by have := (kk m).mp z; omega, ?_⟩, b1, kk, fun j hj => by rw [e6 3 (by omega)]; exact b2.2 j hj⟩
  rw [e4, a6, jI_p1, cnt_add hl.1 hn]
theorem Plc_add {lim' : Nat → Nat} {k : Nat} (hK : ∀ m, K m = none ↔ n ≤ m) (hS : 0 < D → nd (D - 1) < n ∧ (∃ k, K (nd (D - 1)) = some (k + 1)) ∧ lim (nd (D - 1)) < 2) (hl : ∀ m, m ≠ n → lim' m = if 0 < D ∧ m = nd (D - 1) then lim m + 1 else lim m) (hk : k = 0 ∨ lim' n = 0) (p : Port) : Plc (n + 1) lim' u (ku K n (some k)) p ↔ (Plc n lim u K p ∨ p = (n, 0) ∨ (0 < D ∧ p = (nd (D - 1), 1 + lim (nd (D - 1))))) := by
  obtain ⟨m, s⟩ := p
  have pe : ∀ a b : Nat, ((m, s) : Port) = (a, b) ↔ m = a ∧ s = b := fun a b => by constructor <;> intro h <;> simp_all
  rw [pe, pe]
  unfold Plc
  simp only
  by_cases cn : m = n
  · subst cn
    have kn : K m = none := (hK m).mpr (Nat.le_refl m)
    have e1 : ku K m (some k) m = some k := by unfold ku; rw [if_pos rfl]
    rw [kn, e1]
    constructor
    · rintro (h | ⟨h1, ⟨k', h2⟩, h3⟩ | h)
      · exact Or.inr (Or.inl ⟨rfl, h.1⟩)
      · cases h2; omega
      · exact Or.inl (Or.inr (Or.inr h))
    · rintro ((h | ⟨h1, ⟨k', h2⟩, h3⟩ | h) | h | h)
      · exact Or.inl ⟨h.1, by omega⟩
      · cases h2
      · exact Or.inr (Or.inr h)
      · exact Or.inl ⟨h.2, by omega⟩
      · have := (hS h.1).1; omega
  · have e1 : ku K n (some k) m = K m := by unfold ku; rw [if_neg cn]
    rw [e1, hl m cn]
    by_cases ct : 0 < D ∧ m = nd (D - 1)
    · rw [if_pos ct]
      obtain ⟨a1, ⟨k', a2⟩, a3⟩ := hS ct.1
      rw [← ct.2] at a1 a2 a3 ⊢
      constructor
      · rintro (h | ⟨h1, h2, h3⟩ | h)
        · exact Or.inl (Or.inl ⟨h.1, by omega⟩)
        · by_cases c : s ≤ lim m
          · exact Or.inl (Or.inr (Or.inl ⟨h1, h2, c⟩))
          · exact Or.inr (Or.inr ⟨ct.1, rfl, by omega⟩)
        · exact Or.inl (Or.inr (Or.inr h))
      · rintro ((h | ⟨h1, h2, h3⟩ | h) | h | h)
        · exact Or.inl ⟨h.1, by omega⟩
        · exact Or.inr (Or.inl ⟨h1, h2, by omega⟩)
        · exact Or.inr (Or.inr h)
        · omega
        · exact Or.inr (Or.inl ⟨by omega, ⟨k', a2⟩, by omega⟩)
    · rw [if_neg ct]
      constructor
      · rintro (h | h | h)
        · exact Or.inl (Or.inl ⟨h.1, by omega⟩)
        · exact Or.inl (Or.inr (Or.inl h))
        · exact Or.inl (Or.inr (Or.inr h))
      · rintro ((h | h | h) | h | h)
        · exact Or.inl ⟨h.1, by omega⟩
        · exact Or.inr (Or.inl h)
        · exact Or.inr (Or.inr h)
        · omega
        · exact absurd ⟨h.1, h.2.1⟩ ct
theorem Plc_let {lim' u' : Nat → Nat} {i : Nat} (hi : i < 8) (hu : u i < 2) (hS : 0 < D → nd (D - 1) < n ∧ (∃ k, K (nd (D - 1)) = some (k + 1)) ∧ lim (nd (D - 1)) < 2) (hl : ∀ m, lim' m = if 0 < D ∧ m = nd (D - 1) then lim m + 1 else lim m) (hu' : ∀ j, u' j = if j = i then u j + 1 else u j) (p : Port) : Plc n lim' u' K p ↔ (Plc n lim u K p ∨ p = (if u i = 0 then i else 8 + i, 3) ∨ (0 < D ∧ p = (nd (D - 1), 1 + lim (nd (D - 1))))) := by
  obtain ⟨m, s⟩ := p
  have pe : ∀ a b : Nat, ((m, s) : Port) = (a, b) ↔ m = a ∧ s = b := fun a b => by constructor <;> intro h <;> simp_all
  rw [pe, pe]
  unfold Plc
  simp only
  rw [hl m, hu' m, hu' (m - 8)]
  constructor
  · rintro (h | ⟨h1, h2, h3⟩ | ⟨h1, h2⟩)
    · exact Or.inl (Or.inl h)
    · by_cases ct : 0 < D ∧ m = nd (D - 1)
      · rw [if_pos ct] at h3
        by_cases c : s ≤ lim m
        · exact Or.inl (Or.inr (Or.inl ⟨h1, h2, c⟩))
        · exact Or.inr (Or.inr ⟨ct.1, ct.2, by rw [← ct.2]; omega⟩)
      · rw [if_neg ct] at h3
        exact Or.inl (Or.inr (Or.inl ⟨h1, h2, h3⟩))
    · rcases h2 with ⟨a, b⟩ | ⟨a, b, c⟩
      · by_cases cm : m = i
        · by_cases c0 : u i = 0
          · rw [if_pos c0]; exact Or.inr (Or.inl ⟨cm, h1⟩)
          · exact Or.inl (Or.inr (Or.inr ⟨h1, Or.inl ⟨a, by rw [cm]; omega⟩⟩))
        · rw [if_neg cm] at b
          exact Or.inl (Or.inr (Or.inr ⟨h1, Or.inl ⟨a, b⟩⟩))
      · by_cases cm : m - 8 = i
        · rw [if_pos cm, cm] at c
          rw [if_neg (by omega)]
          exact Or.inr (Or.inl ⟨by omega, h1⟩)
        · rw [if_neg cm] at c
          exact Or.inl (Or.inr (Or.inr ⟨h1, Or.inr ⟨a, b, c⟩⟩))
  · rintro ((h | ⟨h1, h2, h3⟩ | ⟨h1, h2⟩) | h | h)
    · exact Or.inl h
    · refine Or.inr (Or.inl ⟨h1, h2, ?_⟩)
      split <;> omega
    · refine Or.inr (Or.inr ⟨h1, ?_⟩)
      rcases h2 with ⟨a, b⟩ | ⟨a, b, c⟩
      · refine Or.inl ⟨a, ?_⟩
        split <;> omega
      · refine Or.inr ⟨a, b, ?_⟩
        rw [if_neg (fun z => by rw [z] at c; omega)]
        exact c
    · refine Or.inr (Or.inr ⟨h.2, ?_⟩)
      by_cases c0 : u i = 0
      · rw [if_pos c0] at h
        refine Or.inl ⟨by omega, ?_⟩
        rw [if_pos h.1]
        omega
      · rw [if_neg c0] at h
        refine Or.inr ⟨by omega, by omega, ?_⟩
        rw [if_pos (by omega), show m - 8 = i by omega]
        omega
    · obtain ⟨a1, a2, a3⟩ := hS h.1
      refine Or.inr (Or.inl ⟨by omega, by rw [h.2.1]; exact a2, ?_⟩)
      rw [if_pos ⟨h.1, h.2.1⟩, h.2.1]
      omega
theorem PR_o {o o' : Ob} {h : Nat} (hR : PR o n D st nd lim L h) (h18 : oA o' 18 = oA o 18) (h19 : oA o' 19 = oA o 19) (hv : ∀ k, k = 20 ∨ k = 21 ∨ (25 ≤ k ∧ k ≤ 27) → oV o' k = oV o k) : PR o' n D st nd lim L h := by
  unfold PR
  rw [h18, h19, hv 20 (by omega), hv 21 (by omega), hv 25 (by omega), hv 26 (by omega), hv 27 (by omega)]
  exact hR
theorem PR_n {o : Ob} {n' h : Nat} (hR : PR o n D st nd lim L h) : PR (sV o 21 (jI n')) n' D st nd lim L h := by
  obtain ⟨r1, r2, r3, r4, r5, r6⟩ := hR
  exact ⟨r1, rfl, r3, r4, r5, r6⟩
/-- a tree is due -/
def Due (D st : Nat) (nd lim : Nat → Nat) : Prop := (0 < D ∧ lim (nd (D - 1)) < 2) ∨ (D = 0 ∧ (st = 0 ∨ st = 2))
theorem p_due (hA : PA d D st nd lim L) (hS : PS n D st nd lim K w L 0 P0) (hD8 : D ≤ 80) : (Due D st nd lim → FX1_isTreeDue d = some 1) ∧ (¬ Due D st nd lim → FX1_isTreeDue d = some 0) := by
  obtain ⟨A1, A2, A3, A4⟩ := hA
  have S7 := hS.2.2.2.2.2.2
  unfold FX1_isTreeDue
  rw [A1, A2]
  by_cases dz : D = 0
  · subst dz
    rw [if_pos (by rfl)]
    refine ⟨fun h => ?_, fun h => ?_⟩
    · rcases h with h | ⟨-, rfl | rfl⟩
      · omega
      · rw [if_pos (by rfl)]
      · rw [if_neg (by decide), if_pos (by rfl)]
    · rcases (show st = 1 ∨ st = 3 from by unfold Due at h; omega) with rfl | rfl
      · rw [if_neg (by decide), if_neg (by decide)]
      · rw [if_neg (by decide), if_neg (by decide)]
  · have eD : jI (D : Int) - 1 = jI ((D - 1 : Nat)) := jI_s1 (by omega)
    have a2 := (A4 (D - 1) (by omega)).2
    have l2 := (hS.1 (D - 1) (by omega)).2.1
    rw [if_neg (by rw [j_0, jI_le (by omega) (by omega) (by omega) (by omega)]; omega), if_neg (by rw [j_80, jI_lt (by omega) (by omega) (by omega) (by omega)]; omega), eD, if_pos (by rw [jI_inb (by omega) (by omega)]; omega), jc _ (by omega), a2]
    refine ⟨fun h => ?_, fun h => ?_⟩
    · rw [if_neg (by rw [j_2, jI_le (by omega) (by omega) (by omega) (by omega)]; unfold Due at h; omega)]
    · rw [if_pos (by rw [j_2, jI_le (by omega) (by omega) (by omega) (by omega)]; unfold Due at h; omega)]
/-- what both sides must come to at one letter -/
def TkOk (c : Nat) (d g o : Ob) (n : Nat) : Prop := ∃ r d' g' o', FX1_take 180 (jI c) d g = some (r, d', g') ∧ FX7_takes (jI c) o = some (r, o') ∧ Pf o o' ∧ (r = 0 ∨ (r = 1 ∧ ∃ n' D' st' nd' lim' u' K' w' L', n' ≤ n + 1 ∧ PB d' g' o' n' D' st' nd' lim' u' K' w' L'))
theorem isb1 : isb (1 : Int32) := by decide
theorem isb0 : isb (0 : Int32) := by decide
theorem p_letter (h : PB d g o n D st nd lim u K w L) (hn : n < 80) (hdue : Due D st nd lim) {i : Nat} (hi : i < 8) : TkOk (97 + i) d g o n := by
  obtain ⟨hA, hU, hU', hu2, hR, hK, hW, hG, hD, hS, hlim, hDn⟩ := h
  have e0 := (p_due hA hS (by omega)).1 hdue
  have s25 : oV o 25 = jI 0 := by
    rw [hR.2.2.1 rfl]
    unfold stt
    rcases hdue with a | a
    · rw [if_neg (by omega), if_neg (by omega)]; rfl
    · rw [if_pos a.1, if_neg (by omega), if_neg (by omega)]; rfl
  have ec : jI ((97 + i : Nat) : Int) - 97 = jI i := by rw [show (97 : Int32) = jI 97 from rfl, jI_sub]; congr 1; omega
  have ekb : kb (97 + i) = -1 := by unfold kb; rw [if_neg (by omega), if_neg (by omega), if_neg (by omega), if_neg (by omega)]
  have hui := hu2 i hi
  have fw : FX7_within (jI (i : Int)) (0 : Int32) (7 : Int32) = some 1 := by
    unfold FX7_within
    rw [if_neg (by rw [j_0, jI_lt (by omega) (by omega) (by omega) (by omega)]; omega), if_neg (by rw [j_7, jI_lt (by omega) (by omega) (by omega) (by omega)]; omega)]
  have cls0 : ∀ (x : Int32 × Ob × Ob), isb x.1 → (if jI (u i : Int) < 2 then (if jI (u i : Int) = 0 then b2 (FX1_place 180 (jI (i : Int)) d g) fun o0_2 o1_3 => lT (sA o0_2 2 i ((oA o0_2 2 i) + (1 : Int32))) fun o0_6 => some ((1 : Int32), o0_6, o1_3) else b2 (FX1_place 180 ((8 : Int32) + jI (i : Int)) d g) fun o0_7 o1_8 => lT (sA o0_7 2 i ((oA o0_7 2 i) + (1 : Int32))) fun o0_11 => some ((1 : Int32), o0_11, o1_8)) else some ((0 : Int32), d, g)) = some x → FX1_take 180 (jI ((97 + i : Nat))) d g = some x := by
    intro x hx hq
    unfold FX1_take
    rw [e0, b1_some, if_neg (by decide)]
    unfold FX1_takeTree
    rw [ec, lT_eq, if_neg (by rw [j_0, jI_lt (by omega) (by omega) (by omega) (by omega)]; omega), if_neg (by rw [j_8, jI_le (by omega) (by omega) (by omega) (by omega)]; omega)]
    unfold FX1_takeWire
    rw [if_neg (by rw [j_0, jI_lt (by omega) (by omega) (by omega) (by omega)]; omega), if_neg (by rw [j_8, jI_le (by omega) (by omega) (by omega) (by omega)]; omega), if_pos (by rw [jI_inb (by omega) (by omega)]; omega), jc _ (by omega), hU i hi, hq]
    obtain ⟨x1, x2, x3⟩ := x
    rw [b3_some, if_pos hx, b3_some, if_pos hx]
  have ref0 : ∀ (x : Int32 × Ob), isb x.1 → (if jI (u i : Int) = 2 then some ((0 : Int32), o) else b1 (FX7_treeIs ((((540 : Int32) + ((2 : Int32) * jI (i : Int))) + (oA (sA o 24 i (jI (u i : Int) + 1)) 24 i)) - (1 : Int32)) (sA o 24 i (jI (u i : Int) + 1))) fun o0_28 => some ((1 : Int32), o0_28)) = some x → FX7_takes (jI ((97 + i : Nat))) o = some x := by
    intro x hx hq
    unfold FX7_takes
    rw [s25, if_pos (by rfl)]
    unfold FX7_takesTree
    rw [kb_by _ (by omega) (by omega), ekb, b1_some, if_pos (by rfl), ec, lT_eq, fw, b1_some, if_neg (by decide), if_pos (by rw [jI_inb (by omega) (by omega)]; omega), jc _ (by omega), hU' i hi, lT_eq, hq]
    obtain ⟨x1, x2⟩ := x
    rw [b2_some, if_pos hx]
  by_cases c2 : u i = 2
  · exact ⟨0, d, g, o, cls0 _ isb0 (by rw [if_neg (by rw [j_2, jI_lt (by omega) (by omega) (by omega) (by omega)]; omega)]), ref0 _ isb0 (by rw [if_pos (by rw [c2]; rfl)]), Pf_rf o, Or.inl rfl⟩
  · have hS2 : 0 < D → nd (D - 1) < n ∧ (∃ k, K (nd (D - 1)) = some (k + 1)) ∧ lim (nd (D - 1)) < 2 := fun hd => by
      obtain ⟨a, b, c⟩ := hS.1 (D - 1) (by omega)
      exact ⟨a, c, by unfold Due at hdue; omega⟩
    let u' : Nat → Nat := fun j => if j = i then u j + 1 else u j
    let P : Port := (if u i = 0 then i else 8 + i, 3)
    have hvP : vp 180 P := Or.inr ⟨rfl, by show (if u i = 0 then i else 8 + i) < 16; split <;> omega⟩
    have nPl : ¬ Plc n lim u K P := by
      rintro (h | h | h)
      · exact absurd h.1 (by show ¬ 3 = 0; omega)
      · have := h.1; simp only [P] at this; omega
      · have := h.2
        simp only [P] at this
        by_cases c0 : u i = 0
        · simp only [c0, if_true] at this; omega
        · simp only [c0, if_false] at this
          rw [show 8 + i - 8 = i by omega] at this
          omega
    obtain ⟨d1, g1, st1, lim1, L1, w1, q1, q2, q3, q4, q5, q6, q7, q8, q9⟩ := p_place (P := P) (Pl := Plc n lim u K) hA hG hS hD nPl hvP hdue (fun hd => by
      rintro (h | h | h)
      · have := h.1; simp only at this; omega
      · have := h.2.2; simp only at this; omega
      · have := h.1; have := (hS2 hd).2.2; simp only at *; omega) (Or.inr rfl) (by omega) (by omega)
    have q6' : PD (Plc n lim1 u' K) w1 st1 L1 := PD_congr q6 (Plc_let hi (by omega) hS2 q9 (fun j => rfl))
    -- the class
    have eP : (u i = 0 → jI (cp P) = jI i) ∧ (u i ≠ 0 → jI (cp P) = (8 : Int32) + jI i) := by
      refine ⟨fun z => ?_, fun z => ?_⟩
      · simp only [P, z, if_true]; rfl
      · simp only [P, z, if_false]; rw [j_8, jI_add]; rfl
    have cls : (if jI (u i : Int) = 0 then b2 (FX1_place 180 (jI (i : Int)) d g) fun o0_2 o1_3 => lT (sA o0_2 2 i ((oA o0_2 2 i) + (1 : Int32))) fun o0_6 => some ((1 : Int32), o0_6, o1_3) else b2 (FX1_place 180 ((8 : Int32) + jI (i : Int)) d g) fun o0_7 o1_8 => lT (sA o0_7 2 i ((oA o0_7 2 i) + (1 : Int32))) fun o0_11 => some ((1 : Int32), o0_11, o1_8)) = some ((1 : Int32), sA d1 2 i (jI ((u i + 1 : Nat))), g1) := by
      have e2 : oA d1 2 i + 1 = jI ((u i + 1 : Nat)) := by rw [q3, hU i hi, jI_p1]
      by_cases c0 : u i = 0
      · rw [if_pos (by rw [c0]; rfl), ← eP.1 c0, q1, b2_some, lT_eq, e2]
      · rw [if_neg (by rw [j_0, jI_eq (by omega) (by omega) (by omega) (by omega)]; omega), ← eP.2 c0, q1, b2_some, lT_eq, e2]
    -- the reference
    let o1 := sA o 24 i (jI ((u i + 1 : Nat)))
    have eo : sA o 24 i (jI (u i : Int) + 1) = o1 := by rw [jI_p1]
    have hR1 : PR o1 n D st1 nd lim1 L1 1 := PR_o (q8 o n hR) (sA_ne _ _ _ (by omega)) (sA_ne _ _ _ (by omega)) (fun k _ => rfl)
    have hW1 : PW o1 D nd w1 1 P := fun p q a b c => by
      rw [show oA o1 23 = oA o 23 from sA_ne _ _ _ (by omega)]
      exact q7 o (PW_P hW) p q a b c
    obtain ⟨o2, t1, t2, t3, t4, t5, t6⟩ := p_treeIs hR1 hW1 q5 q6' hvP q4.2.1 (by omega) (by omega)
    have erp : ((((540 : Int32) + ((2 : Int32) * jI (i : Int))) + (oA o1 24 i)) - (1 : Int32)) = jI (rp P) := by
      rw [show oA o1 24 i = jI ((u i + 1 : Nat)) from by show oA (sA o 24 i _) 24 i = _; rw [sA_rw, if_pos rfl], j_540, j_2, j_1, jI_mul, jI_add, jI_add, jI_sub]
      congr 1
      unfold rp
      rw [if_pos rfl]
      by_cases c0 : u i = 0
      · simp only [P, c0, if_true]; rw [if_pos hi]; omega
      · simp only [P, c0, if_false]; rw [if_neg (by omega)]; omega
    refine ⟨1, _, _, o2, cls0 (1, _, _) isb1 (by rw [if_pos (by rw [j_2, jI_lt (by omega) (by omega) (by omega) (by omega)]; omega)]; exact cls), ref0 (1, o2) isb1 (by rw [if_neg (by rw [j_2, jI_eq (by omega) (by omega) (by omega) (by omega)]; omega), eo, erp, t1, b1_some]), Pf_tr ⟨fun k hk => sA_ne _ _ _ (by omega), fun k _ => rfl⟩ t4, Or.inr ⟨rfl, n, D, st1, nd, lim1, u', K, w1, L1, by omega, ?_, ?_, ?_, ?_, t2, ?_, PW_P t3, q4, q6', PS_P q5, ?_, hDn⟩⟩
    · obtain ⟨a1, a2, a3, a4⟩ := q2
      refine ⟨a1, a2, a3, fun j hj => ?_⟩
      rw [sA_ne _ _ _ (by omega), sA_ne _ _ _ (by omega)]
      exact a4 j hj
    · intro j hj
      rw [sA_rw]
      show _ = jI ((if j = i then u j + 1 else u j : Nat))
      by_cases c : j = i
      · rw [if_pos c, if_pos c, c]
      · rw [if_neg c, if_neg c, q3]; exact hU j hj
    · intro j hj
      rw [t6]
      show oA (sA o 24 i _) 24 j = jI ((if j = i then u j + 1 else u j : Nat))
      rw [sA_rw]
      by_cases c : j = i
      · rw [if_pos c, if_pos c, c]
      · rw [if_neg c, if_neg c]; exact hU' j hj
    · intro j hj
      show (if j = i then u j + 1 else u j) ≤ 2
      split
      · rename_i z; rw [z]; omega
      · exact hu2 j hj
    · intro m k hm
      rw [t5, show oA o1 22 = oA o 22 from sA_ne _ _ _ (by omega)]
      exact hK m k hm
    · intro m
      rw [q9 m]
      by_cases c : 0 < D ∧ m = nd (D - 1)
      · exact Or.inr ⟨D - 1, by omega, c.2⟩
      · rw [if_neg c]; exact hlim m
end TK
