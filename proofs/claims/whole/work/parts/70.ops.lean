/-! MEETINGS MAY BE DONE IN ANY ORDER. What a meeting does to the wires, as a list of small acts -/
abbrev Ac : Type := Nat × Port × Port
def sw1 (p q r : Port) : Port := if r = p then q else if r = q then p else r
def aC (p q : Port) (w : Wr) : Wr := fun r => if r = p ∨ r = q then none else w r
def aS (p q : Port) (w : Wr) : Wr := fun r => match w (sw1 p q r) with
  | none => none
  | some s => some (sw1 p q s)
def aF (p q : Port) (w : Wr) : Wr := fun r => if r = p ∨ r = q then none else match w r with
  | none => none
  | some s => if s = p then w q else if s = q then w p else some s
abbrev Sy : Type := Wr × Nat
def ap (c : Ac) (S : Sy) : Sy := match c.1 with
  | 0 => (aC c.2.1 c.2.2 S.1, S.2)
  | 1 => (aS c.2.1 c.2.2 S.1, S.2)
  | 2 => (wl c.2.1 c.2.2 S.1, S.2)
  | _ => (aF c.2.1 c.2.2 S.1, rf c.2.1 c.2.2 S.1 S.2)
def Dj (c c' : Ac) : Prop := c.2.1 ≠ c'.2.1 ∧ c.2.1 ≠ c'.2.2 ∧ c.2.2 ≠ c'.2.1 ∧ c.2.2 ≠ c'.2.2
theorem sw1_inv (p q r : Port) : sw1 p q (sw1 p q r) = r := by
  unfold sw1
  grind
theorem sw1_o {p q r : Port} (h1 : r ≠ p) (h2 : r ≠ q) : sw1 p q r = r := by
  unfold sw1
  rw [if_neg h1, if_neg h2]
theorem CS {p q p' q' : Port} (h1 : p ≠ p') (h2 : p ≠ q') (h3 : q ≠ p') (h4 : q ≠ q') (w : Wr) : aC p q (aS p' q' w) = aS p' q' (aC p q w) := by
  funext r
  unfold aC aS sw1
  grind
theorem CL {p q p' q' : Port} (h1 : p ≠ p') (h2 : p ≠ q') (h3 : q ≠ p') (h4 : q ≠ q') (w : Wr) : aC p q (wl p' q' w) = wl p' q' (aC p q w) := by
  funext r
  unfold aC wl
  grind
theorem CF {p q p' q' : Port} (h1 : p ≠ p') (h2 : p ≠ q') (h3 : q ≠ p') (h4 : q ≠ q') (w : Wr) : aC p q (aF p' q' w) = aF p' q' (aC p q w) := by
  funext r
  unfold aC aF
  grind
theorem CC {p q p' q' : Port} (w : Wr) : aC p q (aC p' q' w) = aC p' q' (aC p q w) := by
  funext r
  unfold aC
  grind
theorem sw1_c {p q p' q' : Port} (h1 : p ≠ p') (h2 : p ≠ q') (h3 : q ≠ p') (h4 : q ≠ q') (r : Port) : sw1 p q (sw1 p' q' r) = sw1 p' q' (sw1 p q r) := by
  unfold sw1
  grind
theorem SS {p q p' q' : Port} (h1 : p ≠ p') (h2 : p ≠ q') (h3 : q ≠ p') (h4 : q ≠ q') (w : Wr) : aS p q (aS p' q' w) = aS p' q' (aS p q w) := by
  funext r
  unfold aS
  rw [sw1_c h1 h2 h3 h4 r]
  cases w (sw1 p' q' (sw1 p q r)) with
  | none => rfl
  | some s => simp only [sw1_c h1 h2 h3 h4 s]
theorem SL {p q p' q' : Port} (h1 : p ≠ p') (h2 : p ≠ q') (h3 : q ≠ p') (h4 : q ≠ q') (w : Wr) : aS p q (wl p' q' w) = wl p' q' (aS p q w) := by
  funext r
  unfold aS wl sw1
  grind
theorem SF {p q p' q' : Port} (h1 : p ≠ p') (h2 : p ≠ q') (h3 : q ≠ p') (h4 : q ≠ q') (w : Wr) : aS p q (aF p' q' w) = aF p' q' (aS p q w) := by
  funext r
  have e1 : sw1 p q p' = p' := sw1_o (fun z => h1 z.symm) (fun z => h3 z.symm)
  have e2 : sw1 p q q' = q' := sw1_o (fun z => h2 z.symm) (fun z => h4 z.symm)
  have iff1 : ∀ s, sw1 p q s = p' ↔ s = p' := fun s => ⟨fun z => by rw [← sw1_inv p q s, z, e1], fun z => by rw [z, e1]⟩
  have iff2 : ∀ s, sw1 p q s = q' ↔ s = q' := fun s => ⟨fun z => by rw [← sw1_inv p q s, z, e2], fun z => by rw [z, e2]⟩
  unfold aS aF
  simp only [iff1, iff2]
  by_cases c : r = p' ∨ r = q'
  · rw [if_pos c, if_pos c]
  · rw [if_neg c, if_neg c]
    cases w (sw1 p q r) with
    | none => rfl
    | some s =>
      simp only [iff1, iff2, e1, e2]
      by_cases c1 : s = p'
      · rw [if_pos c1, if_pos c1]
      · rw [if_neg c1, if_neg c1]
        by_cases c2 : s = q'
        · rw [if_pos c2, if_pos c2]
        · rw [if_neg c2, if_neg c2]
theorem LL {p q p' q' : Port} (h1 : p ≠ p') (h2 : p ≠ q') (h3 : q ≠ p') (h4 : q ≠ q') (w : Wr) : wl p q (wl p' q' w) = wl p' q' (wl p q w) := by
  funext r
  unfold wl
  grind
theorem LF {p q p' q' : Port} (h1 : p ≠ p') (h2 : p ≠ q') (h3 : q ≠ p') (h4 : q ≠ q') (w : Wr) : wl p q (aF p' q' w) = aF p' q' (wl p q w) := by
  funext r
  unfold wl aF
  grind
theorem FFw {p q p' q' : Port} (h0 : p ≠ q) (h0' : p' ≠ q') (h1 : p ≠ p') (h2 : p ≠ q') (h3 : q ≠ p') (h4 : q ≠ q') {w : Wr} (h : Mt w) : aF p q (aF p' q' w) = aF p' q' (aF p q w) := by
  funext r
  have m1 := fun s e => h p s e
  have m2 := fun s e => h q s e
  have m3 := fun s e => h p' s e
  have m4 := fun s e => h q' s e
  have m5 := fun s e => h r s e
  clear h
  unfold aF
  cases e1 : w p <;> cases e2 : w q <;> cases e3 : w p' <;> cases e4 : w q' <;> cases e5 : w r <;> grind (splits := 20)
theorem FFr {p q p' q' : Port} (h0 : p ≠ q) (h0' : p' ≠ q') (h1 : p ≠ p') (h2 : p ≠ q') (h3 : q ≠ p') (h4 : q ≠ q') {w : Wr} (h : Mt w) (r : Nat) : rf p q (aF p' q' w) (rf p' q' w r) = rf p' q' (aF p q w) (rf p q w r) := by
  have m1 := fun s e => h p s e
  have m2 := fun s e => h q s e
  have m3 := fun s e => h p' s e
  have m4 := fun s e => h q' s e
  clear h
  unfold rf aF
  cases e1 : w p <;> cases e2 : w q <;> cases e3 : w p' <;> cases e4 : w q' <;> grind (splits := 20)
theorem rfC {p q p' q' : Port} (h1 : p ≠ p') (h2 : p ≠ q') (w : Wr) (r : Nat) : rf p q (aC p' q' w) r = rf p q w r := by
  unfold rf aC
  rw [if_neg (show ¬ (p = p' ∨ p = q') from fun z => z.elim h1 h2)]
theorem rfL {p q p' q' : Port} (h1 : p ≠ p') (h2 : p ≠ q') (w : Wr) (r : Nat) : rf p q (wl p' q' w) r = rf p q w r := by
  unfold rf wl
  rw [if_neg h2, if_neg h1]
theorem rfS {p q p' q' : Port} (h1 : p ≠ p') (h2 : p ≠ q') (h3 : q ≠ p') (h4 : q ≠ q') (w : Wr) (r : Nat) : rf p q (aS p' q' w) r = rf p q w r := by
  unfold rf aS
  rw [sw1_o h1 h2]
  cases w p with
  | none => rfl
  | some s =>
    have e2 : sw1 p' q' q = q := sw1_o h3 h4
    have : (some (sw1 p' q' s) = some q) ↔ (some s = some q) := ⟨fun z => by rw [← sw1_inv p' q' s, Option.some.inj z, e2], fun z => by rw [Option.some.inj z, e2]⟩
    simp only [this]
theorem ap_comm {c c' : Ac} (h : Dj c c') (ht : c.1 < 3 ∨ c'.1 < 3) (S : Sy) : ap c (ap c' S) = ap c' (ap c S) := by
  obtain ⟨t, p, q⟩ := c
  obtain ⟨t', p', q'⟩ := c'
  obtain ⟨h1, h2, h3, h4⟩ := h
  simp only at h1 h2 h3 h4 ht
  have g1 := h1.symm
  have g2 := h2.symm
  have g3 := h3.symm
  have g4 := h4.symm
  match t, t' with
  | 0, 0 => exact Prod.ext (CC _) rfl
  | 0, 1 => exact Prod.ext (CS h1 h2 h3 h4 _) rfl
  | 0, 2 => exact Prod.ext (CL h1 h2 h3 h4 _) rfl
  | 0, n + 3 => exact Prod.ext (CF h1 h2 h3 h4 _) (rfC g1 g3 _ _).symm
  | 1, 0 => exact Prod.ext (CS g1 g3 g2 g4 _).symm rfl
  | 1, 1 => exact Prod.ext (SS h1 h2 h3 h4 _) rfl
  | 1, 2 => exact Prod.ext (SL h1 h2 h3 h4 _) rfl
  | 1, n + 3 => exact Prod.ext (SF h1 h2 h3 h4 _) (rfS g1 g3 g2 g4 _ _).symm
  | 2, 0 => exact Prod.ext (CL g1 g3 g2 g4 _).symm rfl
  | 2, 1 => exact Prod.ext (SL g1 g3 g2 g4 _).symm rfl
  | 2, 2 => exact Prod.ext (LL h1 h2 h3 h4 _) rfl
  | 2, n + 3 => exact Prod.ext (LF h1 h2 h3 h4 _) (rfL g1 g3 _ _).symm
  | n + 3, 0 => exact Prod.ext (CF g1 g3 g2 g4 _).symm (rfC h1 h2 _ _)
  | n + 3, 1 => exact Prod.ext (SF g1 g3 g2 g4 _).symm (rfS h1 h2 h3 h4 _ _)
  | n + 3, 2 => exact Prod.ext (LF g1 g3 g2 g4 _).symm (rfL h1 h2 _ _)
  | n + 3, m + 3 => omega
theorem ap_commF {c c' : Ac} (h : Dj c c') (h0 : c.2.1 ≠ c.2.2) (h0' : c'.2.1 ≠ c'.2.2) {S : Sy} (hM : Mt S.1) : ap c (ap c' S) = ap c' (ap c S) := by
  by_cases ht : c.1 < 3 ∨ c'.1 < 3
  · exact ap_comm h ht S
  · obtain ⟨t, p, q⟩ := c
    obtain ⟨t', p', q'⟩ := c'
    obtain ⟨h1, h2, h3, h4⟩ := h
    simp only at h1 h2 h3 h4 ht h0 h0'
    match t, t' with
    | n + 3, m + 3 => exact Prod.ext (FFw h0 h0' h1 h2 h3 h4 hM) (FFr h0 h0' h1 h2 h3 h4 hM _)
    | 0, _ => omega
    | 1, _ => omega
    | 2, _ => omega
    | n + 3, 0 => omega
    | n + 3, 1 => omega
    | n + 3, 2 => omega
