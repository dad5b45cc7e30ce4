/-! wires: four ends moved at once -/
theorem four_moves {w : Wr} (h : Mt w) {P0 P1 P2 P3 A0 A1 A2 A3 H0 H1 H2 H3 Q0 Q1 Q2 Q3 : Port} (a0 : w P0 = some A0) (a1 : w P1 = some A1) (a2 : w P2 = some A2) (a3 : w P3 = some A3) (n0 : w H0 = none) (n1 : w H1 = none) (n2 : w H2 = none) (n3 : w H3 = none)
    (d01 : P0 ≠ P1) (d02 : P0 ≠ P2) (d03 : P0 ≠ P3) (d12 : P1 ≠ P2) (d13 : P1 ≠ P3) (d23 : P2 ≠ P3) (e01 : H0 ≠ H1) (e02 : H0 ≠ H2) (e03 : H0 ≠ H3) (e12 : H1 ≠ H2) (e13 : H1 ≠ H3) (e23 : H2 ≠ H3) (r : Port) :
    wm P1 H1 (wm P0 H0 (wm P3 H3 (wm P2 H2 w))) r = if r = H0 then (w P0).map (fun s => if s = P0 then H0 else if s = P1 then H1 else if s = P2 then H2 else if s = P3 then H3 else s) else if r = H1 then (w P1).map (fun s => if s = P0 then H0 else if s = P1 then H1 else if s = P2 then H2 else if s = P3 then H3 else s) else if r = H2 then (w P2).map (fun s => if s = P0 then H0 else if s = P1 then H1 else if s = P2 then H2 else if s = P3 then H3 else s) else if r = H3 then (w P3).map (fun s => if s = P0 then H0 else if s = P1 then H1 else if s = P2 then H2 else if s = P3 then H3 else s) else if r = P0 ∨ r = P1 ∨ r = P2 ∨ r = P3 then none else (w r).map (fun s => if s = P0 then H0 else if s = P1 then H1 else if s = P2 then H2 else if s = P3 then H3 else s) := by
  have conj : ∀ (v : Wr), Mt v → ∀ (p q a : Port), v p = some a → v q = none → ∀ t : Port, wm p q v t = if t = q then (v p).map (fun s => if s = p then q else s) else if t = p then none else (v t).map (fun s => if s = p then q else s) := by
    intro v hv p q a hp hq t
    rw [wm_eq hv hp hq]
    have ha := hv p a hp
    by_cases c1 : t = q
    · rw [if_pos c1, if_pos c1, hp]
      simp only [Option.map]
      rw [if_neg (fun z => ha.2 z.symm)]
    · rw [if_neg c1, if_neg c1]
      by_cases c2 : t = p
      · rw [if_pos c2, if_pos c2]
      · rw [if_neg c2, if_neg c2]
        by_cases c3 : t = a
        · rw [if_pos c3, c3, ha.1]
          simp
        · rw [if_neg c3]
          cases hv2 : v t with
          | none => rfl
          | some s =>
            simp only [Option.map]
            rw [if_neg (fun z => c3 (by rw [z] at hv2; exact Option.some.inj ((hv t p hv2).1.symm.trans hp)))]
  have x00 : P0 ≠ H0 := fun z => by rw [z, n0] at a0; cases a0
  have x01 : P0 ≠ H1 := fun z => by rw [z, n1] at a0; cases a0
  have x02 : P0 ≠ H2 := fun z => by rw [z, n2] at a0; cases a0
  have x03 : P0 ≠ H3 := fun z => by rw [z, n3] at a0; cases a0
  have x10 : P1 ≠ H0 := fun z => by rw [z, n0] at a1; cases a1
  have x11 : P1 ≠ H1 := fun z => by rw [z, n1] at a1; cases a1
  have x12 : P1 ≠ H2 := fun z => by rw [z, n2] at a1; cases a1
  have x13 : P1 ≠ H3 := fun z => by rw [z, n3] at a1; cases a1
  have x20 : P2 ≠ H0 := fun z => by rw [z, n0] at a2; cases a2
  have x21 : P2 ≠ H1 := fun z => by rw [z, n1] at a2; cases a2
  have x22 : P2 ≠ H2 := fun z => by rw [z, n2] at a2; cases a2
  have x23 : P2 ≠ H3 := fun z => by rw [z, n3] at a2; cases a2
  have x30 : P3 ≠ H0 := fun z => by rw [z, n0] at a3; cases a3
  have x31 : P3 ≠ H1 := fun z => by rw [z, n1] at a3; cases a3
  have x32 : P3 ≠ H2 := fun z => by rw [z, n2] at a3; cases a3
  have x33 : P3 ≠ H3 := fun z => by rw [z, n3] at a3; cases a3
  have m1 := Mt_wm h a2 n2
  have c1 := conj w h P2 H2 A2 a2 n2
  generalize wm P2 H2 w = w1 at m1 c1 ⊢
  have q1 : w1 P3 ≠ none := by grind
  have q2 : w1 H3 = none := by grind
  obtain ⟨b3, hb3⟩ := some_of q1
  have m2 := Mt_wm m1 hb3 q2
  have c2 := conj w1 m1 P3 H3 b3 hb3 q2
  generalize wm P3 H3 w1 = w2 at m2 c2 ⊢
  have q3 : w2 P0 ≠ none := by grind
  have q4 : w2 H0 = none := by grind
  obtain ⟨b0, hb0⟩ := some_of q3
  have m3 := Mt_wm m2 hb0 q4
  have c3 := conj w2 m2 P0 H0 b0 hb0 q4
  generalize wm P0 H0 w2 = w3 at m3 c3 ⊢
  have q5 : w3 P1 ≠ none := by grind (splits := 30)
  have q6 : w3 H1 = none := by grind (splits := 30)
  obtain ⟨b1, hb1⟩ := some_of q5
  rw [conj w3 m3 P1 H1 b1 hb1 q6 r]
  clear conj
  cases hr : w r with
  | none => grind (splits := 60)
  | some s => grind (splits := 60)
