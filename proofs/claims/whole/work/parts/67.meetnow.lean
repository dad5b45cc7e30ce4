/-! the reference's meetings, all of them -/
def fn4 {α : Type} (a b c d : α) : Nat → α := fun k => if k = 0 then a else if k = 1 then b else if k = 2 then c else d
theorem alike_pat0 {v u : Wr} (h : Mt v) {P0 P1 P2 P3 A0 A1 A2 A3 : Port} (a0 : v P0 = some A0) (a1 : v P1 = some A1) (a2 : v P2 = some A2) (a3 : v P3 = some A3) (d01 : P0 ≠ P1) (d02 : P0 ≠ P2) (d03 : P0 ≠ P3) (d12 : P1 ≠ P2) (d13 : P1 ≠ P3) (d23 : P2 ≠ P3) (hu : ∀ r, u r = if r = P0 ∨ r = P1 ∨ r = P2 ∨ r = P3 then none else v r) : ∃ (ins : Nat → Int) (l : List (Nat × Nat)) (n : Nat), alG 0 ins = some (l, n) ∧ (∀ k, k < 4 → (∃ e, e < 4 ∧ fn4 A0 A1 A2 A3 k = fn4 P0 P1 P2 P3 e ∧ ins k = e) ∨ ((∀ e, e < 4 → fn4 A0 A1 A2 A3 k ≠ fn4 P0 P1 P2 P3 e) ∧ ins k = -1)) ∧ wls (fn4 A0 A1 A2 A3) l u = wf P1 P3 (wf P0 P2 v) ∧ ∀ r : Nat, r + n = rf P1 P3 (wf P0 P2 v) (rf P0 P2 v r) := by
  have b0 := h _ _ a0
  have b1 := h _ _ a1
  have b2 := h _ _ a2
  have b3 := h _ _ a3
  by_cases x1 : A0 = P1
  · skip
    by_cases x2 : A2 = P3
    · skip
      have i0 : A0 = P1 := by clear hu; grind
      have i1 : A1 = P0 := by clear hu; grind
      have i2 : A2 = P3 := by clear hu; grind
      have i3 : A3 = P2 := by clear hu; grind
      obtain ⟨q1, q2⟩ := alike_0_2 h a0 a1 a2 a3 d01 d02 d03 d12 d13 d23 hu i0 i1 i2 i3
      refine ⟨_, _, _, alG_0_2, fun k hk => ?_, q1, q2⟩
      rcases (show k = 0 ∨ k = 1 ∨ k = 2 ∨ k = 3 by omega) with rfl | rfl | rfl | rfl
      · exact Or.inl ⟨1, by omega, i0, rfl⟩
      · exact Or.inl ⟨0, by omega, i1, rfl⟩
      · exact Or.inl ⟨3, by omega, i2, rfl⟩
      · exact Or.inl ⟨2, by omega, i3, rfl⟩
    · skip
      have i0 : A0 = P1 := by clear hu; grind
      have i1 : A1 = P0 := by clear hu; grind
      have o20 : A2 ≠ P0 := by clear hu; grind
      have o21 : A2 ≠ P1 := by clear hu; grind
      have o22 : A2 ≠ P2 := by clear hu; grind
      have o23 : A2 ≠ P3 := by clear hu; grind
      have o30 : A3 ≠ P0 := by clear hu; grind
      have o31 : A3 ≠ P1 := by clear hu; grind
      have o32 : A3 ≠ P2 := by clear hu; grind
      have o33 : A3 ≠ P3 := by clear hu; grind
      obtain ⟨q1, q2⟩ := alike_0_1 h a0 a1 a2 a3 d01 d02 d03 d12 d13 d23 hu i0 i1 o20 o21 o22 o23 o30 o31 o32 o33
      refine ⟨_, _, _, alG_0_1, fun k hk => ?_, q1, q2⟩
      rcases (show k = 0 ∨ k = 1 ∨ k = 2 ∨ k = 3 by omega) with rfl | rfl | rfl | rfl
      · exact Or.inl ⟨1, by omega, i0, rfl⟩
      · exact Or.inl ⟨0, by omega, i1, rfl⟩
      · refine Or.inr ⟨fun e he => ?_, rfl⟩
        rcases (show e = 0 ∨ e = 1 ∨ e = 2 ∨ e = 3 by omega) with rfl | rfl | rfl | rfl
        · exact o20
        · exact o21
        · exact o22
        · exact o23
      · refine Or.inr ⟨fun e he => ?_, rfl⟩
        rcases (show e = 0 ∨ e = 1 ∨ e = 2 ∨ e = 3 by omega) with rfl | rfl | rfl | rfl
        · exact o30
        · exact o31
        · exact o32
        · exact o33
  · skip
    by_cases x3 : A0 = P2
    · skip
      by_cases x4 : A1 = P3
      · skip
        have i0 : A0 = P2 := by clear hu; grind
        have i1 : A1 = P3 := by clear hu; grind
        have i2 : A2 = P0 := by clear hu; grind
        have i3 : A3 = P1 := by clear hu; grind
        obtain ⟨q1, q2⟩ := alike_0_4 h a0 a1 a2 a3 d01 d02 d03 d12 d13 d23 hu i0 i1 i2 i3
        refine ⟨_, _, _, alG_0_4, fun k hk => ?_, q1, q2⟩
        rcases (show k = 0 ∨ k = 1 ∨ k = 2 ∨ k = 3 by omega) with rfl | rfl | rfl | rfl
        · exact Or.inl ⟨2, by omega, i0, rfl⟩
        · exact Or.inl ⟨3, by omega, i1, rfl⟩
        · exact Or.inl ⟨0, by omega, i2, rfl⟩
        · exact Or.inl ⟨1, by omega, i3, rfl⟩
      · skip
        have i0 : A0 = P2 := by clear hu; grind
        have o10 : A1 ≠ P0 := by clear hu; grind
        have o11 : A1 ≠ P1 := by clear hu; grind
        have o12 : A1 ≠ P2 := by clear hu; grind
        have o13 : A1 ≠ P3 := by clear hu; grind
        have i2 : A2 = P0 := by clear hu; grind
        have o30 : A3 ≠ P0 := by clear hu; grind
        have o31 : A3 ≠ P1 := by clear hu; grind
        have o32 : A3 ≠ P2 := by clear hu; grind
        have o33 : A3 ≠ P3 := by clear hu; grind
        obtain ⟨q1, q2⟩ := alike_0_3 h a0 a1 a2 a3 d01 d02 d03 d12 d13 d23 hu i0 o10 o11 o12 o13 i2 o30 o31 o32 o33
        refine ⟨_, _, _, alG_0_3, fun k hk => ?_, q1, q2⟩
        rcases (show k = 0 ∨ k = 1 ∨ k = 2 ∨ k = 3 by omega) with rfl | rfl | rfl | rfl
        · exact Or.inl ⟨2, by omega, i0, rfl⟩
        · refine Or.inr ⟨fun e he => ?_, rfl⟩
          rcases (show e = 0 ∨ e = 1 ∨ e = 2 ∨ e = 3 by omega) with rfl | rfl | rfl | rfl
          · exact o10
          · exact o11
          · exact o12
          · exact o13
        · exact Or.inl ⟨0, by omega, i2, rfl⟩
        · refine Or.inr ⟨fun e he => ?_, rfl⟩
          rcases (show e = 0 ∨ e = 1 ∨ e = 2 ∨ e = 3 by omega) with rfl | rfl | rfl | rfl
          · exact o30
          · exact o31
          · exact o32
          · exact o33
    · skip
      by_cases x5 : A0 = P3
      · skip
        by_cases x6 : A1 = P2
        · skip
          have i0 : A0 = P3 := by clear hu; grind
          have i1 : A1 = P2 := by clear hu; grind
          have i2 : A2 = P1 := by clear hu; grind
          have i3 : A3 = P0 := by clear hu; grind
          obtain ⟨q1, q2⟩ := alike_0_6 h a0 a1 a2 a3 d01 d02 d03 d12 d13 d23 hu i0 i1 i2 i3
          refine ⟨_, _, _, alG_0_6, fun k hk => ?_, q1, q2⟩
          rcases (show k = 0 ∨ k = 1 ∨ k = 2 ∨ k = 3 by omega) with rfl | rfl | rfl | rfl
          · exact Or.inl ⟨3, by omega, i0, rfl⟩
          · exact Or.inl ⟨2, by omega, i1, rfl⟩
          · exact Or.inl ⟨1, by omega, i2, rfl⟩
          · exact Or.inl ⟨0, by omega, i3, rfl⟩
        · skip
          have i0 : A0 = P3 := by clear hu; grind
          have o10 : A1 ≠ P0 := by clear hu; grind
          have o11 : A1 ≠ P1 := by clear hu; grind
          have o12 : A1 ≠ P2 := by clear hu; grind
          have o13 : A1 ≠ P3 := by clear hu; grind
          have o20 : A2 ≠ P0 := by clear hu; grind
          have o21 : A2 ≠ P1 := by clear hu; grind
          have o22 : A2 ≠ P2 := by clear hu; grind
          have o23 : A2 ≠ P3 := by clear hu; grind
          have i3 : A3 = P0 := by clear hu; grind
          obtain ⟨q1, q2⟩ := alike_0_5 h a0 a1 a2 a3 d01 d02 d03 d12 d13 d23 hu i0 o10 o11 o12 o13 o20 o21 o22 o23 i3
          refine ⟨_, _, _, alG_0_5, fun k hk => ?_, q1, q2⟩
          rcases (show k = 0 ∨ k = 1 ∨ k = 2 ∨ k = 3 by omega) with rfl | rfl | rfl | rfl
          · exact Or.inl ⟨3, by omega, i0, rfl⟩
          · refine Or.inr ⟨fun e he => ?_, rfl⟩
            rcases (show e = 0 ∨ e = 1 ∨ e = 2 ∨ e = 3 by omega) with rfl | rfl | rfl | rfl
            · exact o10
            · exact o11
            · exact o12
            · exact o13
          · refine Or.inr ⟨fun e he => ?_, rfl⟩
            rcases (show e = 0 ∨ e = 1 ∨ e = 2 ∨ e = 3 by omega) with rfl | rfl | rfl | rfl
            · exact o20
            · exact o21
            · exact o22
            · exact o23
          · exact Or.inl ⟨0, by omega, i3, rfl⟩
      · skip
        by_cases x7 : A1 = P2
        · skip
          have o00 : A0 ≠ P0 := by clear hu; grind
          have o01 : A0 ≠ P1 := by clear hu; grind
          have o02 : A0 ≠ P2 := by clear hu; grind
          have o03 : A0 ≠ P3 := by clear hu; grind
          have i1 : A1 = P2 := by clear hu; grind
          have i2 : A2 = P1 := by clear hu; grind
          have o30 : A3 ≠ P0 := by clear hu; grind
          have o31 : A3 ≠ P1 := by clear hu; grind
          have o32 : A3 ≠ P2 := by clear hu; grind
          have o33 : A3 ≠ P3 := by clear hu; grind
          obtain ⟨q1, q2⟩ := alike_0_7 h a0 a1 a2 a3 d01 d02 d03 d12 d13 d23 hu o00 o01 o02 o03 i1 i2 o30 o31 o32 o33
          refine ⟨_, _, _, alG_0_7, fun k hk => ?_, q1, q2⟩
          rcases (show k = 0 ∨ k = 1 ∨ k = 2 ∨ k = 3 by omega) with rfl | rfl | rfl | rfl
          · refine Or.inr ⟨fun e he => ?_, rfl⟩
            rcases (show e = 0 ∨ e = 1 ∨ e = 2 ∨ e = 3 by omega) with rfl | rfl | rfl | rfl
            · exact o00
            · exact o01
            · exact o02
            · exact o03
          · exact Or.inl ⟨2, by omega, i1, rfl⟩
          · exact Or.inl ⟨1, by omega, i2, rfl⟩
          · refine Or.inr ⟨fun e he => ?_, rfl⟩
            rcases (show e = 0 ∨ e = 1 ∨ e = 2 ∨ e = 3 by omega) with rfl | rfl | rfl | rfl
            · exact o30
            · exact o31
            · exact o32
            · exact o33
        · skip
          by_cases x8 : A1 = P3
          · skip
            have o00 : A0 ≠ P0 := by clear hu; grind
            have o01 : A0 ≠ P1 := by clear hu; grind
            have o02 : A0 ≠ P2 := by clear hu; grind
            have o03 : A0 ≠ P3 := by clear hu; grind
            have i1 : A1 = P3 := by clear hu; grind
            have o20 : A2 ≠ P0 := by clear hu; grind
            have o21 : A2 ≠ P1 := by clear hu; grind
            have o22 : A2 ≠ P2 := by clear hu; grind
            have o23 : A2 ≠ P3 := by clear hu; grind
            have i3 : A3 = P1 := by clear hu; grind
            obtain ⟨q1, q2⟩ := alike_0_8 h a0 a1 a2 a3 d01 d02 d03 d12 d13 d23 hu o00 o01 o02 o03 i1 o20 o21 o22 o23 i3
            refine ⟨_, _, _, alG_0_8, fun k hk => ?_, q1, q2⟩
            rcases (show k = 0 ∨ k = 1 ∨ k = 2 ∨ k = 3 by omega) with rfl | rfl | rfl | rfl
            · refine Or.inr ⟨fun e he => ?_, rfl⟩
              rcases (show e = 0 ∨ e = 1 ∨ e = 2 ∨ e = 3 by omega) with rfl | rfl | rfl | rfl
              · exact o00
              · exact o01
              · exact o02
              · exact o03
            · exact Or.inl ⟨3, by omega, i1, rfl⟩
            · refine Or.inr ⟨fun e he => ?_, rfl⟩
              rcases (show e = 0 ∨ e = 1 ∨ e = 2 ∨ e = 3 by omega) with rfl | rfl | rfl | rfl
              · exact o20
              · exact o21
              · exact o22
              · exact o23
            · exact Or.inl ⟨1, by omega, i3, rfl⟩
          · skip
            by_cases x9 : A2 = P3
            · skip
              have o00 : A0 ≠ P0 := by clear hu; grind
              have o01 : A0 ≠ P1 := by clear hu; grind
              have o02 : A0 ≠ P2 := by clear hu; grind
              have o03 : A0 ≠ P3 := by clear hu; grind
              have o10 : A1 ≠ P0 := by clear hu; grind
              have o11 : A1 ≠ P1 := by clear hu; grind
              have o12 : A1 ≠ P2 := by clear hu; grind
              have o13 : A1 ≠ P3 := by clear hu; grind
              have i2 : A2 = P3 := by clear hu; grind
              have i3 : A3 = P2 := by clear hu; grind
              obtain ⟨q1, q2⟩ := alike_0_9 h a0 a1 a2 a3 d01 d02 d03 d12 d13 d23 hu o00 o01 o02 o03 o10 o11 o12 o13 i2 i3
              refine ⟨_, _, _, alG_0_9, fun k hk => ?_, q1, q2⟩
              rcases (show k = 0 ∨ k = 1 ∨ k = 2 ∨ k = 3 by omega) with rfl | rfl | rfl | rfl
              · refine Or.inr ⟨fun e he => ?_, rfl⟩
                rcases (show e = 0 ∨ e = 1 ∨ e = 2 ∨ e = 3 by omega) with rfl | rfl | rfl | rfl
                · exact o00
                · exact o01
                · exact o02
                · exact o03
              · refine Or.inr ⟨fun e he => ?_, rfl⟩
                rcases (show e = 0 ∨ e = 1 ∨ e = 2 ∨ e = 3 by omega) with rfl | rfl | rfl | rfl
                · exact o10
                · exact o11
                · exact o12
                · exact o13
              · exact Or.inl ⟨3, by omega, i2, rfl⟩
              · exact Or.inl ⟨2, by omega, i3, rfl⟩
            · skip
              have o00 : A0 ≠ P0 := by clear hu; grind
              have o01 : A0 ≠ P1 := by clear hu; grind
              have o02 : A0 ≠ P2 := by clear hu; grind
              have o03 : A0 ≠ P3 := by clear hu; grind
              have o10 : A1 ≠ P0 := by clear hu; grind
              have o11 : A1 ≠ P1 := by clear hu; grind
              have o12 : A1 ≠ P2 := by clear hu; grind
              have o13 : A1 ≠ P3 := by clear hu; grind
              have o20 : A2 ≠ P0 := by clear hu; grind
              have o21 : A2 ≠ P1 := by clear hu; grind
              have o22 : A2 ≠ P2 := by clear hu; grind
              have o23 : A2 ≠ P3 := by clear hu; grind
              have o30 : A3 ≠ P0 := by clear hu; grind
              have o31 : A3 ≠ P1 := by clear hu; grind
              have o32 : A3 ≠ P2 := by clear hu; grind
              have o33 : A3 ≠ P3 := by clear hu; grind
              obtain ⟨q1, q2⟩ := alike_0_0 h a0 a1 a2 a3 d01 d02 d03 d12 d13 d23 hu o00 o01 o02 o03 o10 o11 o12 o13 o20 o21 o22 o23 o30 o31 o32 o33
              refine ⟨_, _, _, alG_0_0, fun k hk => ?_, q1, q2⟩
              rcases (show k = 0 ∨ k = 1 ∨ k = 2 ∨ k = 3 by omega) with rfl | rfl | rfl | rfl
              · refine Or.inr ⟨fun e he => ?_, rfl⟩
                rcases (show e = 0 ∨ e = 1 ∨ e = 2 ∨ e = 3 by omega) with rfl | rfl | rfl | rfl
                · exact o00
                · exact o01
                · exact o02
                · exact o03
              · refine Or.inr ⟨fun e he => ?_, rfl⟩
                rcases (show e = 0 ∨ e = 1 ∨ e = 2 ∨ e = 3 by omega) with rfl | rfl | rfl | rfl
                · exact o10
                · exact o11
                · exact o12
                · exact o13
              · refine Or.inr ⟨fun e he => ?_, rfl⟩
                rcases (show e = 0 ∨ e = 1 ∨ e = 2 ∨ e = 3 by omega) with rfl | rfl | rfl | rfl
                · exact o20
                · exact o21
                · exact o22
                · exact o23
              · refine Or.inr ⟨fun e he => ?_, rfl⟩
                rcases (show e = 0 ∨ e = 1 ∨ e = 2 ∨ e = 3 by omega) with rfl | rfl | rfl | rfl
                · exact o30
                · exact o31
                · exact o32
                · exact o33
theorem alike_pat1 {v u : Wr} (h : Mt v) {P0 P1 P2 P3 A0 A1 A2 A3 : Port} (a0 : v P0 = some A0) (a1 : v P1 = some A1) (a2 : v P2 = some A2) (a3 : v P3 = some A3) (d01 : P0 ≠ P1) (d02 : P0 ≠ P2) (d03 : P0 ≠ P3) (d12 : P1 ≠ P2) (d13 : P1 ≠ P3) (d23 : P2 ≠ P3) (hu : ∀ r, u r = if r = P0 ∨ r = P1 ∨ r = P2 ∨ r = P3 then none else v r) : ∃ (ins : Nat → Int) (l : List (Nat × Nat)) (n : Nat), alG 1 ins = some (l, n) ∧ (∀ k, k < 4 → (∃ e, e < 4 ∧ fn4 A0 A1 A2 A3 k = fn4 P0 P1 P2 P3 e ∧ ins k = e) ∨ ((∀ e, e < 4 → fn4 A0 A1 A2 A3 k ≠ fn4 P0 P1 P2 P3 e) ∧ ins k = -1)) ∧ wls (fn4 A0 A1 A2 A3) l u = wf P1 P2 (wf P0 P3 v) ∧ ∀ r : Nat, r + n = rf P1 P2 (wf P0 P3 v) (rf P0 P3 v r) := by
  have b0 := h _ _ a0
  have b1 := h _ _ a1
  have b2 := h _ _ a2
  have b3 := h _ _ a3
  by_cases x1 : A0 = P1
  · skip
    by_cases x2 : A2 = P3
    · skip
      have i0 : A0 = P1 := by clear hu; grind
      have i1 : A1 = P0 := by clear hu; grind
      have i2 : A2 = P3 := by clear hu; grind
      have i3 : A3 = P2 := by clear hu; grind
      obtain ⟨q1, q2⟩ := alike_1_2 h a0 a1 a2 a3 d01 d02 d03 d12 d13 d23 hu i0 i1 i2 i3
      refine ⟨_, _, _, alG_1_2, fun k hk => ?_, q1, q2⟩
      rcases (show k = 0 ∨ k = 1 ∨ k = 2 ∨ k = 3 by omega) with rfl | rfl | rfl | rfl
      · exact Or.inl ⟨1, by omega, i0, rfl⟩
      · exact Or.inl ⟨0, by omega, i1, rfl⟩
      · exact Or.inl ⟨3, by omega, i2, rfl⟩
      · exact Or.inl ⟨2, by omega, i3, rfl⟩
    · skip
      have i0 : A0 = P1 := by clear hu; grind
      have i1 : A1 = P0 := by clear hu; grind
      have o20 : A2 ≠ P0 := by clear hu; grind
      have o21 : A2 ≠ P1 := by clear hu; grind
      have o22 : A2 ≠ P2 := by clear hu; grind
      have o23 : A2 ≠ P3 := by clear hu; grind
      have o30 : A3 ≠ P0 := by clear hu; grind
      have o31 : A3 ≠ P1 := by clear hu; grind
      have o32 : A3 ≠ P2 := by clear hu; grind
      have o33 : A3 ≠ P3 := by clear hu; grind
      obtain ⟨q1, q2⟩ := alike_1_1 h a0 a1 a2 a3 d01 d02 d03 d12 d13 d23 hu i0 i1 o20 o21 o22 o23 o30 o31 o32 o33
      refine ⟨_, _, _, alG_1_1, fun k hk => ?_, q1, q2⟩
      rcases (show k = 0 ∨ k = 1 ∨ k = 2 ∨ k = 3 by omega) with rfl | rfl | rfl | rfl
      · exact Or.inl ⟨1, by omega, i0, rfl⟩
      · exact Or.inl ⟨0, by omega, i1, rfl⟩
      · refine Or.inr ⟨fun e he => ?_, rfl⟩
        rcases (show e = 0 ∨ e = 1 ∨ e = 2 ∨ e = 3 by omega) with rfl | rfl | rfl | rfl
        · exact o20
        · exact o21
        · exact o22
        · exact o23
      · refine Or.inr ⟨fun e he => ?_, rfl⟩
        rcases (show e = 0 ∨ e = 1 ∨ e = 2 ∨ e = 3 by omega) with rfl | rfl | rfl | rfl
        · exact o30
        · exact o31
        · exact o32
        · exact o33
  · skip
    by_cases x3 : A0 = P2
    · skip
      by_cases x4 : A1 = P3
      · skip
        have i0 : A0 = P2 := by clear hu; grind
        have i1 : A1 = P3 := by clear hu; grind
        have i2 : A2 = P0 := by clear hu; grind
        have i3 : A3 = P1 := by clear hu; grind
        obtain ⟨q1, q2⟩ := alike_1_4 h a0 a1 a2 a3 d01 d02 d03 d12 d13 d23 hu i0 i1 i2 i3
        refine ⟨_, _, _, alG_1_4, fun k hk => ?_, q1, q2⟩
        rcases (show k = 0 ∨ k = 1 ∨ k = 2 ∨ k = 3 by omega) with rfl | rfl | rfl | rfl
        · exact Or.inl ⟨2, by omega, i0, rfl⟩
        · exact Or.inl ⟨3, by omega, i1, rfl⟩
        · exact Or.inl ⟨0, by omega, i2, rfl⟩
        · exact Or.inl ⟨1, by omega, i3, rfl⟩
      · skip
        have i0 : A0 = P2 := by clear hu; grind
        have o10 : A1 ≠ P0 := by clear hu; grind
        have o11 : A1 ≠ P1 := by clear hu; grind
        have o12 : A1 ≠ P2 := by clear hu; grind
        have o13 : A1 ≠ P3 := by clear hu; grind
        have i2 : A2 = P0 := by clear hu; grind
        have o30 : A3 ≠ P0 := by clear hu; grind
        have o31 : A3 ≠ P1 := by clear hu; grind
        have o32 : A3 ≠ P2 := by clear hu; grind
        have o33 : A3 ≠ P3 := by clear hu; grind
        obtain ⟨q1, q2⟩ := alike_1_3 h a0 a1 a2 a3 d01 d02 d03 d12 d13 d23 hu i0 o10 o11 o12 o13 i2 o30 o31 o32 o33
        refine ⟨_, _, _, alG_1_3, fun k hk => ?_, q1, q2⟩
        rcases (show k = 0 ∨ k = 1 ∨ k = 2 ∨ k = 3 by omega) with rfl | rfl | rfl | rfl
        · exact Or.inl ⟨2, by omega, i0, rfl⟩
        · refine Or.inr ⟨fun e he => ?_, rfl⟩
          rcases (show e = 0 ∨ e = 1 ∨ e = 2 ∨ e = 3 by omega) with rfl | rfl | rfl | rfl
          · exact o10
          · exact o11
          · exact o12
          · exact o13
        · exact Or.inl ⟨0, by omega, i2, rfl⟩
        · refine Or.inr ⟨fun e he => ?_, rfl⟩
          rcases (show e = 0 ∨ e = 1 ∨ e = 2 ∨ e = 3 by omega) with rfl | rfl | rfl | rfl
          · exact o30
          · exact o31
          · exact o32
          · exact o33
    · skip
      by_cases x5 : A0 = P3
      · skip
        by_cases x6 : A1 = P2
        · skip
          have i0 : A0 = P3 := by clear hu; grind
          have i1 : A1 = P2 := by clear hu; grind
          have i2 : A2 = P1 := by clear hu; grind
          have i3 : A3 = P0 := by clear hu; grind
          obtain ⟨q1, q2⟩ := alike_1_6 h a0 a1 a2 a3 d01 d02 d03 d12 d13 d23 hu i0 i1 i2 i3
          refine ⟨_, _, _, alG_1_6, fun k hk => ?_, q1, q2⟩
          rcases (show k = 0 ∨ k = 1 ∨ k = 2 ∨ k = 3 by omega) with rfl | rfl | rfl | rfl
          · exact Or.inl ⟨3, by omega, i0, rfl⟩
          · exact Or.inl ⟨2, by omega, i1, rfl⟩
          · exact Or.inl ⟨1, by omega, i2, rfl⟩
          · exact Or.inl ⟨0, by omega, i3, rfl⟩
        · skip
          have i0 : A0 = P3 := by clear hu; grind
          have o10 : A1 ≠ P0 := by clear hu; grind
          have o11 : A1 ≠ P1 := by clear hu; grind
          have o12 : A1 ≠ P2 := by clear hu; grind
          have o13 : A1 ≠ P3 := by clear hu; grind
          have o20 : A2 ≠ P0 := by clear hu; grind
          have o21 : A2 ≠ P1 := by clear hu; grind
          have o22 : A2 ≠ P2 := by clear hu; grind
          have o23 : A2 ≠ P3 := by clear hu; grind
          have i3 : A3 = P0 := by clear hu; grind
          obtain ⟨q1, q2⟩ := alike_1_5 h a0 a1 a2 a3 d01 d02 d03 d12 d13 d23 hu i0 o10 o11 o12 o13 o20 o21 o22 o23 i3
          refine ⟨_, _, _, alG_1_5, fun k hk => ?_, q1, q2⟩
          rcases (show k = 0 ∨ k = 1 ∨ k = 2 ∨ k = 3 by omega) with rfl | rfl | rfl | rfl
          · exact Or.inl ⟨3, by omega, i0, rfl⟩
          · refine Or.inr ⟨fun e he => ?_, rfl⟩
            rcases (show e = 0 ∨ e = 1 ∨ e = 2 ∨ e = 3 by omega) with rfl | rfl | rfl | rfl
            · exact o10
            · exact o11
            · exact o12
            · exact o13
          · refine Or.inr ⟨fun e he => ?_, rfl⟩
            rcases (show e = 0 ∨ e = 1 ∨ e = 2 ∨ e = 3 by omega) with rfl | rfl | rfl | rfl
            · exact o20
            · exact o21
            · exact o22
            · exact o23
          · exact Or.inl ⟨0, by omega, i3, rfl⟩
      · skip
        by_cases x7 : A1 = P2
        · skip
          have o00 : A0 ≠ P0 := by clear hu; grind
          have o01 : A0 ≠ P1 := by clear hu; grind
          have o02 : A0 ≠ P2 := by clear hu; grind
          have o03 : A0 ≠ P3 := by clear hu; grind
          have i1 : A1 = P2 := by clear hu; grind
          have i2 : A2 = P1 := by clear hu; grind
          have o30 : A3 ≠ P0 := by clear hu; grind
          have o31 : A3 ≠ P1 := by clear hu; grind
          have o32 : A3 ≠ P2 := by clear hu; grind
          have o33 : A3 ≠ P3 := by clear hu; grind
          obtain ⟨q1, q2⟩ := alike_1_7 h a0 a1 a2 a3 d01 d02 d03 d12 d13 d23 hu o00 o01 o02 o03 i1 i2 o30 o31 o32 o33
          refine ⟨_, _, _, alG_1_7, fun k hk => ?_, q1, q2⟩
          rcases (show k = 0 ∨ k = 1 ∨ k = 2 ∨ k = 3 by omega) with rfl | rfl | rfl | rfl
          · refine Or.inr ⟨fun e he => ?_, rfl⟩
            rcases (show e = 0 ∨ e = 1 ∨ e = 2 ∨ e = 3 by omega) with rfl | rfl | rfl | rfl
            · exact o00
            · exact o01
            · exact o02
            · exact o03
          · exact Or.inl ⟨2, by omega, i1, rfl⟩
          · exact Or.inl ⟨1, by omega, i2, rfl⟩
          · refine Or.inr ⟨fun e he => ?_, rfl⟩
            rcases (show e = 0 ∨ e = 1 ∨ e = 2 ∨ e = 3 by omega) with rfl | rfl | rfl | rfl
            · exact o30
            · exact o31
            · exact o32
            · exact o33
        · skip
          by_cases x8 : A1 = P3
          · skip
            have o00 : A0 ≠ P0 := by clear hu; grind
            have o01 : A0 ≠ P1 := by clear hu; grind
            have o02 : A0 ≠ P2 := by clear hu; grind
            have o03 : A0 ≠ P3 := by clear hu; grind
            have i1 : A1 = P3 := by clear hu; grind
            have o20 : A2 ≠ P0 := by clear hu; grind
            have o21 : A2 ≠ P1 := by clear hu; grind
            have o22 : A2 ≠ P2 := by clear hu; grind
            have o23 : A2 ≠ P3 := by clear hu; grind
            have i3 : A3 = P1 := by clear hu; grind
            obtain ⟨q1, q2⟩ := alike_1_8 h a0 a1 a2 a3 d01 d02 d03 d12 d13 d23 hu o00 o01 o02 o03 i1 o20 o21 o22 o23 i3
            refine ⟨_, _, _, alG_1_8, fun k hk => ?_, q1, q2⟩
            rcases (show k = 0 ∨ k = 1 ∨ k = 2 ∨ k = 3 by omega) with rfl | rfl | rfl | rfl
            · refine Or.inr ⟨fun e he => ?_, rfl⟩
              rcases (show e = 0 ∨ e = 1 ∨ e = 2 ∨ e = 3 by omega) with rfl | rfl | rfl | rfl
              · exact o00
              · exact o01
              · exact o02
              · exact o03
            · exact Or.inl ⟨3, by omega, i1, rfl⟩
            · refine Or.inr ⟨fun e he => ?_, rfl⟩
              rcases (show e = 0 ∨ e = 1 ∨ e = 2 ∨ e = 3 by omega) with rfl | rfl | rfl | rfl
              · exact o20
              · exact o21
              · exact o22
              · exact o23
            · exact Or.inl ⟨1, by omega, i3, rfl⟩
          · skip
            by_cases x9 : A2 = P3
            · skip
              have o00 : A0 ≠ P0 := by clear hu; grind
              have o01 : A0 ≠ P1 := by clear hu; grind
              have o02 : A0 ≠ P2 := by clear hu; grind
              have o03 : A0 ≠ P3 := by clear hu; grind
              have o10 : A1 ≠ P0 := by clear hu; grind
              have o11 : A1 ≠ P1 := by clear hu; grind
              have o12 : A1 ≠ P2 := by clear hu; grind
              have o13 : A1 ≠ P3 := by clear hu; grind
              have i2 : A2 = P3 := by clear hu; grind
              have i3 : A3 = P2 := by clear hu; grind
              obtain ⟨q1, q2⟩ := alike_1_9 h a0 a1 a2 a3 d01 d02 d03 d12 d13 d23 hu o00 o01 o02 o03 o10 o11 o12 o13 i2 i3
              refine ⟨_, _, _, alG_1_9, fun k hk => ?_, q1, q2⟩
              rcases (show k = 0 ∨ k = 1 ∨ k = 2 ∨ k = 3 by omega) with rfl | rfl | rfl | rfl
              · refine Or.inr ⟨fun e he => ?_, rfl⟩
                rcases (show e = 0 ∨ e = 1 ∨ e = 2 ∨ e = 3 by omega) with rfl | rfl | rfl | rfl
                · exact o00
                · exact o01
                · exact o02
                · exact o03
              · refine Or.inr ⟨fun e he => ?_, rfl⟩
                rcases (show e = 0 ∨ e = 1 ∨ e = 2 ∨ e = 3 by omega) with rfl | rfl | rfl | rfl
                · exact o10
                · exact o11
                · exact o12
                · exact o13
              · exact Or.inl ⟨3, by omega, i2, rfl⟩
              · exact Or.inl ⟨2, by omega, i3, rfl⟩
            · skip
              have o00 : A0 ≠ P0 := by clear hu; grind
              have o01 : A0 ≠ P1 := by clear hu; grind
              have o02 : A0 ≠ P2 := by clear hu; grind
              have o03 : A0 ≠ P3 := by clear hu; grind
              have o10 : A1 ≠ P0 := by clear hu; grind
              have o11 : A1 ≠ P1 := by clear hu; grind
              have o12 : A1 ≠ P2 := by clear hu; grind
              have o13 : A1 ≠ P3 := by clear hu; grind
              have o20 : A2 ≠ P0 := by clear hu; grind
              have o21 : A2 ≠ P1 := by clear hu; grind
              have o22 : A2 ≠ P2 := by clear hu; grind
              have o23 : A2 ≠ P3 := by clear hu; grind
              have o30 : A3 ≠ P0 := by clear hu; grind
              have o31 : A3 ≠ P1 := by clear hu; grind
              have o32 : A3 ≠ P2 := by clear hu; grind
              have o33 : A3 ≠ P3 := by clear hu; grind
              obtain ⟨q1, q2⟩ := alike_1_0 h a0 a1 a2 a3 d01 d02 d03 d12 d13 d23 hu o00 o01 o02 o03 o10 o11 o12 o13 o20 o21 o22 o23 o30 o31 o32 o33
              refine ⟨_, _, _, alG_1_0, fun k hk => ?_, q1, q2⟩
              rcases (show k = 0 ∨ k = 1 ∨ k = 2 ∨ k = 3 by omega) with rfl | rfl | rfl | rfl
              · refine Or.inr ⟨fun e he => ?_, rfl⟩
                rcases (show e = 0 ∨ e = 1 ∨ e = 2 ∨ e = 3 by omega) with rfl | rfl | rfl | rfl
                · exact o00
                · exact o01
                · exact o02
                · exact o03
              · refine Or.inr ⟨fun e he => ?_, rfl⟩
                rcases (show e = 0 ∨ e = 1 ∨ e = 2 ∨ e = 3 by omega) with rfl | rfl | rfl | rfl
                · exact o10
                · exact o11
                · exact o12
                · exact o13
              · refine Or.inr ⟨fun e he => ?_, rfl⟩
                rcases (show e = 0 ∨ e = 1 ∨ e = 2 ∨ e = 3 by omega) with rfl | rfl | rfl | rfl
                · exact o20
                · exact o21
                · exact o22
                · exact o23
              · refine Or.inr ⟨fun e he => ?_, rfl⟩
                rcases (show e = 0 ∨ e = 1 ∨ e = 2 ∨ e = 3 by omega) with rfl | rfl | rfl | rfl
                · exact o30
                · exact o31
                · exact o32
                · exact o33
section MB
variable {b : Nat} {o : Ob} {K : Kd} {w : Wr} {r : Nat}
theorem PP_fn (x y k : Nat) (hk : k < 4) : PP x y k = fn4 (x, 1) (x, 2) (y, 1) (y, 2) k := by
  rcases (show k = 0 ∨ k = 1 ∨ k = 2 ∨ k = 3 by omega) with rfl | rfl | rfl | rfl <;> rfl
theorem MS_alike (hb : b < 4) (h : MS b o K w r) (hF : WF K w) {x y kx : Nat} (hx : K x = some kx) (hy : K y = some kx) (hxy : x ≠ y) (hq : w (x, 0) = some (y, 0)) (hkx : kx ≠ 0) {s1 s2 : Nat} (hs1 : s1 = (if kx = 1 then 2 else 1)) (hs2 : s2 = (if kx = 1 then 1 else 2)) : ∃ o', FX7_meetAlike (jI x) (jI y) o = some o' ∧ MS b o' (K00 K x y) (wf (x, 2) (y, s2) (wf (x, 1) (y, s1) (wA0 x y w))) (rf (x, 2) (y, s2) (wf (x, 1) (y, s1) (wA0 x y w)) (rf (x, 1) (y, s1) (wA0 x y w) r)) ∧ Fm b o o' := by
  have hM := hF.1
  have hx180 := MS_lt h hx
  have hy180 := MS_lt h hy
  have k3x := h.2.1.2.2 x kx hx
  have M4 : Mt (wA0 x y w) := Mt_cut hM hq
  obtain ⟨A0, a0⟩ := some_of (aux_some (x := x) (y := y) hF hx hkx (s := 1) (Or.inl rfl))
  obtain ⟨A1, a1⟩ := some_of (aux_some (x := x) (y := y) hF hx hkx (s := 2) (Or.inr rfl))
  obtain ⟨A2, a2⟩ := some_of (aux_some (x := x) (y := y) hF hy hkx (s := 1) (Or.inl rfl))
  obtain ⟨A3, a3⟩ := some_of (aux_some (x := x) (y := y) hF hy hkx (s := 2) (Or.inr rfl))
  have conv : ∀ n s, s ≠ 0 → wA0 x y w (n, s) = w (n, s) := fun n s hs => wA0_same (pne (Or.inr hs)) (pne (Or.inr hs))
  have hA : ∀ k, k < 4 → wA0 x y w (PP x y k) = some (fn4 A0 A1 A2 A3 k) := by
    intro k hk
    rcases (show k = 0 ∨ k = 1 ∨ k = 2 ∨ k = 3 by omega) with rfl | rfl | rfl | rfl
    · exact a0
    · exact a1
    · exact a2
    · exact a3
  have hA' : ∀ k, k < 4 → w (PP x y k) = some (fn4 A0 A1 A2 A3 k) := fun k hk => by
    rw [← hA k hk]
    unfold PP
    exact (conv _ _ (by omega)).symm
  have Pd : ∀ e e', e < 4 → e' < 4 → PP x y e = PP x y e' → e = e' := by
    intro e e' h1 h2 h3
    unfold PP at h3
    have h4 := congrArg Prod.fst h3
    have h5 := congrArg Prod.snd h3
    simp only at h4 h5
    by_cases c1 : e < 2 <;> by_cases c2 : e' < 2
    · omega
    · rw [if_pos c1, if_neg c2] at h4; exact absurd h4 hxy
    · rw [if_neg c1, if_pos c2] at h4; exact absurd h4.symm hxy
    · omega
  have vA : ∀ k, k < 4 → vm (fn4 A0 A1 A2 A3 k) := fun k hk => (h.2.2.1.1 _ _ (hA' k hk)).2.1
  have iA : ∀ k j, k < 4 → j < 4 → fn4 A0 A1 A2 A3 k = fn4 A0 A1 A2 A3 j → k = j := fun k j hk hj e => by
    have z1 := (M4 _ _ (hA k hk)).1
    have z2 := (M4 _ _ (hA j hj)).1
    rw [e, z2] at z1
    exact Pd _ _ hk hj (Option.some.inj z1).symm
  obtain ⟨u, e1, m1, f1, u16, sc⟩ := MS_layPorts hb h hx180 hy180 hxy
  obtain ⟨o2, e2, m2, f2, s2'⟩ := MS_vanish hb m1 hx180
  obtain ⟨o3, e3, m3, f3, s3⟩ := MS_vanish hb m2 hy180
  have S3 : Sc u o3 := Sc_tr s2' s3
  have kx' : FX7_kindOf (jI x) u = some (jI kx) := by rw [m_kindOf hb m1.1 m1.2.1 hx180, hx]; rfl
  have h14 : ∀ k, k < 4 → oA o3 14 k = jI (mp (fn4 A0 A1 A2 A3 k)) := fun k hk => by
    rw [S3 14 (by omega)]
    exact (sc k _ hk (hA' k hk)).1
  have hu : ∀ q, w3 y (w3 x w) q = if q = (x, 1) ∨ q = (x, 2) ∨ q = (y, 1) ∨ q = (y, 2) then none else wA0 x y w q := by
    intro q
    obtain ⟨n, s⟩ := q
    rw [w33, wA0_eq]
    simp only [Prod.mk.injEq]
    grind
  have gen : ∀ (cr : Nat) (ins : Nat → Int) (l : List (Nat × Nat)) (n : Nat), cr < 2 → alG cr ins = some (l, n) → (∀ k, k < 4 → (∃ e, e < 4 ∧ fn4 A0 A1 A2 A3 k = fn4 (x, 1) (x, 2) (y, 1) (y, 2) e ∧ ins k = e) ∨ ((∀ e, e < 4 → fn4 A0 A1 A2 A3 k ≠ fn4 (x, 1) (x, 2) (y, 1) (y, 2) e) ∧ ins k = -1)) → ∃ o', BX7_meetAlike_34 (jI x) (jI y) (jI cr) (0 : Int32) u = some o' ∧ MS b o' (K00 K x y) (wls (fn4 A0 A1 A2 A3) l (w3 y (w3 x w))) (r + n) ∧ Fm b o o' := by
    intro cr ins l n hcr hal hins
    have hAl : Al o3 ins (fun _ => 0) := by
      refine ⟨fun k hk => ?_, fun k hk => ?_⟩
      · rw [S3 15 (by omega)]
        obtain ⟨-, i1, i2⟩ := sc k _ hk (hA' k hk)
        rcases hins k hk with ⟨e, he, z1, z2⟩ | ⟨z1, z2⟩
        · rw [z2]
          exact ⟨i1 e he (by rw [PP_fn x y e he]; exact z1), by omega, by omega⟩
        · rw [z2]
          exact ⟨i2 (fun e he => by rw [PP_fn x y e he]; exact z1 e he), by omega, by omega⟩
      · rw [S3 16 (by omega), u16 k hk]
        exact ⟨rfl, Nat.zero_lt_succ 1⟩
    unfold alG at hal
    cases hw : alW cr ins 4 0 (fun _ => 0) with
    | none => rw [hw] at hal; cases hal
    | some ld =>
      obtain ⟨l1, d1⟩ := ld
      rw [hw] at hal
      simp only at hal
      cases hr : alR cr ins 4 0 d1 with
      | none => rw [hr] at hal; cases hal
      | some n1 =>
        rw [hr] at hal
        simp only [Option.some.injEq, Prod.mk.injEq] at hal
        obtain ⟨rfl, rfl⟩ := hal
        obtain ⟨o4, q1, q2, q3, q4⟩ := MS_alW hb hcr vA iA (fun o0_28 => LX7_meetAlike_117 (jI cr) (0 : Int32) fu (0 : Int32) o0_28) 4 fu 0 _ o3 _ _ r l1 d1 hw (by omega) (by rw [fu_eq]; omega) m3 hAl h14
        obtain ⟨o5, t1, t2, t3⟩ := MS_alR hb hcr 4 fu 0 d1 o4 _ _ r n1 hr (by omega) (by rw [fu_eq]; omega) q2 q3
        refine ⟨o5, ?_, t2, Fm_tr (Fm_tr (Fm_tr (Fm_tr f1 f2) f3) q4) t3⟩
        unfold BX7_meetAlike_34
        rw [e2, b1_some, e3, b1_some]
        rw [show jI ((0 : Nat) : Int) = (0 : Int32) from rfl] at q1 t1
        rw [q1, t1]
  have hpd : ((x, 1) : Port) ≠ (x, 2) ∧ ((x, 1) : Port) ≠ (y, 1) ∧ ((x, 1) : Port) ≠ (y, 2) ∧ ((x, 2) : Port) ≠ (y, 1) ∧ ((x, 2) : Port) ≠ (y, 2) ∧ ((y, 1) : Port) ≠ (y, 2) := ⟨pne (Or.inr (by omega)), pne (Or.inl hxy), pne (Or.inl hxy), pne (Or.inl hxy), pne (Or.inl hxy), pne (Or.inr (by omega))⟩
  obtain ⟨p1, p2, p3, p4, p5, p6⟩ := hpd
  unfold FX7_meetAlike
  rw [e1, b1_some, kx', b1_some]
  have n0 : ¬ jI (kx : Int) = (0 : Int32) := by rw [j_0, jI_eq (by omega) (by omega) (by omega) (by omega)]; omega
  by_cases c : kx = 1
  · rw [if_pos c] at hs1 hs2
    subst hs1
    subst hs2
    obtain ⟨ins, l, n, g1, g2, g3, g4⟩ := alike_pat1 M4 a0 a1 a2 a3 p1 p2 p3 p4 p5 p6 hu
    obtain ⟨o', r1, r2, r3⟩ := gen 1 ins l n (by omega) g1 g2
    rw [if_pos (by rw [c]; rfl), b1_some, if_neg n0]
    rw [g3, g4] at r2
    exact ⟨o', r1, r2, r3⟩
  · rw [if_neg c] at hs1 hs2
    subst hs1
    subst hs2
    obtain ⟨ins, l, n, g1, g2, g3, g4⟩ := alike_pat0 M4 a0 a1 a2 a3 p1 p2 p3 p4 p5 p6 hu
    obtain ⟨o', r1, r2, r3⟩ := gen 0 ins l n (by omega) g1 g2
    rw [if_neg (by rw [j_1, jI_eq (by omega) (by omega) (by omega) (by omega)]; omega), b1_some, if_neg n0]
    rw [g3, g4] at r2
    exact ⟨o', r1, r2, r3⟩
theorem MS_ends (hb : b < 4) (h : MS b o K w r) (hF : WF K w) {x y : Nat} (hx : K x = some 0) (hy : K y = some 0) (hxy : x ≠ y) (hq : w (x, 0) = some (y, 0)) : ∃ o', FX7_meetAlike (jI x) (jI y) o = some o' ∧ MS b o' (K00 K x y) (wA0 x y w) r ∧ Fm b o o' := by
  have hx180 := MS_lt h hx
  have hy180 := MS_lt h hy
  obtain ⟨u, e1, m1, f1, -, -⟩ := MS_layPorts hb h hx180 hy180 hxy
  obtain ⟨o2, e2, m2, f2, -⟩ := MS_vanish hb m1 hx180
  obtain ⟨o3, e3, m3, f3, -⟩ := MS_vanish hb m2 hy180
  have kx' : FX7_kindOf (jI x) u = some (jI (0 : Nat)) := by rw [m_kindOf hb m1.1 m1.2.1 hx180, hx]; rfl
  have eN : ∀ n, K n = some 0 → ∀ s, s = 1 ∨ s = 2 → w (n, s) = none := by
    intro n hn s hs
    by_cases c : w (n, s) = none
    · exact c
    · rcases (hF.2.1 n s (by omega)).mp c with ⟨z1, -⟩ | ⟨-, k, z2⟩
      · omega
      · rw [hn] at z2; cases z2
  have ww : w3 y (w3 x w) = wA0 x y w := by
    funext q
    obtain ⟨n, s⟩ := q
    have := eN x hx 1 (Or.inl rfl)
    have := eN x hx 2 (Or.inr rfl)
    have := eN y hy 1 (Or.inl rfl)
    have := eN y hy 2 (Or.inr rfl)
    rw [w33, wA0_eq]
    simp only
    by_cases c : s < 3
    · rcases (show s = 0 ∨ s = 1 ∨ s = 2 by omega) with rfl | rfl | rfl <;> grind
    · grind
  refine ⟨o3, ?_, ww ▸ m3, Fm_tr (Fm_tr f1 f2) f3⟩
  unfold FX7_meetAlike
  rw [e1, b1_some, kx', b1_some, if_neg (by decide), b1_some, if_pos (by decide)]
  unfold BX7_meetAlike_34
  rw [e2, b1_some, e3, b1_some, show fu = 4999 + 1 from rfl, LX7_meetAlike_49.eq_2, if_neg (by decide), if_neg (by decide), LX7_meetAlike_117.eq_2, if_neg (by decide), if_neg (by decide)]
theorem Perf_det {K : Kd} {w : Wr} {r x y kx ky : Nat} {K1 K2 : Kd} {w1 w2 : Wr} {r1 r2 : Nat} (h1 : Perf K w r x y kx ky K1 w1 r1) (h2 : Perf K w r x y kx ky K2 w2 r2) : K1 = K2 ∧ w1 = w2 ∧ r1 = r2 := by
  rcases h1 with ⟨a1, a2, a3, a4, a5⟩ | ⟨a1, a2, s1, s2, a3, a4, a5, a6, a7⟩ | ⟨a1, a2, z, p, q, a3, a4, a5, a6, a7, a8⟩ | ⟨a1, a2, a3, p, q, s, t, a4, a5, a6, a7, a8, a9, a10⟩ <;> rcases h2 with ⟨b1, b2, b3, b4, b5⟩ | ⟨b1, b2, t1, t2, b3, b4, b5, b6, b7⟩ | ⟨b1, b2, z', p', q', b3, b4, b5, b6, b7, b8⟩ | ⟨b1, b2, b3, p', q', s', t', b4, b5, b6, b7, b8, b9, b10⟩
  all_goals first
    | (exfalso; omega)
    | skip
  · exact ⟨a3.trans b3.symm, a4.trans b4.symm, a5.trans b5.symm⟩
  · subst a3; subst a4; subst b3; subst b4
    exact ⟨a5.trans b5.symm, a6.trans b6.symm, a7.trans b7.symm⟩
  · subst a3; subst b3
    have := lf_unique a4 b4
    subst this
    have := lf_unique a5 b5
    subst this
    exact ⟨a6.trans b6.symm, a7.trans b7.symm, a8.trans b8.symm⟩
  · have := lf_unique a4 b4
    subst this
    have := lf_unique a5 b5
    subst this
    have := lf_unique a6 b6
    subst this
    have := lf_unique a7 b7
    subst this
    exact ⟨a8.trans b8.symm, a9.trans b9.symm, a10.trans b10.symm⟩
theorem MS_meetNow (hb : b < 4) (h : MS b o K w r) (hF : WF K w) {x y kx ky : Nat} (hx : K x = some kx) (hy : K y = some ky) (hq : w (x, 0) = some (y, 0)) {K' : Kd} {w' : Wr} {r' : Nat} (hP : Perf K w r x y kx ky K' w' r') (hroom : sortS kx ky = 2 → cnt K 180 + 2 ≤ 180) : ∃ o', FX7_meetNow (jI x) o = some (jI (sortS kx ky), o') ∧ MS b o' K' w' r' ∧ Fm b o o' := by
  have hM := hF.1
  obtain ⟨hqy, hne⟩ := hM _ _ hq
  have hxy : x ≠ y := fun z => hne (by rw [z])
  have hx180 := MS_lt h hx
  have hy180 := MS_lt h hy
  have hkx3 := h.2.1.2.2 x kx hx
  have hky3 := h.2.1.2.2 y ky hy
  have hcN := cnt_le K 180
  have hc1 := cnt_del (K := K) (x := x) (by rw [hx]; exact fun z => by cases z) (n := 180) (by omega)
  have hyK1 : ku K x none y = some ky := by
    unfold ku
    rw [if_neg (fun z => hxy z.symm)]
    exact hy
  have hc2 := cnt_del (K := ku K x none) (x := y) (by rw [hyK1]; exact fun z => by cases z) (n := 180) (by omega)
  have meets : FX7_meets (jI x) o = some (jI y) := by
    have := m_meets hb h.1 h.2.2.1 hx180 hq
    rw [if_pos rfl] at this
    exact this
  have kxe : FX7_kindOf (jI x) o = some (jI kx) := by rw [m_kindOf hb h.1 h.2.1 hx180, hx]; rfl
  have unf : FX7_meetNow (jI x) o = if jI (sortS kx ky : Nat) = (1 : Int32) then
    b1 (FX7_meetAlike (jI x) (jI y) o) fun o0_5 =>
    some (jI (sortS kx ky : Nat), o0_5)
  else
    if jI (sortS kx ky : Nat) = (2 : Int32) then
      b1 (FX7_meetUnlike (jI x) (jI y) o) fun o0_7 =>
      some (jI (sortS kx ky : Nat), o0_7)
    else
      if jI kx = 0 then
        b1 (FX7_meetEnd (jI x) (jI y) o) fun o0_11 =>
        some (jI (sortS kx ky : Nat), o0_11)
      else
        b1 (FX7_meetEnd (jI y) (jI x) o) fun o0_13 =>
        some (jI (sortS kx ky : Nat), o0_13) := by
    unfold FX7_meetNow
    rw [m_sortOf hb h.1 h.2.1 h.2.2.1 hx hy hx180 hy180 hq, b1_some, meets, b1_some, kxe, b1_some]
  rw [unf]
  by_cases c1 : kx = ky
  · subst c1
    have hs1 : sortS kx kx = 1 := by unfold sortS; rw [if_pos rfl]
    rw [hs1, if_pos (by decide)]
    by_cases c0 : kx = 0
    · subst c0
      obtain ⟨o', e1, m1, f1⟩ := MS_ends hb h hF hx hy hxy hq
      obtain ⟨z1, z2, z3⟩ := Perf_det hP (Or.inl ⟨rfl, rfl, rfl, rfl, rfl⟩)
      subst z1; subst z2; subst z3
      rw [e1, b1_some]
      exact ⟨o', rfl, m1, f1⟩
    · obtain ⟨o', e1, m1, f1⟩ := MS_alike hb h hF hx hy hxy hq c0 rfl rfl
      obtain ⟨z1, z2, z3⟩ := Perf_det hP (Or.inr (Or.inl ⟨rfl, c0, _, _, rfl, rfl, rfl, rfl, rfl⟩))
      subst z1; subst z2; subst z3
      rw [e1, b1_some]
      exact ⟨o', rfl, m1, f1⟩
  · by_cases c2 : kx = 0 ∨ ky = 0
    · have hs3 : sortS kx ky = 3 := by unfold sortS; rw [if_neg c1, if_pos c2]
      rw [hs3, if_neg (by decide), if_neg (by decide)]
      obtain ⟨a, haN, ha⟩ := lf_ex (K := K00 K x y) (n := 180) (by show cnt (ku (ku K x none) y none) 180 < 180; omega)
      have hca := cnt_add (K := K00 K x y) (x := a) (k := 0) ha.1 haN
      obtain ⟨b', hbN, hb'⟩ := lf_ex (K := ku (K00 K x y) a (some 0)) (n := 180) (by
        rw [hca]
        have : cnt (K00 K x y) 180 = cnt (ku (ku K x none) y none) 180 := rfl
        omega)
      obtain ⟨z1, z2, z3⟩ := Perf_det hP (Or.inr (Or.inr (Or.inl ⟨c1, c2, _, a, b', rfl, ha, hb', rfl, rfl, rfl⟩)))
      subst z1; subst z2; subst z3
      by_cases c3 : kx = 0
      · subst c3
        rw [if_pos rfl, if_pos (by decide)]
        obtain ⟨o', e1, m1, f1⟩ := MS_eat hb h hF hx hy hxy hq (by omega) ha hb' haN hbN
        rw [e1, b1_some]
        exact ⟨o', rfl, m1, f1⟩
      · have ky0 : ky = 0 := by omega
        subst ky0
        rw [if_neg c3, if_neg (by rw [j_0, jI_eq (by omega) (by omega) (by omega) (by omega)]; omega)]
        rw [K00_comm K hxy] at ha hb'
        obtain ⟨o', e1, m1, f1⟩ := MS_eat hb h hF hy hx (fun z => hxy z.symm) hqy c3 ha hb' haN hbN
        rw [e1, b1_some]
        rw [K00_comm K hxy, wA0_comm]
        exact ⟨o', rfl, m1, f1⟩
    · have hs2 : sortS kx ky = 2 := by unfold sortS; rw [if_neg c1, if_neg c2]
      have hr2 := hroom hs2
      rw [hs2, if_neg (by decide), if_pos (by decide)]
      have q0 : cnt (K00 K x y) 180 + 2 = cnt K 180 := by
        show cnt (ku (ku K x none) y none) 180 + 2 = cnt K 180
        omega
      obtain ⟨a, haN, ha⟩ := lf_ex (K := K00 K x y) (n := 180) (by omega)
      have hca := cnt_add (K := K00 K x y) (x := a) (k := kx) ha.1 haN
      obtain ⟨b', hbN, hb'⟩ := lf_ex (K := ku (K00 K x y) a (some kx)) (n := 180) (by omega)
      have hcb := cnt_add (K := ku (K00 K x y) a (some kx)) (x := b') (k := kx) hb'.1 hbN
      obtain ⟨c, hcN2, hc'⟩ := lf_ex (K := ku (ku (K00 K x y) a (some kx)) b' (some kx)) (n := 180) (by omega)
      have hcc := cnt_add (K := ku (ku (K00 K x y) a (some kx)) b' (some kx)) (x := c) (k := ky) hc'.1 hcN2
      obtain ⟨d, hdN, hd⟩ := lf_ex (K := ku (ku (ku (K00 K x y) a (some kx)) b' (some kx)) c (some ky)) (n := 180) (by omega)
      obtain ⟨z1, z2, z3⟩ := Perf_det hP (Or.inr (Or.inr (Or.inr ⟨c1, by omega, by omega, a, b', c, d, ha, hb', hc', hd, rfl, rfl, rfl⟩)))
      subst z1; subst z2; subst z3
      obtain ⟨o', e1, m1, f1⟩ := MS_unlike hb h hF hx hy hxy hq (by omega) (by omega) ha hb' hc' hd haN hbN hcN2 hdN
      rw [e1, b1_some]
      exact ⟨o', rfl, m1, f1⟩
end MB
