set_option maxRecDepth 100000 in
set_option maxHeartbeats 4000000 in
/-- what the tables and the Statement give at the law's entry: the classes, the array classes, the texts -/
theorem law_known {s : State} {b : Nat} (hts : ∀ w ∈ lw_tbl, w.before #[Value.ref b] s = true) (hgv : (Jvm.Cond.and given_1 narrow_1).before #[Value.ref b] s = true) (l : Launch) (A : Nat → Prop) (hA : ∀ a : Nat, a < s.heap.size → ¬ A a) : ∃ g : Gl, g.1 = l ∧ va_K g.2.1 vwCl (tys3 g.2.2.1) s ∧ StrK g A s := by
  have hs := flat_of_before _ hgv
  have hw : ∀ w ∈ wsL_law, w.before #[Value.ref b] s = true := fun w h => hts w (wsL_law_in w h)
  obtain ⟨c0, iS0, hKn0⟩ := u_known (C := RX0) (T := TX0) (N := 1) (n := 1) hts inX0 (hw _ mw_2_13)
  obtain ⟨c1, iS1, hKn1⟩ := u_known (C := RX1) (T := TX1) (N := 6) (n := 6) hts inX1 (hw _ mw_1_17)
  obtain ⟨c2, iS2, hKn2⟩ := u_known (C := RX2) (T := TX2) (N := 10) (n := 10) hts inX2 (hw _ mw_1_21)
  obtain ⟨c3, iS3, hKn3⟩ := u_known (C := RX3) (T := TX3) (N := 2) (n := 2) hts inX3 (hw _ mw_1_13)
  obtain ⟨c4, iS4, hKn4⟩ := u_known (C := RX4) (T := TX4) (N := 4) (n := 4) hts inX4 (hw _ mw_2_3)
  obtain ⟨c5, iS5, hKn5⟩ := u_known (C := RX5) (T := TX5) (N := 4) (n := 4) hts inX5 (hw _ mw_2_8)
  obtain ⟨c6, iS6, hKn6⟩ := u_known (C := RX6) (T := TX6) (N := 13) (n := 13) hts inX6 (hw _ mw_1_1)
  obtain ⟨c7, iS7, hKn7⟩ := u_known (C := RX7) (T := TX7) (N := 50) (n := 50) hts inX7 (hw _ mw_1_4)
  obtain ⟨dC, dI, hKc⟩ : ∃ (dC : Nat → ClassId) (dI : Nat → Nat → Nat), ∀ (k : Nat) (q : vw_C), vwCl[k]? = some q → u_Kn s q.1 q.2.1 q.2.2 (dC k) (dI k) := by
    refine ⟨fun k => if k = 0 then c0 else if k = 1 then c1 else if k = 2 then c2 else if k = 3 then c3 else if k = 4 then c4 else if k = 5 then c5 else if k = 6 then c6 else c7, fun k => if k = 0 then iS0 else if k = 1 then iS1 else if k = 2 then iS2 else if k = 3 then iS3 else if k = 4 then iS4 else if k = 5 then iS5 else if k = 6 then iS6 else iS7, ?_⟩
    intro k q hq
    match k, hq with
    | 0, hq => cases hq; exact hKn0
    | 1, hq => cases hq; exact hKn1
    | 2, hq => cases hq; exact hKn2
    | 3, hq => cases hq; exact hKn3
    | 4, hq => cases hq; exact hKn4
    | 5, hq => cases hq; exact hKn5
    | 6, hq => cases hq; exact hKn6
    | 7, hq => cases hq; exact hKn7
    | k + 8, hq => simp [vwCl] at hq
  have arr : ∀ ty : FieldType, (∀ C, ty ≠ .object C) → (Cond.arrayClass ty).before #[Value.ref b] s = true → ∃ cA : ClassId, ArrOfT s cA ty ∧ va_RA s cA ty := by
    intro ty hno h
    obtain ⟨cB, kB, comp, hcB, hkB, hkind⟩ := Cond.arrayClass_spec h
    refine ⟨cB, fun n z => ⟨fun k h9 => (by cases h9), kB, hkB, comp, hkind⟩, ?_⟩
    cases ty with
    | object C => exact absurd rfl (hno C)
    | _ => exact hcB
  obtain ⟨cI, hI1, hI2⟩ := arr .int (fun C h => by cases h) (hw _ mw_2_19)
  obtain ⟨cB, hB1, hB2⟩ := arr .byte (fun C h => by cases h) (hw _ mw_4_18)
  obtain ⟨cZ, hZ1, hZ2⟩ := arr .boolean (fun C h => by cases h) (hw _ mw_4_23)
  let tm : Nat → Term := fun i => if i = 0 then .string RX1 70 else .string RX1 91
  have two : ∀ i : Nat, i < 2 → i = 0 ∨ i = 1 := fun i hi => by omega
  obtain ⟨adK, adV, hS, had⟩ := vk_Sof (args := #[Value.ref b]) (s := s) (N := 2) (tm := tm) (len := [4, 4]) (byt := strB) (A := A)
    (fun i hi => by rcases two i hi with rfl | rfl <;> decide)
    (fun i hi => by rcases two i hi with rfl | rfl <;> exact hs _ (by decide +kernel))
    (fun i hi => by rcases two i hi with rfl | rfl <;> exact hs _ (by decide +kernel))
    (fun i hi => by rcases two i hi with rfl | rfl <;> exact hs _ (by decide +kernel))
    (fun i hi => by rcases two i hi with rfl | rfl <;> exact hs _ (by decide +kernel))
    (fun i hi j hj => by
      rcases two i hi with rfl | rfl
      · have hj : j < 4 := hj
        rcases (show j = 0 ∨ j = 1 ∨ j = 2 ∨ j = 3 by omega) with rfl | rfl | rfl | rfl <;> exact hs _ (by decide +kernel)
      · have hj : j < 4 := hj
        rcases (show j = 0 ∨ j = 1 ∨ j = 2 ∨ j = 3 by omega) with rfl | rfl | rfl | rfl <;> exact hs _ (by decide +kernel))
    (fun i j hi hj hne => by
      rcases two i hi with rfl | rfl <;> rcases two j hj with rfl | rfl
      · exact absurd rfl hne
      · exact Or.inl (hs _ (by decide +kernel))
      · exact Or.inr (hs _ (by decide +kernel))
      · exact absurd rfl hne) hA
  have ev0 : (Term.string RX1 70).eval #[Value.ref b] s none [] s = some (.ref (adK 0)) := had 0 (by decide)
  have ev1 : (Term.string RX1 91).eval #[Value.ref b] s none [] s = some (.ref (adK 1)) := had 1 (by decide)
  have ev2 : (Term.string RX5 72).eval #[Value.ref b] s none [] s = some (.ref (adK 0)) := va_eqR (hs (Cond.eq (.string RX1 70) (.string RX5 72)) (by decide +kernel)) ev0
  have ev3 : (Term.string RX5 93).eval #[Value.ref b] s none [] s = some (.ref (adK 1)) := va_eqR (hs (Cond.eq (.string RX1 91) (.string RX5 93)) (by decide +kernel)) ev1
  have noarg : ∀ (o : String) (k : Nat), (Term.string o k).eval #[Value.ref b] s none [] s = (Term.string o k).eval #[] s none [] s := fun o k => rfl
  have nb : ∀ (o : String) (k : Nat) (tx : String), (Cond.stringRef o k tx).before #[Value.ref b] s = (Cond.stringRef o k tx).before #[] s := fun o k tx => rfl
  have nl : ∀ (o : String) (k : Nat) (y : MethodName) (h : String), (Cond.methodLinkNest o k y h).before #[Value.ref b] s = true → va_Nw (.methodLinkNest o k y h) s := fun o k y h h9 => va_tabs rfl (rfl : s.vm = s.vm) h9
  refine ⟨(l, (dC, dI), (cI, cB, cZ), adK, adV), rfl, ⟨hKc, fun k q hk => ?_⟩, hS, ?_, ?_, ?_, ?_, va_Zof (hts _ (List.mem_append_right _ (List.mem_of_getElem? (i := 271) (by decide +kernel)))) (hw _ mw_9_16) (va_eqt (hs _ (by decide +kernel))) hA, va_Zqof (hts _ (List.mem_append_right _ (List.mem_of_getElem? (i := 314) (by decide +kernel)))) (hw _ mw_12_4) (hs _ (by decide +kernel)) hA, nl _ _ _ _ (hts _ (List.mem_append_right _ (List.mem_of_getElem? (i := 27) (by decide +kernel)))), nl _ _ _ _ (hts _ (List.mem_append_right _ (List.mem_of_getElem? (i := 41) (by decide +kernel)))), nl _ _ _ _ (hts _ (List.mem_append_right _ (List.mem_of_getElem? (i := 106) (by decide +kernel)))), nl _ _ _ _ (hts _ (List.mem_append_right _ (List.mem_of_getElem? (i := 125) (by decide +kernel)))), nl _ _ _ _ (hts _ (List.mem_append_right _ (List.mem_of_getElem? (i := 144) (by decide +kernel))))⟩
  · match k, hk with
    | 0, hk => cases hk; exact ⟨hI1, hI2⟩
    | 1, hk => cases hk; exact ⟨hB1, hB2⟩
    | 2, hk => cases hk; exact ⟨hZ1, hZ2⟩
    | k + 3, hk => simp [tys3] at hk
  · exact vk_R.of (A := #[]) (by rw [← nb]; exact hts _ (List.mem_append_right _ (List.mem_of_getElem? (i := 257) (by decide +kernel)))) (by rw [← noarg]; exact ev0)
  · exact vk_R.of (A := #[]) (by rw [← nb]; exact hts _ (List.mem_append_right _ (List.mem_of_getElem? (i := 358) (by decide +kernel)))) (by rw [← noarg]; exact ev1)
  · exact vk_R.of (A := #[]) (by rw [← nb]; exact hts _ (List.mem_append_right _ (List.mem_of_getElem? (i := 628) (by decide +kernel)))) (by rw [← noarg]; exact ev2)
  · exact vk_R.of (A := #[]) (by rw [← nb]; exact hts _ (List.mem_append_right _ (List.mem_of_getElem? (i := 646) (by decide +kernel)))) (by rw [← noarg]; exact ev3)
set_option maxRecDepth 100000 in
set_option maxHeartbeats 4000000 in
/-- THE LAW, from its entry, over the pure claim -/
theorem whole_open (hP : PureOk) {p : Program} {e : Env} {s : State} {m : MethodId} {below : List Frame} {meth : Method} {c : Code} (l : Launch) {b L : Nat} {xs : Nat → Int32} (hL : L ≤ 256) (C0 : lw_At p s m meth c b L xs) : W p l e room_1 s m #[Value.ref b] below meth c s.heap [] 0 0 (lw_Z below #[Value.ref b] s) (entryFrame m ([Value.ref b] : List Value).toArray 4) := by
  obtain ⟨hx, hb, hr, hml, hown, hts, hX, hbl, hlocks, hgv⟩ := C0
  obtain ⟨I, ⟨o0, hF0, hI0⟩, hmono, hst⟩ := hP
  obtain ⟨g, rfl, hK, hSK⟩ := law_known hts hgv l (fun q : Nat => s.heap.size ≤ q) (fun a h1 h2 => by omega)
  have hw : ∀ w ∈ (Cond.classLink RL 7 RX6 :: wsL_law), w.before #[Value.ref b] s = true := fun w h => by
    rcases List.mem_cons.mp h with rfl | h9
    · exact hts _ (wsL_law_in _ mw_1_0)
    · exact hts _ (wsL_law_in _ h9)
  rw [lg_entry_eq]
  refine law_walk (X := (p, e, room_1, s, m, #[Value.ref b], below, meth, c, fun q : Nat => s.heap.size ≤ q, 4, lw_Z below #[Value.ref b] s)) ⟨hx, hb, hml, hown, hw, hK, rfl, rfl, rfl, hSK⟩ ⟨rfl, rfl, fun q h => h⟩ (b := b) (L := L) (xs := xs) ⟨rfl, rfl, hX, hbl, Nat.not_le.mpr hbl, fun q h => h, rfl, hr, hlocks⟩ hst hmono hF0 hI0 hL s.heap [] _ (fun j d h => by simp at h) ⟨fun i j d d' a b h => by simp at h, fun i d a h => by simp at h⟩ Fr.rf (fun q hq => by cases hq) (lv_entry ([Value.ref b]) (n := 4) (Nat.le_of_ble_eq_true rfl)) (Nat.zero_le _) (Nat.zero_le _)

