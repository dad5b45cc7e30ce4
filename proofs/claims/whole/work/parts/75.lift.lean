/-! a step on each of two nets alike leaves nets alike -/
theorem WI_congr {g g' : Port → Port} {S T : Sy} (h : WI g S T) (hM : Mt S.1) (he : ∀ p, S.1 p ≠ none → g p = g' p) : WI g' S T := by
  obtain ⟨h1, h2, h3⟩ := h
  refine ⟨fun p q hp => ?_, fun p p' hp hp' e => h2 _ _ hp hp' (by rw [he p hp, he p' hp']; exact e), h3⟩
  have o1 : S.1 p ≠ none := by rw [hp]; exact fun z => by cases z
  have o2 : S.1 q ≠ none := by rw [(hM _ _ hp).1]; exact fun z => by cases z
  rw [← he p o1, ← he q o2]
  exact h1 _ _ hp
section LI
variable {f : Nat → Nat} {N M : Nt} {x y kx ky : Nat} {fr gr : Nat → Nat}
theorem WI_rl (hG : Good N) (hG' : Good M) (h : Half f N M) (hr : Redex N x y kx ky) (hf : FrOk N x y fr) (hg : FrOk M (f x) (f y) gr) : WI (Fp (nf f fr gr)) (stp kx ky x y fr N).2 (stp kx ky (f x) (f y) gr M).2 := by
  have hr' := Half_Redex h hr
  have ok := rl_ok hG hr hf
  have ok' := rl_ok hG' hr' hg
  have wfN := stp_WF hG hr hf
  have M0 := hG.1.1
  have ox : N.2.1 (x, 0) ≠ none := by rw [hr.2.2]; exact fun z => by cases z
  have oy : N.2.1 (y, 0) ≠ none := by rw [(M0 _ _ hr.2.2).1]; exact fun z => by cases z
  have w0 := WI_cut (WI_start hG h) (p := (x, 0)) (q := (y, 0)) (Fp_lt f (by omega)) (Fp_lt f (by omega)) ox oy
  have k0 : ∀ i, i < 4 → K00 N.1 x y (fr i) = none := hf.1
  have d01 := hf.2 0 1 (by omega) (by omega) (by omega)
  have d02 := hf.2 0 2 (by omega) (by omega) (by omega)
  have d03 := hf.2 0 3 (by omega) (by omega) (by omega)
  have d12 := hf.2 1 2 (by omega) (by omega) (by omega)
  have d13 := hf.2 1 3 (by omega) (by omega) (by omega)
  have d23 := hf.2 2 3 (by omega) (by omega) (by omega)
  have pl : ∀ (n s : Nat), (s < 3 → ∀ i, i < 4 → n ≠ fr i) → Fp f (n, s) = Fp (nf f fr gr) (n, s) := by
    intro n s hn
    by_cases c : s < 3
    · rw [Fp_lt f c, Fp_lt _ c, nf_o (hn c)]
    · unfold Fp
      rw [if_neg c, if_neg c]
  -- a wired place is no place of a free number
  have dead : ∀ n s i, s < 3 → i < 4 → n = fr i → (stp kx ky x y fr N).2.1 (n, s) ≠ none → (stp kx ky x y fr N).1 n ≠ none := fun n s i hs _ _ ho => alive_of wfN hs ho
  unfold stp at *
  unfold rl at *
  obtain ⟨o0, ok⟩ := ok
  obtain ⟨o0', ok'⟩ := ok'
  have M1 := (ap_Mt M0 o0).1
  unfold rlT at *
  by_cases c1 : kx = ky
  · rw [if_pos c1] at ok ok'
    have kd : ∀ n i, i < 4 → n = fr i → kus (kl kx ky x y fr) N.1 n = none := by
      intro n i hi e
      unfold kl
      rw [if_pos c1, e]
      exact k0 i hi
    by_cases c0 : kx = 0
    · simp only [if_pos c1, if_pos c0] at ok ok' dead wfN ⊢
      refine WI_congr w0 M1 (fun p hp => ?_)
      obtain ⟨n, s⟩ := p
      exact pl n s (fun hs i hi e => dead n s i hs hi e hp (kd n i hi e))
    · simp only [if_pos c1, if_neg c0] at ok ok' dead wfN ⊢
      obtain ⟨o1, o2, -⟩ := ok
      obtain ⟨o1', o2', -⟩ := ok'
      have M2 := (ap_Mt M1 o1).1
      have M3 := (ap_Mt M2 o2).1
      have s1 : (if kx = 1 then 2 else 1) < 3 := by split <;> omega
      have s2 : (if kx = 1 then 1 else 2) < 3 := by split <;> omega
      have w1 := WI_fu w0 M1 (p := (x, 1)) (q := (y, if kx = 1 then 2 else 1)) (Fp_lt f (by omega)) (Fp_lt f s1) o1.1 o1.2.1
      have w2 := WI_fu w1 M2 (p := (x, 2)) (q := (y, if kx = 1 then 1 else 2)) (Fp_lt f (by omega)) (Fp_lt f s2) o2.1 o2.2.1
      refine WI_congr w2 M3 (fun p hp => ?_)
      obtain ⟨n, s⟩ := p
      exact pl n s (fun hs i hi e => dead n s i hs hi e hp (kd n i hi e))
  · simp only [if_neg c1] at ok ok' dead wfN ⊢
    by_cases c2 : kx = 0 ∨ ky = 0
    · simp only [if_pos c2] at ok ok' dead wfN ⊢
      obtain ⟨o1, o2, -⟩ := ok
      obtain ⟨o1', o2', -⟩ := ok'
      have M2 := (ap_Mt M1 o1).1
      have M3 := (ap_Mt M2 o2).1
      have zz : f (if kx = 0 then y else x) = if kx = 0 then f y else f x := by split <;> rfl
      have w1 := WI_sw w0 M1 (p := ((if kx = 0 then y else x), 1)) (p' := ((if kx = 0 then f y else f x), 1)) (q := (fr 0, 0)) (q' := (gr 0, 0)) (by rw [Fp_lt f (by omega), zz]) o1.1 o1.2 o1'.2
      have w2 := WI_sw w1 M2 (p := ((if kx = 0 then y else x), 2)) (p' := ((if kx = 0 then f y else f x), 2)) (q := (fr 1, 0)) (q' := (gr 1, 0)) (by rw [up_o (pne (Or.inr (by omega))), Fp_lt f (by omega), zz]) o2.1 o2.2 o2'.2
      refine WI_congr w2 M3 (fun p hp => ?_)
      obtain ⟨n, s⟩ := p
      by_cases hs : s < 3
      · by_cases e0 : n = fr 0
        · subst e0
          have hs0 : s = 0 := by
            have hw := (wfN.2.1 (fr 0) s hs).mp hp
            rcases hw with ⟨z, -⟩ | ⟨-, k, z⟩
            · exact z
            · unfold kl at z
              rw [if_neg c1, if_pos c2] at z
              have z' : ku (ku (K00 N.1 x y) (fr 0) (some 0)) (fr 1) (some 0) (fr 0) = some (k + 1) := z
              unfold ku at z'
              rw [if_neg d01, if_pos rfl] at z'
              cases z'
          subst hs0
          rw [up_o (pne (Or.inl d01)), Fp_lt _ hs]
          unfold up nf
          rw [if_pos rfl, if_pos rfl]
        · by_cases e1 : n = fr 1
          · subst e1
            have hs0 : s = 0 := by
              have hw := (wfN.2.1 (fr 1) s hs).mp hp
              rcases hw with ⟨z, -⟩ | ⟨-, k, z⟩
              · exact z
              · unfold kl at z
                rw [if_neg c1, if_pos c2] at z
                have z' : ku (ku (K00 N.1 x y) (fr 0) (some 0)) (fr 1) (some 0) (fr 1) = some (k + 1) := z
                unfold ku at z'
                rw [if_pos rfl] at z'
                cases z'
            subst hs0
            rw [Fp_lt _ hs]
            unfold up nf
            rw [if_pos rfl, if_neg e0, if_pos rfl]
          · rw [up_o (pne (Or.inl e1)), up_o (pne (Or.inl e0))]
            refine pl n s (fun _ i hi e => ?_)
            refine dead n s i hs hi e hp ?_
            unfold kl
            rw [if_neg c1, if_pos c2]
            show ku (ku (K00 N.1 x y) (fr 0) (some 0)) (fr 1) (some 0) n = none
            unfold ku
            rw [if_neg e1, if_neg e0, e]
            exact k0 i hi
      · rw [up_o (pne (Or.inr (by omega))), up_o (pne (Or.inr (by omega)))]
        exact pl n s (fun z => absurd z hs)
    · simp only [if_neg c2] at ok ok' dead wfN ⊢
      obtain ⟨o1, o2, o3, o4, o5, o6, o7, o8, -⟩ := ok
      obtain ⟨o1', o2', o3', o4', o5', o6', o7', o8', -⟩ := ok'
      have M2 := (ap_Mt M1 o1).1
      have M3 := (ap_Mt M2 o2).1
      have M4 := (ap_Mt M3 o3).1
      have M5 := (ap_Mt M4 o4).1
      have M6 := (ap_Mt M5 o5).1
      have M7 := (ap_Mt M6 o6).1
      have M8 := (ap_Mt M7 o7).1
      have M9 := (ap_Mt M8 o8).1
      have w1 := WI_sw w0 M1 (p := (y, 1)) (p' := (f y, 1)) (q := (fr 0, 0)) (q' := (gr 0, 0)) (Fp_lt f (by omega)) o1.1 o1.2 o1'.2
      have w2 := WI_sw w1 M2 (p := (y, 2)) (p' := (f y, 2)) (q := (fr 1, 0)) (q' := (gr 1, 0)) (by rw [up_o (pne (Or.inr (by omega))), Fp_lt f (by omega)]) o2.1 o2.2 o2'.2
      have w3 := WI_sw w2 M3 (p := (x, 1)) (p' := (f x, 1)) (q := (fr 2, 0)) (q' := (gr 2, 0)) (by rw [up_o (pne (Or.inr (by omega))), up_o (pne (Or.inr (by omega))), Fp_lt f (by omega)]) o3.1 o3.2 o3'.2
      have w4 := WI_sw w3 M4 (p := (x, 2)) (p' := (f x, 2)) (q := (fr 3, 0)) (q' := (gr 3, 0)) (by rw [up_o (pne (Or.inr (by omega))), up_o (pne (Or.inr (by omega))), up_o (pne (Or.inr (by omega))), Fp_lt f (by omega)]) o4.1 o4.2 o4'.2
      have w5 := WI_lk w4 M5 (p := (fr 0, 1)) (p' := (gr 0, 1)) (q := (fr 2, 1)) (q' := (gr 2, 1)) o5.1 o5.2.1 o5'.1 o5'.2.1 o5.2.2 o5'.2.2
      have w6 := WI_lk w5 M6 (p := (fr 0, 2)) (p' := (gr 0, 2)) (q := (fr 3, 1)) (q' := (gr 3, 1)) o6.1 o6.2.1 o6'.1 o6'.2.1 o6.2.2 o6'.2.2
      have w7 := WI_lk w6 M7 (p := (fr 1, 1)) (p' := (gr 1, 1)) (q := (fr 2, 2)) (q' := (gr 2, 2)) o7.1 o7.2.1 o7'.1 o7'.2.1 o7.2.2 o7'.2.2
      have w8 := WI_lk w7 M8 (p := (fr 1, 2)) (p' := (gr 1, 2)) (q := (fr 3, 2)) (q' := (gr 3, 2)) o8.1 o8.2.1 o8'.1 o8'.2.1 o8.2.2 o8'.2.2
      refine WI_congr w8 M9 (fun p hp => ?_)
      clear hp w0 w1 w2 w3 w4 w5 w6 w7 w8 M1 M2 M3 M4 M5 M6 M7 M8 M9 o1 o2 o3 o4 o5 o6 o7 o8 o1' o2' o3' o4' o5' o6' o7' o8' dead wfN
      obtain ⟨n, s⟩ := p
      have e01 := d01.symm
      have e02 := d02.symm
      have e03 := d03.symm
      have e12 := d12.symm
      have e13 := d13.symm
      have e23 := d23.symm
      by_cases hs : s < 3
      · by_cases e0 : n = fr 0
        · subst e0
          rcases (show s = 0 ∨ s = 1 ∨ s = 2 by omega) with rfl | rfl | rfl <;> simp [up, Fp, nf, d01, d02, d03]
        · by_cases e1 : n = fr 1
          · subst e1
            rcases (show s = 0 ∨ s = 1 ∨ s = 2 by omega) with rfl | rfl | rfl <;> simp [up, Fp, nf, d12, d13, e01]
          · by_cases e2 : n = fr 2
            · subst e2
              rcases (show s = 0 ∨ s = 1 ∨ s = 2 by omega) with rfl | rfl | rfl <;> simp [up, Fp, nf, e02, e12, d23]
            · by_cases e3 : n = fr 3
              · subst e3
                rcases (show s = 0 ∨ s = 1 ∨ s = 2 by omega) with rfl | rfl | rfl <;> simp [up, Fp, nf, e03, e13, e23]
              · simp [up, Fp, nf, e0, e1, e2, e3]
      · have hq : ∀ m t : Nat, t < 3 → ((n, s) : Port) ≠ (m, t) := fun m t ht => pne (Or.inr (by omega))
        rw [up_o (hq _ _ (by omega)), up_o (hq _ _ (by omega)), up_o (hq _ _ (by omega)), up_o (hq _ _ (by omega)), up_o (hq _ _ (by omega)), up_o (hq _ _ (by omega)), up_o (hq _ _ (by omega)), up_o (hq _ _ (by omega)), up_o (hq _ _ (by omega)), up_o (hq _ _ (by omega)), up_o (hq _ _ (by omega)), up_o (hq _ _ (by omega))]
        exact pl n s (fun z => absurd z hs)
theorem kus_alive (hxy : x ≠ y) (hf : FrOk N x y fr) (n : Nat) : (∀ i, i < 4 → n ≠ fr i) → kus (kl kx ky x y fr) N.1 n = K00 N.1 x y n := by
  intro hn
  have h0 := hn 0 (by omega)
  have h1 := hn 1 (by omega)
  have h2 := hn 2 (by omega)
  have h3 := hn 3 (by omega)
  unfold kl
  by_cases c1 : kx = ky
  · rw [if_pos c1]; rfl
  · rw [if_neg c1]
    by_cases c2 : kx = 0 ∨ ky = 0
    · rw [if_pos c2]
      show ku (ku (K00 N.1 x y) (fr 0) (some 0)) (fr 1) (some 0) n = _
      unfold ku
      rw [if_neg h1, if_neg h0]
    · rw [if_neg c2]
      show ku (ku (ku (ku (K00 N.1 x y) (fr 0) (some kx)) (fr 1) (some kx)) (fr 2) (some ky)) (fr 3) (some ky) n = _
      unfold ku
      rw [if_neg h3, if_neg h2, if_neg h1, if_neg h0]
/-- what stands at a new number -/
def nv (kx ky i : Nat) : Option Nat := if kx = ky then none else if kx = 0 ∨ ky = 0 then (if i < 2 then some 0 else none) else (if i < 2 then some kx else some ky)
theorem kus_new (hf : FrOk N x y fr) {i : Nat} (hi : i < 4) : kus (kl kx ky x y fr) N.1 (fr i) = nv kx ky i := by
  have d01 := hf.2 0 1 (by omega) (by omega) (by omega)
  have d02 := hf.2 0 2 (by omega) (by omega) (by omega)
  have d03 := hf.2 0 3 (by omega) (by omega) (by omega)
  have d12 := hf.2 1 2 (by omega) (by omega) (by omega)
  have d13 := hf.2 1 3 (by omega) (by omega) (by omega)
  have d23 := hf.2 2 3 (by omega) (by omega) (by omega)
  have k0 := hf.1
  unfold kl nv
  by_cases c1 : kx = ky
  · rw [if_pos c1, if_pos c1]
    exact k0 i hi
  · rw [if_neg c1, if_neg c1]
    by_cases c2 : kx = 0 ∨ ky = 0
    · rw [if_pos c2, if_pos c2]
      show ku (ku (K00 N.1 x y) (fr 0) (some 0)) (fr 1) (some 0) (fr i) = _
      have k2 := k0 2 (by omega)
      have k3 := k0 3 (by omega)
      unfold ku
      rcases (show i = 0 ∨ i = 1 ∨ i = 2 ∨ i = 3 by omega) with rfl | rfl | rfl | rfl
      · simp [d01]
      · simp
      · simp [d02.symm, d12.symm, k2]
      · simp [d03.symm, d13.symm, k3]
    · rw [if_neg c2, if_neg c2]
      show ku (ku (ku (ku (K00 N.1 x y) (fr 0) (some kx)) (fr 1) (some kx)) (fr 2) (some ky)) (fr 3) (some ky) (fr i) = _
      unfold ku
      rcases (show i = 0 ∨ i = 1 ∨ i = 2 ∨ i = 3 by omega) with rfl | rfl | rfl | rfl
      · simp [d01, d02, d03]
      · simp [d12, d13]
      · simp [d23]
      · simp
theorem isfr (fr : Nat → Nat) (n : Nat) : (∃ i, i < 4 ∧ n = fr i) ∨ ∀ i, i < 4 → n ≠ fr i := by
  by_cases c : ∃ i, i < 4 ∧ n = fr i
  · exact Or.inl c
  · exact Or.inr (fun i hi e => c ⟨i, hi, e⟩)
theorem K00_some {K : Kd} {n : Nat} (h : K00 K x y n ≠ none) : n ≠ x ∧ n ≠ y ∧ K n ≠ none ∧ K00 K x y n = K n := by
  unfold K00 ku at *
  by_cases c1 : n = y
  · rw [if_pos c1] at h; exact absurd rfl h
  · rw [if_neg c1] at h ⊢
    by_cases c2 : n = x
    · rw [if_pos c2] at h; exact absurd rfl h
    · rw [if_neg c2] at h ⊢
      exact ⟨c2, c1, h, rfl⟩
theorem K00_keep {K : Kd} {n : Nat} (h1 : n ≠ x) (h2 : n ≠ y) : K00 K x y n = K n := by
  unfold K00 ku
  rw [if_neg h2, if_neg h1]
theorem Half_stp (hG : Good N) (hG' : Good M) (h : Half f N M) (hr : Redex N x y kx ky) (hf : FrOk N x y fr) (hg : FrOk M (f x) (f y) gr) : Half (nf f fr gr) (stp kx ky x y fr N) (stp kx ky (f x) (f y) gr M) := by
  have hr' := Half_Redex h hr
  have hxy := Redex_ne hG hr
  have hxy' := Redex_ne hG' hr'
  obtain ⟨w1, w2, w3⟩ := WI_rl hG hG' h hr hf hg
  have ax : N.1 x ≠ none := by rw [hr.1]; exact fun z => by cases z
  have ay : N.1 y ≠ none := by rw [hr.2.1]; exact fun z => by cases z
  have old : ∀ n, (∀ i, i < 4 → n ≠ fr i) → kus (kl kx ky x y fr) N.1 n ≠ none → n ≠ x ∧ n ≠ y ∧ N.1 n ≠ none ∧ kus (kl kx ky x y fr) N.1 n = N.1 n ∧ f n ≠ f x ∧ f n ≠ f y ∧ ∀ i, i < 4 → f n ≠ gr i := by
    intro n hn hk
    rw [kus_alive hxy hf n hn] at hk ⊢
    obtain ⟨a, b, c, d⟩ := K00_some hk
    have e1 : f n ≠ f x := fun z => a (h.2.1 _ _ c ax z)
    have e2 : f n ≠ f y := fun z => b (h.2.1 _ _ c ay z)
    refine ⟨a, b, c, d, e1, e2, fun i hi z => ?_⟩
    have := hg.1 i hi
    rw [← z, K00_keep e1 e2, h.1 n c] at this
    exact c this
  refine ⟨fun n hn => ?_, fun n n' hn hn' e => ?_, w1, w3⟩
  · have hn' : kus (kl kx ky x y fr) N.1 n ≠ none := hn
    show kus (kl kx ky (f x) (f y) gr) M.1 (nf f fr gr n) = kus (kl kx ky x y fr) N.1 n
    rcases isfr fr n with ⟨i, hi, e⟩ | hno
    · rw [e, nf_i hf.2 hi, kus_new hf hi, kus_new hg hi]
    · obtain ⟨a, b, c, d, e1, e2, e3⟩ := old n hno hn'
      rw [nf_o hno, d, kus_alive hxy' hg (f n) e3, K00_keep e1 e2]
      exact h.1 n c
  · have hn1 : kus (kl kx ky x y fr) N.1 n ≠ none := hn
    have hn2 : kus (kl kx ky x y fr) N.1 n' ≠ none := hn'
    rcases isfr fr n with ⟨i, hi, ei⟩ | hno <;> rcases isfr fr n' with ⟨j, hj, ej⟩ | hno'
    · rw [ei, ej, nf_i hf.2 hi, nf_i hf.2 hj] at e
      by_cases c : i = j
      · rw [ei, ej, c]
      · exact absurd e (hg.2 i j hi hj c)
    · rw [ei, nf_i hf.2 hi, nf_o hno'] at e
      exact absurd e.symm ((old n' hno' hn2).2.2.2.2.2.2 i hi)
    · rw [ej, nf_i hf.2 hj, nf_o hno] at e
      exact absurd e ((old n hno hn1).2.2.2.2.2.2 j hj)
    · rw [nf_o hno, nf_o hno'] at e
      exact h.2.1 n n' (old n hno hn1).2.2.1 (old n' hno' hn2).2.2.1 e
end LI
