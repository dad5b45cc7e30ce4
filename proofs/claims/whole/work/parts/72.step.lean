/-! a step leaves a net a net; a class's or reference's meeting is a step; other meetings stay -/
section ST
variable {N : Nt} {x y kx ky : Nat} {fr : Nat → Nat}
theorem stp_WF (h : Good N) (hr : Redex N x y kx ky) (hf : FrOk N x y fr) : WF (stp kx ky x y fr N).1 (stp kx ky x y fr N).2.1 := by
  have hxy := Redex_ne h hr
  obtain ⟨m, occ⟩ := aps_Mt (rl kx ky x y fr) N.2 h.1.1 (rl_ok h hr hf)
  have hT := WF_to h.1
  have h3 := h.1.2.2
  obtain ⟨hx, hy, hq⟩ := hr
  have d01 := hf.2 0 1 (by omega) (by omega) (by omega)
  have d02 := hf.2 0 2 (by omega) (by omega) (by omega)
  have d03 := hf.2 0 3 (by omega) (by omega) (by omega)
  have d12 := hf.2 1 2 (by omega) (by omega) (by omega)
  have d13 := hf.2 1 3 (by omega) (by omega) (by omega)
  have d23 := hf.2 2 3 (by omega) (by omega) (by omega)
  have k0 := K00_none (hf.1 0 (by omega))
  have k1 := K00_none (hf.1 1 (by omega))
  have k2 := K00_none (hf.1 2 (by omega))
  have k3 := K00_none (hf.1 3 (by omega))
  show WF (kus (kl kx ky x y fr) N.1) (aps (rl kx ky x y fr) N.2).1
  refine WF_of m (fun n => ?_) (fun n s hs hn => ?_)
  · rw [occ, occ, occ]
    have hn := hT n
    have hTx := hT x
    have hTy := hT y
    generalize N.2.1 = w at *
    clear m occ hT h3 h hq
    unfold rl rlT kl
    by_cases c1 : kx = ky
    · rw [if_pos c1, if_pos c1]
      by_cases c0 : kx = 0
      · rw [if_pos c0]
        simp only [ocs, oc, kus, ne_eq, Prod.mk.injEq]
        unfold ku
        by_cases e1 : n = x
        · subst e1; simp [hxy]; grind
        · by_cases e2 : n = y
          · subst e2; simp [e1]; grind
          · simp [e1, e2]; simpa using hn
      · rw [if_neg c0]
        by_cases c2 : kx = 1
        · rw [if_pos c2, if_pos c2]
          simp only [ocs, oc, kus, ne_eq, Prod.mk.injEq]
          unfold ku
          by_cases e1 : n = x
          · subst e1; simp [hxy]
          · by_cases e2 : n = y
            · subst e2; simp [e1]
            · simp [e1, e2]; simpa using hn
        · rw [if_neg c2, if_neg c2]
          simp only [ocs, oc, kus, ne_eq, Prod.mk.injEq]
          unfold ku
          by_cases e1 : n = x
          · subst e1; simp [hxy]
          · by_cases e2 : n = y
            · subst e2; simp [e1]
            · simp [e1, e2]; simpa using hn
    · rw [if_neg c1, if_neg c1]
      by_cases c2 : kx = 0 ∨ ky = 0
      · rw [if_pos c2, if_pos c2]
        by_cases c0 : kx = 0
        · rw [if_pos c0]
          simp only [ocs, oc, kus, ne_eq, Prod.mk.injEq]
          unfold ku
          by_cases e1 : n = fr 0
          · subst e1; simp [d01]; grind
          · by_cases e2 : n = fr 1
            · subst e2; simp; grind
            · by_cases e3 : n = x
              · subst e3; simp [e1, e2, hxy]; grind
              · by_cases e4 : n = y
                · subst e4; simp [e1, e2]
                · simp [e1, e2, e3, e4]; simpa using hn
        · have ky0 : ky = 0 := by omega
          rw [if_neg c0]
          simp only [ocs, oc, kus, ne_eq, Prod.mk.injEq]
          unfold ku
          by_cases e1 : n = fr 0
          · subst e1; simp [d01]; grind
          · by_cases e2 : n = fr 1
            · subst e2; simp; grind
            · by_cases e3 : n = x
              · subst e3; simp [e1, e2, hxy]
              · by_cases e4 : n = y
                · subst e4; simp [e1, e2, e3]; grind
                · simp [e1, e2, e3, e4]; simpa using hn
      · rw [if_neg c2, if_neg c2]
        have kp : ∃ k, kx = k + 1 := ⟨kx - 1, by omega⟩
        have kq : ∃ k, ky = k + 1 := ⟨ky - 1, by omega⟩
        simp only [ocs, oc, kus, ne_eq, Prod.mk.injEq]
        unfold ku
        by_cases e1 : n = fr 0
        · subst e1; simp [d01, d02, d03, kp]
        · by_cases e2 : n = fr 1
          · subst e2; simp [d12, d13, kp]
          · by_cases e3 : n = fr 2
            · subst e3; simp [d23, kq]
            · by_cases e4 : n = fr 3
              · subst e4; simp [kq]
              · by_cases e5 : n = x
                · subst e5; simp [e1, e2, e3, e4, hxy]
                · by_cases e6 : n = y
                  · subst e6; simp [e1, e2, e3, e4]
                  · simp [e1, e2, e3, e4, e5, e6]; simpa using hn
  · refine h3 n s hs ?_
    have hn' := (occ (n, s)).mp hn
    have s0 : s ≠ 0 := by omega
    have s1 : s ≠ 1 := by omega
    have s2 : s ≠ 2 := by omega
    clear occ hn m hT
    unfold rl rlT at hn'
    by_cases c1 : kx = ky
    · rw [if_pos c1] at hn'
      by_cases c0 : kx = 0
      · rw [if_pos c0] at hn'
        exact hn'.1
      · rw [if_neg c0] at hn'
        exact hn'.1.1.1
    · rw [if_neg c1] at hn'
      by_cases c2 : kx = 0 ∨ ky = 0
      · rw [if_pos c2] at hn'
        simp only [ocs, oc, ne_eq, Prod.mk.injEq] at hn'
        grind
      · rw [if_neg c2] at hn'
        simp only [ocs, oc, ne_eq, Prod.mk.injEq] at hn'
        grind
/-- the numbers that a step touches -/
def Tn (x y : Nat) (fr : Nat → Nat) (n : Nat) : Prop := n = x ∨ n = y ∨ n = fr 0 ∨ n = fr 1 ∨ n = fr 2 ∨ n = fr 3
theorem rl_T (c : Ac) (hc : c ∈ rl kx ky x y fr) : Tn x y fr c.2.1.1 ∧ Tn x y fr c.2.2.1 ∧ c.2.1.2 < 3 ∧ c.2.2.2 < 3 := by
  unfold rl rlT at hc
  unfold Tn
  by_cases c1 : kx = ky
  · rw [if_pos c1] at hc
    by_cases c0 : kx = 0
    · rw [if_pos c0] at hc
      simp at hc
      subst hc
      simp
    · rw [if_neg c0] at hc
      simp at hc
      rcases hc with rfl | rfl | rfl
      · simp
      · simp; split <;> omega
      · simp; split <;> omega
  · rw [if_neg c1] at hc
    by_cases c2 : kx = 0 ∨ ky = 0
    · rw [if_pos c2] at hc
      simp at hc
      rcases hc with rfl | rfl | rfl
      · simp
      · simp; split <;> omega
      · simp; split <;> omega
    · rw [if_neg c2] at hc
      simp at hc
      rcases hc with rfl | rfl | rfl | rfl | rfl | rfl | rfl | rfl | rfl <;> simp
theorem kl_T (a : Nat × Option Nat) (ha : a ∈ kl kx ky x y fr) : Tn x y fr a.1 := by
  unfold kl at ha
  unfold Tn
  by_cases c1 : kx = ky
  · rw [if_pos c1] at ha
    simp at ha
    rcases ha with rfl | rfl <;> simp
  · rw [if_neg c1] at ha
    by_cases c2 : kx = 0 ∨ ky = 0
    · rw [if_pos c2] at ha
      simp at ha
      rcases ha with rfl | rfl | rfl | rfl <;> simp
    · rw [if_neg c2] at ha
      simp at ha
      rcases ha with rfl | rfl | rfl | rfl | rfl | rfl <;> simp
theorem kus_o : ∀ (l : List (Nat × Option Nat)) (K : Kd) (n : Nat), (∀ a, a ∈ l → n ≠ a.1) → kus l K n = K n := by
  intro l
  induction l with
  | nil => intro K n _; rfl
  | cons a l ih =>
    intro K n h
    show kus l (ku K a.1 a.2) n = K n
    rw [ih _ n (fun b hb => h b (List.mem_cons_of_mem a hb))]
    unfold ku
    rw [if_neg (h a (List.mem_cons_self ..))]
theorem ap_o {c : Ac} {S : Sy} {p q : Port} (hw : S.1 p = some q) (h1 : p ≠ c.2.1) (h2 : p ≠ c.2.2) (h3 : q ≠ c.2.1) (h4 : q ≠ c.2.2) : (ap c S).1 p = some q := by
  obtain ⟨t, p', q'⟩ := c
  obtain ⟨w, k⟩ := S
  simp only at hw h1 h2 h3 h4
  match t with
  | 0 => show aC p' q' w p = _; unfold aC; grind
  | 1 => show aS p' q' w p = _; unfold aS sw1; grind
  | 2 => show wl p' q' w p = _; unfold wl; grind
  | n + 3 => show aF p' q' w p = _; unfold aF; grind
theorem aps_o : ∀ (l : List Ac) (S : Sy) (p q : Port), S.1 p = some q → (∀ c, c ∈ l → p ≠ c.2.1 ∧ p ≠ c.2.2 ∧ q ≠ c.2.1 ∧ q ≠ c.2.2) → (aps l S).1 p = some q := by
  intro l
  induction l with
  | nil => intro S p q h _; exact h
  | cons c l ih =>
    intro S p q h hc
    obtain ⟨a1, a2, a3, a4⟩ := hc c (List.mem_cons_self ..)
    exact ih (ap c S) p q (ap_o h a1 a2 a3 a4) (fun b hb => hc b (List.mem_cons_of_mem c hb))
/-- another meeting stays -/
theorem stp_o {u v ku' kv : Nat} (h1 : Redex N u v ku' kv) (hu : ¬ Tn x y fr u) (hv : ¬ Tn x y fr v) : Redex (stp kx ky x y fr N) u v ku' kv := by
  refine ⟨?_, ?_, ?_⟩
  · show kus (kl kx ky x y fr) N.1 u = _
    rw [kus_o _ _ u (fun a ha z => hu (by rw [z]; exact kl_T a ha))]
    exact h1.1
  · show kus (kl kx ky x y fr) N.1 v = _
    rw [kus_o _ _ v (fun a ha z => hv (by rw [z]; exact kl_T a ha))]
    exact h1.2.1
  · refine aps_o _ _ _ _ h1.2.2 (fun c hc => ?_)
    obtain ⟨t1, t2, -, -⟩ := rl_T c hc
    exact ⟨fun z => hu (by rw [← z] at t1; exact t1), fun z => hu (by rw [← z] at t2; exact t2), fun z => hv (by rw [← z] at t1; exact t1), fun z => hv (by rw [← z] at t2; exact t2)⟩
theorem stp_bd (h : Good N) : ∃ B, ∀ n, B ≤ n → (stp kx ky x y fr N).1 n = none := by
  obtain ⟨B, hB⟩ := h.2
  refine ⟨B + x + y + fr 0 + fr 1 + fr 2 + fr 3 + 1, fun n hn => ?_⟩
  show kus (kl kx ky x y fr) N.1 n = _
  rw [kus_o _ _ _ (fun a ha z => ?_)]
  · exact hB n (by omega)
  · have := kl_T a ha
    rw [← z] at this
    unfold Tn at this
    omega
theorem stp_Good (h : Good N) (hr : Redex N x y kx ky) (hf : FrOk N x y fr) : Good (stp kx ky x y fr N) := ⟨stp_WF h hr hf, stp_bd h⟩
/-- names that are free and new in every way -/
theorem far_ex (h : Good N) (x y m : Nat) : ∃ fr, FrOk N x y fr ∧ ∀ i, i < 4 → m ≤ fr i ∧ N.1 (fr i) = none := by
  obtain ⟨B, hB⟩ := h.2
  refine ⟨fun i => B + m + x + y + 1 + i, ⟨fun i hi => ?_, fun i j hi hj hne => by simp only; omega⟩, fun i hi => ⟨by simp only; omega, hB _ (by simp only; omega)⟩⟩
  show K00 N.1 x y (B + m + x + y + 1 + i) = none
  unfold K00 ku
  rw [if_neg (by omega), if_neg (by omega)]
  exact hB _ (by omega)
/-- the meeting of class and reference -/
theorem Perf_stp {K : Kd} {w : Wr} {r : Nat} (h : Good (K, w, r)) (hr : Redex (K, w, r) x y kx ky) {K' : Kd} {w' : Wr} {r' : Nat} (hP : Perf K w r x y kx ky K' w' r') : ∃ fr, FrOk (K, w, r) x y fr ∧ (K', w', r') = stp kx ky x y fr (K, w, r) := by
  have hxy := Redex_ne h hr
  have hF := h.1
  obtain ⟨hx, hy, hq⟩ := hr
  have hx' : K x = some kx := hx
  have hy' : K y = some ky := hy
  have hq' : w (x, 0) = some (y, 0) := hq
  have M4 : Mt (wA0 x y w) := Mt_cut hF.1 hq
  have e0 : aC (x, 0) (y, 0) w = wA0 x y w := aC_wv _ _ _
  have tail : ∀ fr, FrOk (K, w, r) x y fr → OkL (rl kx ky x y fr) (w, r) := fun fr hf => rl_ok h ⟨hx, hy, hq⟩ hf
  rcases hP with ⟨a1, a2, a3, a4, a5⟩ | ⟨a1, a2, s1, s2, a3, a4, a5, a6, a7⟩ | ⟨a1, a2, z, p, q, a3, a4, a5, a6, a7, a8⟩ | ⟨a1, a2, a3, p, q, s, t, a4, a5, a6, a7, a8, a9, a10⟩
  · obtain ⟨fr, hf, -⟩ := far_ex h x y 0
    refine ⟨fr, hf, ?_⟩
    unfold stp rl rlT kl
    rw [if_pos a1, if_pos a1, if_pos a2, a3, a4, a5, ← e0]
    rfl
  · obtain ⟨fr, hf, -⟩ := far_ex h x y 0
    refine ⟨fr, hf, ?_⟩
    have ok := tail fr hf
    unfold rl rlT at ok
    unfold stp rl rlT kl
    rw [if_pos a1, if_neg a2, ← a3, ← a4] at ok
    rw [if_pos a1, if_pos a1, if_neg a2, ← a3, ← a4]
    obtain ⟨-, o1, o2, -⟩ := ok
    obtain ⟨o11, o12, o13⟩ : (aC (x, 0) (y, 0) w) (x, 1) ≠ none ∧ (aC (x, 0) (y, 0) w) (y, s1) ≠ none ∧ ((x, 1) : Port) ≠ (y, s1) := o1
    obtain ⟨o21, o22, o23⟩ : (aF (x, 1) (y, s1) (aC (x, 0) (y, 0) w)) (x, 2) ≠ none ∧ (aF (x, 1) (y, s1) (aC (x, 0) (y, 0) w)) (y, s2) ≠ none ∧ ((x, 2) : Port) ≠ (y, s2) := o2
    rw [e0] at o11 o12 o21 o22
    obtain ⟨b1, hb1⟩ := some_of o11
    obtain ⟨b2, hb2⟩ := some_of o12
    have f1 := aF_wf M4 o11 o12 o13
    rw [f1] at o21 o22
    have m1 := Mt_wf M4 hb1 hb2 o13
    have f2 := aF_wf m1 o21 o22 o23
    show (K', w', r') = (K00 K x y, (aF (x, 2) (y, s2) (aF (x, 1) (y, s1) (aC (x, 0) (y, 0) w)), rf (x, 2) (y, s2) (aF (x, 1) (y, s1) (aC (x, 0) (y, 0) w)) (rf (x, 1) (y, s1) (aC (x, 0) (y, 0) w) r)))
    rw [e0, f1, f2, a5, a6, a7]
  · obtain ⟨fx, hfx, hfx2⟩ := far_ex h x y (p + q + 1)
    have fq := ku_none a5.1
    refine ⟨fun i => if i = 0 then p else if i = 1 then q else fx i, ⟨fun i hi => ?_, fun i j hi hj hne => ?_⟩, ?_⟩
    · rcases (show i = 0 ∨ i = 1 ∨ i = 2 ∨ i = 3 by omega) with rfl | rfl | rfl | rfl
      · exact a4.1
      · exact fq.2
      · exact hfx.1 2 (by omega)
      · exact hfx.1 3 (by omega)
    · have g2 := (hfx2 2 (by omega)).1
      have g3 := (hfx2 3 (by omega)).1
      have g23 := hfx.2 2 3 (by omega) (by omega) (by omega)
      have gpq := fq.1
      rcases (show i = 0 ∨ i = 1 ∨ i = 2 ∨ i = 3 by omega) with rfl | rfl | rfl | rfl <;> rcases (show j = 0 ∨ j = 1 ∨ j = 2 ∨ j = 3 by omega) with rfl | rfl | rfl | rfl <;> simp <;> omega
    · have ok := tail (fun i => if i = 0 then p else if i = 1 then q else fx i) ⟨fun i hi => ?_, fun i j hi hj hne => ?_⟩
      · unfold rl rlT at ok
        unfold stp rl rlT kl
        rw [if_neg a1, if_pos a2, ← a3] at ok
        rw [if_neg a1, if_neg a1, if_pos a2, if_pos a2, ← a3]
        obtain ⟨-, o1, o2, -⟩ := ok
        obtain ⟨o11, o12⟩ : (aC (x, 0) (y, 0) w) (z, 1) ≠ none ∧ (aC (x, 0) (y, 0) w) (p, 0) = none := o1
        obtain ⟨o21, o22⟩ : (aS (z, 1) (p, 0) (aC (x, 0) (y, 0) w)) (z, 2) ≠ none ∧ (aS (z, 1) (p, 0) (aC (x, 0) (y, 0) w)) (q, 0) = none := o2
        rw [e0] at o11 o12 o21 o22
        obtain ⟨b1, hb1⟩ := some_of o11
        have f1 := aS_wm M4 o11 o12
        rw [f1] at o21 o22
        have m1 := Mt_wm M4 hb1 o12
        have f2 := aS_wm m1 o21 o22
        show (K', w', r') = (ku (ku (K00 K x y) p (some 0)) q (some 0), (aS (z, 2) (q, 0) (aS (z, 1) (p, 0) (aC (x, 0) (y, 0) w)), r))
        rw [e0, f1, f2, a6, a7, a8]
      · rcases (show i = 0 ∨ i = 1 ∨ i = 2 ∨ i = 3 by omega) with rfl | rfl | rfl | rfl
        · exact a4.1
        · exact fq.2
        · exact hfx.1 2 (by omega)
        · exact hfx.1 3 (by omega)
      · have g2 := (hfx2 2 (by omega)).1
        have g3 := (hfx2 3 (by omega)).1
        have g23 := hfx.2 2 3 (by omega) (by omega) (by omega)
        have gpq := fq.1
        rcases (show i = 0 ∨ i = 1 ∨ i = 2 ∨ i = 3 by omega) with rfl | rfl | rfl | rfl <;> rcases (show j = 0 ∨ j = 1 ∨ j = 2 ∨ j = 3 by omega) with rfl | rfl | rfl | rfl <;> simp <;> omega
  · have f1 := ku_none a5.1
    have f2 := ku_none a6.1
    have f22 := ku_none f2.2
    have f3 := ku_none a7.1
    have f32 := ku_none f3.2
    have f33 := ku_none f32.2
    have hfr : FrOk (K, w, r) x y (fun i => if i = 0 then p else if i = 1 then q else if i = 2 then s else t) := by
      refine ⟨fun i hi => ?_, fun i j hi hj hne => ?_⟩
      · rcases (show i = 0 ∨ i = 1 ∨ i = 2 ∨ i = 3 by omega) with rfl | rfl | rfl | rfl
        · exact a4.1
        · exact f1.2
        · exact f22.2
        · exact f33.2
      · have e1 := f1.1
        have e2 := f2.1
        have e3 := f22.1
        have e4 := f3.1
        have e5 := f32.1
        have e6 := f33.1
        rcases (show i = 0 ∨ i = 1 ∨ i = 2 ∨ i = 3 by omega) with rfl | rfl | rfl | rfl <;> rcases (show j = 0 ∨ j = 1 ∨ j = 2 ∨ j = 3 by omega) with rfl | rfl | rfl | rfl <;> simp <;> omega
    refine ⟨_, hfr, ?_⟩
    have ok := tail _ hfr
    have c2 : ¬ (kx = 0 ∨ ky = 0) := by omega
    unfold rl rlT at ok
    unfold stp rl rlT kl
    rw [if_neg a1, if_neg c2] at ok
    rw [if_neg a1, if_neg a1, if_neg c2, if_neg c2]
    obtain ⟨-, o1, o2, o3, o4, -⟩ := ok
    obtain ⟨o11, o12⟩ : (aC (x, 0) (y, 0) w) (y, 1) ≠ none ∧ (aC (x, 0) (y, 0) w) (p, 0) = none := o1
    obtain ⟨o21, o22⟩ : (aS (y, 1) (p, 0) (aC (x, 0) (y, 0) w)) (y, 2) ≠ none ∧ (aS (y, 1) (p, 0) (aC (x, 0) (y, 0) w)) (q, 0) = none := o2
    obtain ⟨o31, o32⟩ : (aS (y, 2) (q, 0) (aS (y, 1) (p, 0) (aC (x, 0) (y, 0) w))) (x, 1) ≠ none ∧ (aS (y, 2) (q, 0) (aS (y, 1) (p, 0) (aC (x, 0) (y, 0) w))) (s, 0) = none := o3
    obtain ⟨o41, o42⟩ : (aS (x, 1) (s, 0) (aS (y, 2) (q, 0) (aS (y, 1) (p, 0) (aC (x, 0) (y, 0) w)))) (x, 2) ≠ none ∧ (aS (x, 1) (s, 0) (aS (y, 2) (q, 0) (aS (y, 1) (p, 0) (aC (x, 0) (y, 0) w)))) (t, 0) = none := o4
    rw [e0] at o11 o12 o21 o22 o31 o32 o41 o42
    obtain ⟨b1, hb1⟩ := some_of o11
    have g1 := aS_wm M4 o11 o12
    rw [g1] at o21 o22 o31 o32 o41 o42
    have m1 := Mt_wm M4 hb1 o12
    obtain ⟨b2, hb2⟩ := some_of o21
    have g2 := aS_wm m1 o21 o22
    rw [g2] at o31 o32 o41 o42
    have m2 := Mt_wm m1 hb2 o22
    obtain ⟨b3, hb3⟩ := some_of o31
    have g3 := aS_wm m2 o31 o32
    rw [g3] at o41 o42
    have m3 := Mt_wm m2 hb3 o32
    have g4 := aS_wm m3 o41 o42
    show (K', w', r') = (ku (ku (ku (ku (K00 K x y) p (some kx)) q (some kx)) s (some ky)) t (some ky), (wl (q, 2) (t, 2) (wl (q, 1) (s, 2) (wl (p, 2) (t, 1) (wl (p, 1) (s, 1) (aS (x, 2) (t, 0) (aS (x, 1) (s, 0) (aS (y, 2) (q, 0) (aS (y, 1) (p, 0) (aC (x, 0) (y, 0) w)))))))), r))
    rw [e0, g1, g2, g3, g4, a8, a9, a10]
end ST
