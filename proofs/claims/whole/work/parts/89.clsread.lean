/-! the class's reading: no stack, but the way up -/
def nc (k : Option Nat) : Int := match k with
  | none => -1
  | some k => 97 + k
theorem nc_s (k : Nat) : nc (some k) = 97 + (k : Int) := rfl
theorem nc_n : nc none = -1 := rfl
def RepC (o : Ob) (s : RS) : Prop := oV o 2 = jI s.2.2.length ∧ SgA (oA o 0) s.2.2 ∧ oV o 3 = jI ((97 + s.2.1 : Nat)) ∧ ∀ p, vp 180 p → oA o 1 (cp p) = jI (nc (s.1 p))
def Cx (K : Kd) (w : Wr) : Nat → Port → List It → Prop
  | 0, p, st => p.2 = 3 ∧ st = [.inl 59]
  | d + 1, p, st => ∃ p' k st', w p' = some (p.1, 0) ∧ K p.1 = some (k + 1) ∧ Cx K w d p' st' ∧ ((p.2 = 1 ∧ st = .inr (p.1, 2) :: .inl (clo (k + 1)) :: st') ∨ (p.2 = 2 ∧ st = .inl (clo (k + 1)) :: st'))
theorem Cx_len {K : Kd} {w : Wr} : ∀ (d : Nat) (p : Port) (st : List It), Cx K w d p st → d < st.length := by
  intro d
  induction d with
  | zero => intro p st h; rw [h.2]; simp
  | succ d ih =>
    intro p st h
    obtain ⟨p', k, st', -, -, h3, h4⟩ := h
    have := ih p' st' h3
    rcases h4 with ⟨-, e⟩ | ⟨-, e⟩ <;> rw [e] <;> simp only [List.length_cons] <;> omega
theorem s_sideOf {p : Port} (hp : vp 1000 p) : FX2_sideOf (jI (cp p)) = some (jI (if p.2 = 3 then -1 else (p.2 : Int))) := by
  have hl := cp_lt hp
  unfold FX2_sideOf
  rcases hp with ⟨h1, h2⟩ | ⟨h1, h2⟩
  · have e : cp p = 16 + 3 * p.1 + p.2 := by unfold cp; rw [if_neg (by omega)]
    rw [j_16, if_pos (by rw [jI_le (by omega) (by omega) (by omega) (by omega)]; omega), jI_sub, j_3, jI_rem3 (by omega) (by omega), if_neg (by omega)]
    congr 2
    omega
  · have e : cp p = p.1 := by unfold cp; rw [if_pos h1]
    rw [j_16, if_neg (by rw [jI_le (by omega) (by omega) (by omega) (by omega)]; omega), if_pos h1]
    rfl
theorem s_side3 {p : Port} (hp : vp 1000 p) (h : p.2 = 3) : FX2_sideOf (jI (cp p)) = some (jI (-1)) := by
  rw [s_sideOf hp, if_pos h]
theorem s_sideN {p : Port} (hp : vp 1000 p) {s : Nat} (h : p.2 = s) (hs : s < 3) : FX2_sideOf (jI (cp p)) = some (jI s) := by
  rw [s_sideOf hp, if_neg (by omega), h]
theorem s_ownerOf {p : Port} (hp : vp 1000 p) (h3 : p.2 < 3) : FX2_ownerOf (jI (cp p)) = some (jI p.1) := by
  have hl := cp_lt hp
  unfold FX2_ownerOf
  rcases hp with ⟨h1, h2⟩ | ⟨h1, h2⟩
  · have e : cp p = 16 + 3 * p.1 + p.2 := by unfold cp; rw [if_neg (by omega)]
    rw [j_16, if_pos (by rw [jI_le (by omega) (by omega) (by omega) (by omega)]; omega), jI_sub, j_3, jI_div3 (by omega) (by omega)]
    congr 2
    omega
  · omega
theorem j_556 : (556 : Int32) = jI 556 := rfl
theorem c_write {o : Ob} {s : RS} {c : Nat} (h : RepC o s) (hl : s.2.2.length < 556) : ∃ o', FX5_write (jI c) o = some o' ∧ RepC o' (rput c s) := by
  obtain ⟨h1, h2, h3, h4⟩ := h
  refine ⟨sV (sA o 0 s.2.2.length (jI c)) 2 (jI ((s.2.2.length + 1 : Nat))), ?_, ⟨?_, ?_, ?_, ?_⟩⟩
  · unfold FX5_write
    rw [h1, if_neg (by rw [j_556, jI_le (by omega) (by omega) (by omega) (by omega)]; omega), if_pos (by rw [jI_inb (by omega) (by omega)]; omega), lT_eq, lT_eq, jc _ (by omega), oV_sA, h1, jI_p1]
  · rw [oV_sV, if_pos rfl, rput_len]
  · refine SgA_push h2 ?_ (fun j hj => ?_)
    · rw [oA_sV, sA_rw, if_pos rfl]
    · rw [oA_sV, sA_rw, if_neg (by omega)]
  · exact h3
  · intro p hp
    rw [oA_sV, sA_ne _ _ _ (by omega)]
    exact h4 p hp
theorem c_name {N : Nat} {g o : Ob} {K : Kd} {w : Wr} {s : RS} {p q : Port} (hN : N ≤ 180) (hW : RW N g w) (hw : w p = some q) (h : RepC o s) (hn : NmOk s) (hpq : p ≠ q) (hl : s.2.2.length < 556) : ∃ o', BX5_writeFirst_26 N (jI (cp p)) o g = some o' ∧ RepC o' (rnm p q s) := by
  have hp := vp_mono hN (hW.1 p q hw).1
  have hq := vp_mono hN (hW.1 p q hw).2.1
  obtain ⟨h1, h2, h3, h4⟩ := h
  have lp := cp_lt hp
  have lq := cp_lt hq
  have vp' := h4 p hp
  unfold BX5_writeFirst_26
  rw [s_across (by omega) hW hw, b1_some]
  unfold FX5_nameOf
  rw [if_neg (by rw [j_0, jI_lt (by omega) (by omega) (by omega) (by omega)]; omega), if_neg (by rw [j_556, jI_le (by omega) (by omega) (by omega) (by omega)]; omega), if_neg (by rw [j_0, jI_lt (by omega) (by omega) (by omega) (by omega)]; omega), if_pos (by rw [j_556, jI_lt (by omega) (by omega) (by omega) (by omega)]; omega), if_pos (by rw [jI_inb (by omega) (by omega)]; omega), jc _ (by omega), vp']
  cases hs : s.1 p with
  | some k =>
    have hk := hn.1 p k hs
    have hk2 := hn.2
    rw [nc_s, if_neg (by rw [j_m1, jI_eq (by omega) (by omega) (by omega) (by omega)]; omega), b2_some]
    obtain ⟨o', e, q1⟩ := c_write (c := 97 + k) (o := o) (s := s) ⟨h1, h2, h3, h4⟩ hl
    rw [show jI (97 + (k : Int)) = jI ((97 + k : Nat)) from rfl, e, b1_some]
    exact ⟨o', rfl, by unfold rnm; rw [hs]; exact q1⟩
  | none =>
    rw [nc_n, if_pos (by rfl), lT_eq, if_pos (by rw [jI_inb (by omega) (by omega)]; omega), lT_eq, lT_eq, jc _ (by omega)]
    let o1 := sV (sA (sA o 1 (cp p) (oV o 3)) 1 (cp q) (oV o 3)) 3 (oV o 3 + 1)
    have r1 : RepC o1 (fun r => if r = p ∨ r = q then some s.2.1 else s.1 r, s.2.1 + 1, s.2.2) := by
      refine ⟨h1, ?_, ?_, fun u hu => ?_⟩
      · show SgA (oA (sV (sA (sA o 1 (cp p) (oV o 3)) 1 (cp q) (oV o 3)) 3 (oV o 3 + 1)) 0) s.2.2
        rw [oA_sV, sA_ne _ _ _ (by omega), sA_ne _ _ _ (by omega)]
        exact h2
      · show oV (sV (sA (sA o 1 (cp p) (oV o 3)) 1 (cp q) (oV o 3)) 3 (oV o 3 + 1)) 3 = _
        rw [oV_sV, if_pos rfl, h3, jI_p1]
        rfl
      · show oA (sV (sA (sA o 1 (cp p) (oV o 3)) 1 (cp q) (oV o 3)) 3 (oV o 3 + 1)) 1 (cp u) = _
        rw [oA_sV, sA_rw, sA_rw]
        simp only
        by_cases c1 : u = q
        · rw [if_pos (by rw [c1]), if_pos (Or.inr c1), h3]; rfl
        · rw [if_neg (fun z => c1 (cp_inj hu hq z))]
          by_cases c2 : u = p
          · rw [if_pos (by rw [c2]), if_pos (Or.inl c2), h3]; rfl
          · rw [if_neg (fun z => c2 (cp_inj hu hp z)), if_neg (fun z => z.elim c2 c1)]
            exact h4 u hu
    have e1 : oA o1 1 (cp p) = jI ((97 + s.2.1 : Nat)) := by
      rw [r1.2.2.2 p hp]
      simp only [true_or, if_true]
      rfl
    obtain ⟨o', e, q1⟩ := c_write (c := 97 + s.2.1) r1 hl
    refine ⟨o', ?_, ?_⟩
    · have e2 : (oV (sA o 1 (cp p) (oV o 3)) 3) = oV o 3 := rfl
      rw [e2, b2_some]
      show b1 (FX5_write (oA o1 1 (cp p)) o1) _ = _
      rw [e1, e, b1_some]
    · unfold rnm
      rw [hs]
      exact q1
theorem chA0 {k : Nat} (hk : k ≤ 3) : chA 0 (jI k) = jI (opn k) := by
  rcases (show k = 0 ∨ k = 1 ∨ k = 2 ∨ k = 3 by omega) with rfl | rfl | rfl | rfl <;> decide
theorem chA1 {k : Nat} (hk : k ≤ 2) : chA 1 (jI ((k + 1 : Nat))) = jI (clo (k + 1)) := by
  rcases (show k = 0 ∨ k = 1 ∨ k = 2 by omega) with rfl | rfl | rfl <;> decide
section CR
variable {N : Nat} {g : Ob} {K : Kd} {w : Wr} {r T t : Nat}
theorem c_climb (hN : N ≤ 180) (hF : WF K w) (hK : RK N g K T) (hW : RW N g w) (ht : t ≤ 8) : ∀ (d : Nat) (p : Port) (st : List It) (s s' : RS) (f : Nat) (X : List Port) (V : List Nat) (x4 F : Nat) (o : Ob), Cx K w d p st → w p ≠ none → RI K w t st s X V → NmOk s → rdL K w f st s = some s' → RepC o s → d < F → x4 + d < 2000 →
    ∃ nx o1, LX5_nextAfter_5 N g (fun x3_20 o0_21 => BX5_nextAfter_79 N x3_20 o0_21 g) F (jI (cp p)) (jI x4) o = some (nx, o1) ∧
      ((nx = jI (-1) ∧ ∃ s1, RepC o1 s1 ∧ NmOk s1 ∧ s' = rput 59 s1 ∧ s1.2.2.length < 556) ∨
       (∃ p2 d2 st2 s2 f2 X2 V2, nx = jI (cp p2) ∧ f2 ≤ f ∧ Cx K w d2 p2 st2 ∧ rdL K w f2 (.inr p2 :: st2) s2 = some s' ∧ RI K w t (.inr p2 :: st2) s2 X2 V2 ∧ NmOk s2 ∧ RepC o1 s2)) := by
  have hbd : ∀ m, 180 ≤ m → K m = none := fun m hm => hK.2.2.2.1 m (by have := hK.2.1; omega)
  intro d
  induction d with
  | zero =>
    intro p st s s' f X V x4 F o hC hwp hR hn h hs hF' hx
    obtain ⟨h3, rfl⟩ := hC
    obtain ⟨q, hq⟩ := some_of hwp
    have hp := vp_mono (show N ≤ 1000 by omega) (hW.1 p q hq).1
    obtain ⟨F, rfl⟩ : ∃ f', F = f' + 1 := ⟨F - 1, by omega⟩
    have l1 := hR.2.2.2.2.2.2.1
    have hV := RI_V hbd hR
    simp only [List.length_cons, List.length_nil] at l1
    refine ⟨jI (-1), o, ?_, Or.inl ⟨rfl, s, hs, hn, ?_, by omega⟩⟩
    · rw [LX5_nextAfter_5.eq_2, if_neg (by rw [j_2000, jI_le (by omega) (by omega) (by omega) (by omega)]; omega), s_side3 hp h3, b1_some, if_neg (by decide)]
      unfold BX5_nextAfter_79
      rw [s_side3 hp h3, b1_some, if_neg (by decide)]
      rfl
    · cases f with
      | zero => cases h
      | succ f =>
        have : rdL K w f [] (rput 59 s) = some s' := h
        cases f <;> exact (Option.some.inj this).symm
  | succ d ih =>
    intro p st s s' f X V x4 F o hC hwp hR hn h hs hF' hx
    obtain ⟨p', k, st', a1, a2, a3, a4⟩ := hC
    obtain ⟨q, hq⟩ := some_of hwp
    have hp := vp_mono (show N ≤ 1000 by omega) (hW.1 p q hq).1
    obtain ⟨F, rfl⟩ : ∃ f', F = f' + 1 := ⟨F - 1, by omega⟩
    rcases a4 with ⟨e1, rfl⟩ | ⟨e2, rfl⟩
    · refine ⟨jI (cp (p.1, 2)), o, ?_, Or.inr ⟨(p.1, 2), d + 1, _, s, f, X, V, rfl, Nat.le_refl f, ⟨p', k, st', a1, a2, a3, Or.inr ⟨rfl, rfl⟩⟩, h, hR, hn, hs⟩⟩
      rw [LX5_nextAfter_5.eq_2, if_neg (by rw [j_2000, jI_le (by omega) (by omega) (by omega) (by omega)]; omega), s_sideN hp e1 (by omega), b1_some, if_neg (by decide)]
      unfold BX5_nextAfter_79
      rw [s_sideN hp e1 (by omega), b1_some, if_pos (by rfl), s_ownerOf hp (by omega), b1_some, j_2, s_port2, b1_some]
    · have hk3 := hK.2.2.2.2 _ _ a2
      have hv1 : p.1 < 1000 := by
        rcases hp with a | a
        · exact a.2
        · omega
      have l1 := hR.2.2.2.2.2.2.1
      have hV := RI_V hbd hR
      simp only [List.length_cons] at l1
      cases f with
      | zero => cases h
      | succ f =>
        have h' : rdL K w f st' (rput (clo (k + 1)) s) = some s' := h
        obtain ⟨o1, e3, r1⟩ := c_write (c := clo (k + 1)) hs (by omega)
        have hp0 := (hF.1 _ _ a1).1
        obtain ⟨nx, o2, q1, q2⟩ := ih p' st' _ s' f X V (x4 + 1) F o1 a3 (by rw [a1]; exact fun z => by cases z) (RI_code hR) (NmOk_put hn _) h' r1 (by omega) (by omega)
        refine ⟨nx, o2, ?_, ?_⟩
        · rw [LX5_nextAfter_5.eq_2, if_neg (by rw [j_2000, jI_le (by omega) (by omega) (by omega) (by omega)]; omega), s_sideN hp e2 (by omega), b1_some, if_pos (by rfl), s_ownerOf hp (by omega), b1_some, s_kindOf (by omega) hK p.1 (by omega), b1_some, a2, kI_s, if_neg (by rw [j_1, jI_lt (by omega) (by omega) (by omega) (by omega)]; omega), if_neg (by rw [j_4, jI_le (by omega) (by omega) (by omega) (by omega)]; omega), if_pos (by rw [jI_inb (by omega) (by omega)]; omega), chA1 (by omega), e3, b1_some]
          unfold BX5_nextAfter_62
          rw [j_0, s_port0, b1_some, s_across (by omega) hW hp0, b1_some, lT_eq, jI_p1]
          exact q1
        · rcases q2 with q2 | ⟨p2, d2, st2, s2, f2, X2, V2, b1, b2, b3⟩
          · exact Or.inl q2
          · exact Or.inr ⟨p2, d2, st2, s2, f2, X2, V2, b1, by omega, b3⟩
theorem c_tell (hN : N ≤ 180) (hF : WF K w) (hK : RK N g K T) (hW : RW N g w) (ht : t ≤ 8) : ∀ (B f d : Nat) (p : Port) (st : List It) (s s' : RS) (X : List Port) (V : List Nat) (x4 F : Nat) (o : Ob), f < B → Cx K w d p st → RI K w t (.inr p :: st) s X V → NmOk s → rdL K w f (.inr p :: st) s = some s' → RepC o s → f < F → x4 + f < 1000 → ∃ o1 s1, LX5_tellTree_5 N g F (jI (cp p)) (jI x4) o = some o1 ∧ RepC o1 s1 ∧ NmOk s1 ∧ s' = rput 59 s1 ∧ s1.2.2.length < 556 := by
  have hbd : ∀ m, 180 ≤ m → K m = none := fun m hm => hK.2.2.2.1 m (by have := hK.2.1; omega)
  intro B
  induction B with
  | zero => intro f d p st s s' X V x4 F o hB; omega
  | succ B ih =>
    intro f d p st s s' X V x4 F o hB hC hR hn h hs hF' hx
    cases f with
    | zero => cases h
    | succ f =>
      obtain ⟨F, rfl⟩ : ∃ f', F = f' + 1 := ⟨F - 1, by omega⟩
      have hwp : w p ≠ none := hR.2.2.2.2.2.2.2.2 p (List.mem_cons_self ..)
      obtain ⟨q, hq⟩ := some_of hwp
      obtain ⟨vpp, vq, -⟩ := hW.1 p q hq
      have lp := cp_lt vpp
      have hpq := (hF.1 _ _ hq).2
      have l1 := hR.2.2.2.2.2.2.1
      have l2 := hR.2.2.2.2.2.2.2.1
      have hV := RI_V hbd hR
      simp only [List.length_cons] at l1 l2
      have hd := Cx_len d p st hC
      have h' : rdL K w f ((rd1 K w (.inr p) s).1 ++ st) (rd1 K w (.inr p) s).2 = some s' := h
      -- behind a leaf
      have after : ∀ (s1 : RS) (o1 : Ob) (X1 : List Port), RI K w t st s1 X1 V → NmOk s1 → rdL K w f st s1 = some s' → RepC o1 s1 → ∃ o2 s2, b2 (FX5_nextAfter N (jI (cp p)) o1 g) (fun r_13 o0_14 => lT (jI (x4 : Int) + (1 : Int32)) fun x4_16 => LX5_tellTree_5 N g F r_13 x4_16 o0_14) = some o2 ∧ RepC o2 s2 ∧ NmOk s2 ∧ s' = rput 59 s2 ∧ s2.2.2.length < 556 := by
        intro s1 o1 X1 hR1 hn1 h1 hs1
        obtain ⟨nx, o2, q1, q2⟩ := c_climb hN hF hK hW ht d p st s1 s' f X1 V 0 fu o1 hC hwp hR1 hn1 h1 hs1 (by rw [fu_eq]; omega) (by omega)
        unfold FX5_nextAfter
        rw [show (0 : Int32) = jI ((0 : Nat) : Int) from rfl, q1, b2_some, lT_eq, jI_p1]
        rcases q2 with ⟨rfl, s2, a1, a2, a3, a4⟩ | ⟨p2, d2, st2, s2, f2, X2, V2, rfl, b2', b3, b4, b5, b6, b7⟩
        · refine ⟨o2, s2, ?_, a1, a2, a3, a4⟩
          obtain ⟨F, rfl⟩ : ∃ f', F = f' + 1 := ⟨F - 1, by
            cases f with
            | zero => cases st with
              | nil => simp at hd
              | cons i st => cases h1
            | succ f => omega⟩
          rw [LX5_tellTree_5.eq_2, if_neg (by rw [j_2000, jI_le (by omega) (by omega) (by omega) (by omega)]; omega), if_pos (by rfl)]
        · exact ih f2 d2 p2 st2 s2 s' X2 V2 (x4 + 1) F o2 (by omega) b3 b5 b6 b4 b7 (by omega) (by omega)
      rw [LX5_tellTree_5.eq_2, if_neg (by rw [j_2000, jI_le (by omega) (by omega) (by omega) (by omega)]; omega), if_neg (by rw [j_m1, jI_eq (by omega) (by omega) (by omega) (by omega)]; omega), s_across (by omega) hW hq, b1_some, s_headAt (vp_mono (by omega) vq), b1_some]
      unfold rd1 at h'
      simp only [hq] at h'
      by_cases c : q.2 = 0
      · rw [if_pos c] at h'
        rw [if_pos c]
        obtain ⟨n, z⟩ := q
        simp only at c h'
        subst c
        have ha := alive_of hF (n := n) (s := 0) (by omega) (by rw [(hF.1 _ _ hq).1]; exact fun z => by cases z)
        obtain ⟨k, hk⟩ := some_of ha
        have hk3 := hK.2.2.2.2 _ _ hk
        have vn : n < 1000 := by
          rcases vq with a | a
          · have := a.2; simp only at this; omega
          · have := a.1; simp only at this; omega
        rw [s_kindOf (by omega) hK n (by omega), b1_some, hk, kI_s]
        simp only [hk] at h'
        unfold FX5_writeFirst
        rw [if_neg (by rw [j_0, jI_lt (by omega) (by omega) (by omega) (by omega)]; omega), if_neg (by rw [j_4, jI_le (by omega) (by omega) (by omega) (by omega)]; omega), if_pos (by rw [jI_inb (by omega) (by omega)]; omega), chA0 hk3]
        obtain ⟨o1, e1, r1⟩ := c_write (c := opn k) hs (by omega)
        rw [e1, b1_some, b1_some]
        by_cases ck : k = 0
        · subst ck
          rw [if_pos rfl] at h'
          rw [if_pos (by rfl)]
          exact after _ o1 (p :: X) (RI_leaf hR (rput_len 42 s)) (NmOk_put hn _) h' r1
        · rw [if_neg ck] at h'
          rw [if_neg (by rw [j_0, jI_le (by omega) (by omega) (by omega) (by omega)]; omega), j_1, s_port1, b1_some, lT_eq, ← j_1, jI_p1]
          obtain ⟨k', rfl⟩ : ∃ k', k = k' + 1 := ⟨k - 1, by omega⟩
          exact ih f (d + 1) (n, 1) _ _ s' _ _ (x4 + 1) F o1 (by omega) ⟨p, k', st, hq, hk, hC, Or.inl ⟨rfl, rfl⟩⟩ (RI_node hF (c := clo (k' + 1)) (s' := rput (opn (k' + 1)) s) hR hq hk (rput_len _ s)) (NmOk_put hn _) h' r1 (by omega) (by omega)
      · rw [if_neg c] at h'
        rw [if_neg c, s_kindOf_neg, b1_some]
        unfold FX5_writeFirst
        rw [if_pos (by decide)]
        obtain ⟨o1, e1, r1⟩ := c_name (K := K) hN hW hq hs hn hpq (by omega)
        rw [e1, b1_some, if_pos (by decide)]
        exact after _ o1 (p :: X) (RI_leaf hR (rnm_len p q s)) (NmOk_nm hn p q) h' r1
theorem s_isOpen (hN : N ≤ 1000) (hW : RW N g w) {i : Nat} (hi : i < 8) : FX2_isOpen N (jI i) g = some (if w (i, 3) = none then 0 else 1) := by
  unfold FX2_isOpen
  rw [if_neg (by rw [j_0, jI_lt (by omega) (by omega) (by omega) (by omega)]; omega), if_neg (by rw [j_8, jI_le (by omega) (by omega) (by omega) (by omega)]; omega)]
  by_cases c : w (i, 3) = none
  · rw [s_across_none hN hW (by omega) c, b1_some, if_pos (by rfl), if_pos c]
  · obtain ⟨q, hq⟩ := some_of c
    have e : cp (i, 3) = i := rfl
    have := s_across hN hW hq
    rw [e] at this
    have lq := cp_lt (hW.1 _ _ hq).2.1
    rw [this, b1_some, if_neg (by rw [j_m1, jI_eq (by omega) (by omega) (by omega) (by omega)]; omega), if_neg c]
theorem c_rdW (hN : N ≤ 180) (hF : WF K w) (hK : RK N g K T) (hW : RW N g w) : ∀ (d i : Nat) (s s' : RS) (X : List Port) (V : List Nat) (F : Nat) (o : Ob), i + d = 8 → d < F → RI K w i [] s X V → NmOk s → RepC o s → rdW K w 600 d i s = some s' → ∃ o', LX5_tellAll_21 N g F (jI i) o = some o' ∧ RepC o' s' := by
  have hbd : ∀ m, 180 ≤ m → K m = none := fun m hm => hK.2.2.2.1 m (by have := hK.2.1; omega)
  intro d
  induction d with
  | zero =>
    intro i s s' X V F o hi hf hR hn hs h
    obtain ⟨F, rfl⟩ : ∃ f', F = f' + 1 := ⟨F - 1, by omega⟩
    cases h
    exact ⟨o, by rw [LX5_tellAll_21.eq_2, if_pos (by rw [j_8, jI_le (by omega) (by omega) (by omega) (by omega)]; omega)], hs⟩
  | succ d ih =>
    intro i s s' X V F o hi hf hR hn hs h
    obtain ⟨F, rfl⟩ : ∃ f', F = f' + 1 := ⟨F - 1, by omega⟩
    rw [LX5_tellAll_21.eq_2, if_neg (by rw [j_8, jI_le (by omega) (by omega) (by omega) (by omega)]; omega), s_isOpen (by omega) hW (by omega), b1_some]
    unfold rdW at h
    by_cases c : w (i, 3) = none
    · rw [if_pos c] at h
      rw [if_pos c, if_pos rfl, lT_eq, jI_p1]
      exact ih (i + 1) s s' X V F o (by omega) (by omega) (RI_skip hR) hn hs h
    · rw [if_neg c] at h
      rw [if_neg c, if_neg (by decide)]
      have hR1 := RI_start hR c
      obtain ⟨s1, X1, V1, h1, h2⟩ := rdL_ok hF hbd 600 _ _ _ _ hR1 (by simp only [List.length_cons, List.length_nil]; omega)
      rw [h1] at h
      obtain ⟨o1, s2, e1, r1, n1, e2, l2⟩ := c_tell hN hF hK hW (t := i + 1) (by omega) 601 600 0 (i, 3) [.inl 59] s s1 X V 0 fu o (by omega) ⟨rfl, rfl⟩ hR1 hn h1 hs (by rw [fu_eq]; omega) (by omega)
      obtain ⟨o2, e3, r2⟩ := c_write (c := 59) r1 l2
      rw [← e2] at r2
      obtain ⟨o3, e4, r3⟩ := ih (i + 1) s1 s' X1 V1 F o2 (by omega) (by omega) h2 (by rw [e2]; exact NmOk_put n1 59) r2 h
      refine ⟨o3, ?_, r3⟩
      unfold FX5_tellTree
      have ei : cp (i, 3) = i := rfl
      rw [ei] at e1
      rw [show (0 : Int32) = jI ((0 : Nat) : Int) from rfl, e1, b1_some, show (59 : Int32) = jI ((59 : Nat) : Int) from rfl, e3, b1_some, lT_eq, jI_p1]
      exact e4
theorem c_tellAll (hN : N ≤ 180) (hF : WF K w) (h : RGr N g K w r) (o : Ob) : ∃ o', FX5_tellAll N o g = some o' ∧ oV o' 2 = jI (rdg K w).length ∧ SgA (oA o' 0) (rdg K w) ∧ (rdg K w).length ≤ 556 := by
  obtain ⟨T, t0, hK, hW, -⟩ := h
  have hbd : ∀ m, 180 ≤ m → K m = none := fun m hm => hK.2.2.2.1 m (by have := hK.2.1; omega)
  obtain ⟨s, hs, hg, hl⟩ := rdg_ok hF hbd
  have r1 : RepC (sV (sV (sR o 1 (fl o 1 556 (-1 : Int32))) 2 0) 3 97) rs0 := by
    refine ⟨rfl, fun i v hv => (by cases hv), rfl, fun p hp => ?_⟩
    have := cp_lt hp
    show fl o 1 556 (-1 : Int32) (cp p) = _
    unfold fl
    rw [if_pos (by omega)]
    rfl
  obtain ⟨o', e, r2⟩ := c_rdW hN hF hK hW 8 0 rs0 s [] [] fu _ (by omega) (by rw [fu_eq]; omega) (RI_0 K w) ⟨fun p k hk => (by cases hk), Nat.le_refl 0⟩ r1 hs
  refine ⟨o', ?_, by rw [hg]; exact r2.1, by rw [hg]; exact r2.2.1, by rw [hg]; exact hl⟩
  unfold FX5_tellAll
  rw [if_pos (by omega), lT_eq, lT_eq, lT_eq]
  exact e
end CR
