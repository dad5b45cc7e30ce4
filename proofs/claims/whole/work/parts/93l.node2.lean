/-! which kinds a bracket can be of, and what to ask -/
def nb (x : Int32) (b : Bool) (k : Nat) : Int32 := if b = true then x ||| ((1 : Int32) <<< (jI k &&& 31)) else x
section CB
variable {n : Nat} {M : Nat → Ob} {o : Ob}
theorem c_kind1 {N : Nt} (hG : Good N) {m k0 k s : Nat} (hm : N.1 m = some (k0 + 1)) (hk1 : 1 ≤ k) (hk : k < 4) {M : Nat → Ob} (hR : RGr 60 (M 3) N.1 N.2.1 N.2.2) (hs : oV (M 6) 3 = jI s) (hs6 : s ≤ 6) (hw : ∀ i, i < s → ∃ v : Nat, v < 4 ∧ oA (M 6) 1 i = jI v) : ∃ f M', VK N m k f ∧ (∀ x2 F, LX6_kindsLeft_4 (jI m) (F + 1) x2 (jI k) M = LX6_kindsLeft_4 (jI m) F (nb x2 (agB (M 6) m f s 0) k) (jI ((k + 1 : Nat))) M') ∧ (∀ j, j ≠ 5 → j ≠ 10 → M' j = M j) ∧ (∀ v, v < 4 → oA (M' 10) 0 (4 * k + v) = f v) ∧ ∀ j, ¬ (4 * k ≤ j ∧ j < 4 * k + 4) → oA (M' 10) 0 j = oA (M 10) 0 j := by
  obtain ⟨kk, rfl⟩ : ∃ kk, k = kk + 1 := ⟨k - 1, by omega⟩
  have hbd := RGr_bd hR
  obtain ⟨g1, e1, r1, -⟩ := s_copyFrom (N := 180) (N' := 60) (by omega) (by omega) hG.1 hR (g0 := M 5) (fun j hj => hbd j (by omega))
  obtain ⟨e2, r2⟩ := s_setKind (N := 180) (by omega) r1 hm (k' := kk + 1) (by omega)
  have gd : Good (Nk N m (kk + 1)) := Good_Nk hG hm
  have cn : cnt (Nk N m (kk + 1)).1 180 ≤ 60 := by rw [cnt_Nk hm, cnt_60 hR]; exact cnt_le _ _
  have fin : ∀ (r4 : Int32) (g2 : Ob) (f : Nat → Int32), VK N m (kk + 1) f → FX2_finish 180 (sA g1 0 m (jI ((kk + 1 : Nat)))) = some (r4, g2) → (∀ v : Nat, v < 4 → ∀ M : Nat → Ob, M 5 = g2 → FX6_toldOfEnding r4 (jI v) M = some (f v)) → ∃ f M', VK N m (kk + 1) f ∧ (∀ x2 F, LX6_kindsLeft_4 (jI m) (F + 1) x2 (jI ((kk + 1 : Nat))) M = LX6_kindsLeft_4 (jI m) F (nb x2 (agB (M 6) m f s 0) (kk + 1)) (jI ((kk + 1 + 1 : Nat))) M') ∧ (∀ j, j ≠ 5 → j ≠ 10 → M' j = M j) ∧ (∀ v, v < 4 → oA (M' 10) 0 (4 * (kk + 1) + v) = f v) ∧ ∀ j, ¬ (4 * (kk + 1) ≤ j ∧ j < 4 * (kk + 1) + 4) → oA (M' 10) 0 j = oA (M 10) 0 j := by
    intro r4 g2 f hV hf ht
    let Ma := sM (sM (sM M 5 g1) 5 (sA g1 0 m (jI ((kk + 1 : Nat))))) 5 g2
    obtain ⟨Mb, b1', b2', b3', b4'⟩ := c_put4 (k := kk + 1) (by omega) (jI m) 0 r4 (fun M => some (0, M)) f g2 ht 4 0 fu Ma (by omega) (by rw [fu_eq]; omega) rfl
    have mb : ∀ j, j ≠ 5 → j ≠ 10 → Mb j = M j := fun j h5 h10 => by
      rw [b2' j h10]
      show sM (sM (sM M 5 _) 5 _) 5 _ j = _
      rw [sM_at, if_neg h5, sM_at, if_neg h5, sM_at, if_neg h5]
    have m10 : Ma 10 = M 10 := rfl
    refine ⟨f, Mb, hV, fun x2 F => ?_, mb, fun v hv => b3' v (by omega) hv, fun j hj => by rw [b4' j (by omega), m10]⟩
    have ag := c_agree (x := Mb 6) (ans := Mb 10) (k := kk + 1) (m := m) (by omega) (by rw [mb 6 (by omega) (by omega)]; exact hs) hs6 (by rw [mb 6 (by omega) (by omega)]; exact hw) f (fun v hv => b3' v (by omega) hv) s 0 fu (by omega) (by rw [fu_eq]; omega)
    rw [mb 6 (by omega) (by omega)] at ag
    have ag' : FX4_agree (jI m) (jI ((kk + 1 : Nat))) (M 6) (Mb 10) = some (if agB (M 6) m f s 0 = true then 1 else 0) := ag
    rw [LX6_kindsLeft_4.eq_2, if_neg (by rw [j_3, jI_lt (by omega) (by omega) (by omega) (by omega)]; omega), e1, b1_some, lT_eq, show (sM M 5 g1) 5 = g1 from rfl, e2, b1_some, lT_eq, show (sM (sM M 5 g1) 5 (sA g1 0 m (jI ((kk + 1 : Nat))))) 5 = sA g1 0 m (jI ((kk + 1 : Nat))) from rfl, hf, b2_some, lT_eq]
    obtain ⟨Mc, c1', c2', c3', c4'⟩ := c_put4 (k := kk + 1) (by omega) (jI m) x2 r4 (fun M_23 => b1 (FX4_agree (jI m) (jI ((kk + 1 : Nat))) (M_23 6) (M_23 10)) fun r_24 => if r_24 = 0 then lT (jI ((kk + 1 : Nat) : Int) + (1 : Int32)) fun x3_30 => LX6_kindsLeft_4 (jI m) F x2 x3_30 M_23 else lT (x2 ||| ((1 : Int32) <<< (jI ((kk + 1 : Nat)) &&& 31))) fun x2_26 => lT (jI ((kk + 1 : Nat) : Int) + (1 : Int32)) fun x3_28 => LX6_kindsLeft_4 (jI m) F x2_26 x3_28 M_23) f g2 ht 4 0 fu Ma (by omega) (by rw [fu_eq]; omega) rfl
    have key : ∀ (E : (Nat → Ob) → Option (Int32 × (Nat → Ob))), LX6_kindsLeft_41 (jI m) x2 (jI ((kk + 1 : Nat))) r4 E fu (0 : Int32) Ma = E Mb := fun E => by
      have st : ∀ (v f' : Nat) (Mx : Nat → Ob) (y : Int32) (E : (Nat → Ob) → Option (Int32 × (Nat → Ob))), v < 4 → Mx 5 = g2 → LX6_kindsLeft_41 (jI m) y (jI ((kk + 1 : Nat))) r4 E (f' + 1) (jI v) Mx = LX6_kindsLeft_41 (jI m) y (jI ((kk + 1 : Nat))) r4 E f' (jI ((v + 1 : Nat))) (sM Mx 10 (sA (Mx 10) 0 (4 * (kk + 1) + v) (f v))) := by
        intro v f' Mx y E hv h5
        rw [LX6_kindsLeft_41.eq_2, if_neg (by rw [j_4, jI_le (by omega) (by omega) (by omega) (by omega)]; omega), ht v hv Mx h5, b1_some, c_put (by omega) hv, b1_some, lT_eq, lT_eq, jI_p1]
      have run : ∀ (y : Int32) (E : (Nat → Ob) → Option (Int32 × (Nat → Ob))), LX6_kindsLeft_41 (jI m) y (jI ((kk + 1 : Nat))) r4 E fu (jI ((0 : Nat) : Int)) Ma = E (sM (sM (sM (sM Ma 10 (sA (Ma 10) 0 (4 * (kk + 1) + 0) (f 0))) 10 (sA (sA (Ma 10) 0 (4 * (kk + 1) + 0) (f 0)) 0 (4 * (kk + 1) + 1) (f 1))) 10 (sA (sA (sA (Ma 10) 0 (4 * (kk + 1) + 0) (f 0)) 0 (4 * (kk + 1) + 1) (f 1)) 0 (4 * (kk + 1) + 2) (f 2))) 10 (sA (sA (sA (sA (Ma 10) 0 (4 * (kk + 1) + 0) (f 0)) 0 (4 * (kk + 1) + 1) (f 1)) 0 (4 * (kk + 1) + 2) (f 2)) 0 (4 * (kk + 1) + 3) (f 3))) := by
        intro y E
        rw [show fu = 4995 + 1 + 1 + 1 + 1 + 1 from rfl, st 0 _ _ _ _ (by omega) rfl, st 1 _ _ _ _ (by omega) rfl, st 2 _ _ _ _ (by omega) rfl, st 3 _ _ _ _ (by omega) rfl, LX6_kindsLeft_41.eq_2, if_pos (by rw [j_4, jI_le (by omega) (by omega) (by omega) (by omega)]; omega)]
        rfl
      have h0 := run 0 (fun M => some (0, M))
      rw [b1'] at h0
      have hMb := congrArg Prod.snd (Option.some.inj h0)
      simp only at hMb
      refine (run x2 E).trans ?_
      rw [← hMb]
    refine (key _).trans ?_
    rw [mb 6 (by omega) (by omega), ag', b1_some]
    unfold nb
    by_cases c : agB (M 6) m f s 0 = true
    · rw [if_pos c, if_neg (by decide), if_pos c, lT_eq, lT_eq, jI_p1]
    · rw [if_neg c, if_pos rfl, if_neg c, lT_eq, jI_p1]
  rcases s_finish gd r2 cn with ⟨g2, R, ss, M1, f1, f2, f3, f4, f5, f6⟩ | ⟨g2, f1, f2⟩
  · refine fin 1 g2 (fun v => jI (dnc ss v)) (Or.inl ⟨R, ss, M1, ⟨f2, f3, RGr_bd f4⟩, fun _ _ => rfl⟩) f1 (fun v hv Mx h5 => ?_)
    rw [c_told f4 f5 f6 h5 (by omega)]
    unfold ev
    rw [if_neg (by omega), if_neg (by omega), if_neg (by omega)]
  · refine fin 0 g2 (fun _ => -1) (Or.inr ⟨f2, fun _ _ => rfl⟩) f1 (fun v hv Mx h5 => ?_)
    unfold FX6_toldOfEnding
    rw [if_pos rfl]
theorem m_kind1 {x o : Ob} {k s m : Nat} (hk : k < 4) (hs : oV o 7 = jI s) (hs6 : s ≤ 6) (hrow : ∀ i, i < 6 → oA x 0 i = oA o 8 i ∧ oA x 1 i = oA o 9 i ∧ oA x 2 i = oA o 10 i) (hw : ∀ i, i < s → ∃ v : Nat, v < 4 ∧ oA x 1 i = jI v) (f : Nat → Int32) (hf : ∀ v, v < 4 → oA o 40 (4 * k + v) = f v) (x2 : Int32) (F : Nat) : LX7_kindsBy_4 (jI m) o (F + 1) x2 (jI k) = LX7_kindsBy_4 (jI m) o F (nb x2 (agB x m f s 0) k) (jI ((k + 1 : Nat))) := by
  rw [LX7_kindsBy_4.eq_2, if_neg (by rw [j_4, jI_le (by omega) (by omega) (by omega) (by omega)]; omega)]
  refine (m_agree hk hs hs6 hrow hw f hf x2 _ s 0 fu 1 (by omega) (by rw [fu_eq]; omega) (by omega)).trans ?_
  unfold nb
  by_cases c : agB x m f s 0 = true
  · rw [if_pos (show 1 = 1 ∧ agB x m f s 0 = true from ⟨rfl, c⟩), if_neg (by decide), if_pos c, lT_eq, lT_eq, jI_p1]
  · rw [if_neg (show ¬ (1 = 1 ∧ agB x m f s 0 = true) from fun z => c z.2), if_pos rfl, if_neg c, lT_eq, lT_eq, jI_p1, Int32.or_zero]
def bitsOf (x : Ob) (m s : Nat) (f : Nat → Nat → Int32) : Int32 := nb (nb (nb 0 (agB x m (f 1) s 0) 1) (agB x m (f 2) s 0) 2) (agB x m (f 3) s 0) 3
theorem kinds_both {N N' : Nt} {t hi s s' l : Nat} {cs : Nat → Nat} (h : Bq n M o N N' t hi s s' l cs) {m k0 : Nat} (hm : N.1 m = some (k0 + 1)) : ∃ f M' o', FX6_kindsLeft (jI m) M = some (bitsOf (M 6) m s f, M') ∧ FX7_layMuch (jI m) o = some o' ∧ FX7_kindsBy (jI m) o' = some (bitsOf (M 6) m s f) ∧ Bq n M' o' N N' t hi s s' l cs ∧ (∀ k, 1 ≤ k → k < 4 → ∀ v, v < 4 → oA (M' 10) 0 (4 * k + v) = f k v) ∧ ∀ k, 1 ≤ k → k < 4 → ∀ v, v < 4 → oA o' 40 (4 * k + v) = f k v := by
  have hbd := RGr_bd h.1.2.1
  obtain ⟨bd1, bd2⟩ := NB_bd h.1
  have hm60 : m < 60 := by
    rcases Nat.lt_or_ge m 60 with c | c
    · exact c
    · rw [hbd m c] at hm; cases hm
  obtain ⟨q1, q2, q3, q4, q5⟩ := h.2.2.2.2.2.2.1
  obtain ⟨f1, M1, v1, e1, a1, r1, u1⟩ := c_kind1 h.1.1 hm (k := 1) (by omega) (by omega) h.1.2.1 q2 q1 q5
  obtain ⟨f2, M2, v2, e2, a2, r2, u2⟩ := c_kind1 h.1.1 hm (k := 2) (by omega) (by omega) (M := M1) (by rw [a1 3 (by omega) (by omega)]; exact h.1.2.1) (by rw [a1 6 (by omega) (by omega)]; exact q2) q1 (by rw [a1 6 (by omega) (by omega)]; exact q5)
  obtain ⟨f3, M3, v3, e3, a3, r3, u3⟩ := c_kind1 h.1.1 hm (k := 3) (by omega) (by omega) (M := M2) (by rw [a2 3 (by omega) (by omega), a1 3 (by omega) (by omega)]; exact h.1.2.1) (by rw [a2 6 (by omega) (by omega), a1 6 (by omega) (by omega)]; exact q2) q1 (by rw [a2 6 (by omega) (by omega), a1 6 (by omega) (by omega)]; exact q5)
  rw [a1 6 (by omega) (by omega)] at e2
  rw [a2 6 (by omega) (by omega), a1 6 (by omega) (by omega)] at e3
  let f : Nat → Nat → Int32 := fun k => if k = 1 then f1 else if k = 2 then f2 else f3
  have hV : ∀ k, 1 ≤ k → k < 4 → VK N m k (f k) := fun k h1 h2 => by
    rcases (show k = 1 ∨ k = 2 ∨ k = 3 by omega) with rfl | rfl | rfl
    · exact v1
    · exact v2
    · exact v3
  have was : oA o 0 m = jI ((k0 + 1 : Nat)) := by
    have := h.1.2.2.1.1.1 m (by omega)
    rw [Nat.mul_zero, Nat.zero_add, hm] at this
    exact this
  obtain ⟨o1, t1, t2, t3, t4⟩ := m_much9 h.1.1 h.1.2.2.1 bd2 bd1 hm hm60 f hV (oA o 0 m) (fun o0_27 => if inb (jI (m : Int)) 720 then lT (sA o0_27 0 m (oA o 0 m)) fun o0_30 => some o0_30 else none) 3 1 fu o (by omega) (by rw [fu_eq]; omega) (by omega) (Wm_rf m o) h.2.1 (fun k' h1 h2 => by omega)
  let o2 := sA o1 0 m (oA o 0 m)
  have w2 : Wm m o o2 := Wm_tr t2 (Wm_0 m o1 _)
  have row40 : ∀ k, 1 ≤ k → k < 4 → ∀ v, v < 4 → oA o2 40 (4 * k + v) = f k v := fun k h1 h2 v hv => by
    show oA (sA o1 0 m _) 40 _ = _
    rw [sA_ne _ _ _ (by omega)]; exact t4 k h1 h2 v hv
  have hb2 := Bq_Wm h w2 (by show oA (sA o1 0 m _) 0 m = _; rw [sA_rw, if_pos rfl]) t3
  have cl : Cls M M3 := by
    have all : ∀ j, j ≠ 5 → j ≠ 10 → M3 j = M j := fun j h5 h10 => by rw [a3 j h5 h10, a2 j h5 h10, a1 j h5 h10]
    exact ⟨all 0 (by omega) (by omega), all 1 (by omega) (by omega), all 4 (by omega) (by omega), all 6 (by omega) (by omega), all 7 (by omega) (by omega), by rw [all 3 (by omega) (by omega)]; exact Fl_rf _⟩
  obtain ⟨p1, p2, p3, p4, p5⟩ := hb2.2.2.2.2.2.2.1
  refine ⟨f, M3, o2, ?_, ?_, ?_, Bq_Cls hb2 cl, fun k h1 h2 v hv => ?_, row40⟩
  · unfold FX6_kindsLeft
    rw [show fu = 4996 + 1 + 1 + 1 + 1 from rfl, show (1 : Int32) = jI ((1 : Nat) : Int) from rfl, e1, e2, e3, LX6_kindsLeft_4.eq_2, if_pos (by rw [j_3, jI_lt (by omega) (by omega) (by omega) (by omega)]; omega)]
    rfl
  · unfold FX7_layMuch
    rw [if_pos (by rw [jI_inb (by omega) (by omega)]; omega), lT_eq, jc _ (by omega)]
    refine Eq.trans t1 ?_
    rw [if_pos (by rw [jI_inb (by omega) (by omega)]; omega), lT_eq]
  · unfold FX7_kindsBy
    rw [show fu = 4996 + 1 + 1 + 1 + 1 from rfl, show (1 : Int32) = jI ((1 : Nat) : Int) from rfl, m_kind1 (x := M 6) (by omega) p3 q1 p4 q5 (f 1) (fun v hv => row40 1 (by omega) (by omega) v hv), m_kind1 (x := M 6) (by omega) p3 q1 p4 q5 (f 2) (fun v hv => row40 2 (by omega) (by omega) v hv), m_kind1 (x := M 6) (by omega) p3 q1 p4 q5 (f 3) (fun v hv => row40 3 (by omega) (by omega) v hv), LX7_kindsBy_4.eq_2, if_pos (by rw [j_4, jI_le (by omega) (by omega) (by omega) (by omega)]; omega)]
    rfl
  · rcases (show k = 1 ∨ k = 2 ∨ k = 3 by omega) with rfl | rfl | rfl
    · rw [u3 _ (by omega), u2 _ (by omega)]; exact r1 v hv
    · rw [u3 _ (by omega)]; exact r2 v hv
    · exact r3 v hv
/-- bits -/
def bsl (b1 b2 b3 : Bool) (e : Nat) : Bool := if e = 1 then b1 else if e = 2 then b2 else b3
def bitsB (b1 b2 b3 : Bool) : Int32 := nb (nb (nb 0 b1 1) b2 2) b3 3
theorem bt_iff : ∀ b1 b2 b3 : Bool, ∀ e : Nat, e < 4 → 1 ≤ e → (((bitsB b1 b2 b3 >>> (jI e &&& 31)) &&& (1 : Int32)) = (1 : Int32) ↔ bsl b1 b2 b3 e = true) := by decide +kernel
theorem bt_bothF : ∀ b1 b2 b3 : Bool, ∀ k e : Fin 4, 1 ≤ k.val → 1 ≤ e.val → ((((bitsB b1 b2 b3 >>> (jI k.val &&& 31)) &&& (bitsB b1 b2 b3 >>> (jI e.val &&& 31))) &&& (1 : Int32)) = (1 : Int32) ↔ (bsl b1 b2 b3 k.val = true ∧ bsl b1 b2 b3 e.val = true)) := by decide +kernel
theorem bt_both (b1 b2 b3 : Bool) (k : Nat) (hk : k < 4) (e : Nat) (he : e < 4) (h1 : 1 ≤ k) (h2 : 1 ≤ e) : ((((bitsB b1 b2 b3 >>> (jI k &&& 31)) &&& (bitsB b1 b2 b3 >>> (jI e &&& 31))) &&& (1 : Int32)) = (1 : Int32) ↔ (bsl b1 b2 b3 k = true ∧ bsl b1 b2 b3 e = true)) := bt_bothF b1 b2 b3 ⟨k, hk⟩ ⟨e, he⟩ h1 h2
theorem bt_zero : ∀ b1 b2 b3 : Bool, (bitsB b1 b2 b3 = 0 ↔ (b1 = false ∧ b2 = false ∧ b3 = false)) := by decide +kernel
variable {b1' b2' b3' : Bool} {f : Nat → Nat → Int32} {ans : Ob} {v : Nat}
def lkC (b1 b2 b3 : Bool) (f : Nat → Nat → Int32) (v k e : Nat) : Nat := if f e v = f k v ∧ bsl b1 b2 b3 e = true then 1 else 0
def alC (b1 b2 b3 : Bool) (f : Nat → Nat → Int32) (v k : Nat) : Nat := if bsl b1 b2 b3 k = true then lkC b1 b2 b3 f v k 1 + lkC b1 b2 b3 f v k 2 + lkC b1 b2 b3 f v k 3 else 0
def wsC (b1 b2 b3 : Bool) (f : Nat → Nat → Int32) (v : Nat) : Nat := max (max (max 0 (alC b1 b2 b3 f v 1)) (alC b1 b2 b3 f v 2)) (alC b1 b2 b3 f v 3)
theorem lkC_le (b1 b2 b3 : Bool) (f : Nat → Nat → Int32) (v k e : Nat) : lkC b1 b2 b3 f v k e ≤ 1 := by unfold lkC; split <;> omega
theorem alC_le (b1 b2 b3 : Bool) (f : Nat → Nat → Int32) (v k : Nat) : alC b1 b2 b3 f v k ≤ 3 := by
  have := lkC_le b1 b2 b3 f v k 1
  have := lkC_le b1 b2 b3 f v k 2
  have := lkC_le b1 b2 b3 f v k 3
  unfold alC
  split <;> omega
theorem wsC_le (b1 b2 b3 : Bool) (f : Nat → Nat → Int32) (v : Nat) : wsC b1 b2 b3 f v ≤ 3 := by
  have := alC_le b1 b2 b3 f v 1
  have := alC_le b1 b2 b3 f v 2
  have := alC_le b1 b2 b3 f v 3
  unfold wsC
  omega
theorem c_like1 (hv : v < 4) (hr : ∀ k, 1 ≤ k → k < 4 → oA ans 0 (4 * k + v) = f k v) {k e c F : Nat} (hk1 : 1 ≤ k) (hk : k < 4) (he1 : 1 ≤ e) (he : e < 4) (hc : c < 100) : LX0_kindsLike_6 (jI k) (jI v) (bitsB b1' b2' b3') ans (F + 1) (jI c) (jI e) = LX0_kindsLike_6 (jI k) (jI v) (bitsB b1' b2' b3') ans F (jI ((c + lkC b1' b2' b3' f v k e : Nat))) (jI ((e + 1 : Nat))) := by
  rw [LX0_kindsLike_6.eq_2, if_neg (by rw [j_3, jI_lt (by omega) (by omega) (by omega) (by omega)]; omega), c_ansAt he hv, b1_some, c_ansAt hk hv, b1_some, hr e he1 he, hr k hk1 hk]
  unfold BX0_kindsLike_33 lkC
  have bt := bt_iff b1' b2' b3' e he he1
  by_cases c1 : f e v = f k v
  · rw [if_pos c1, if_neg (by decide)]
    by_cases c2 : bsl b1' b2' b3' e = true
    · rw [if_pos (bt.mpr c2), lT_eq, lT_eq, jI_p1, jI_p1, if_pos ⟨c1, c2⟩]
    · rw [if_neg (fun z => c2 (bt.mp z)), lT_eq, lT_eq, jI_p1, Int32.add_zero, if_neg (fun z => c2 z.2)]
      rfl
  · rw [if_neg c1, if_pos rfl, lT_eq, lT_eq, jI_p1, Int32.add_zero, if_neg (fun z => c1 z.1)]
    rfl
theorem c_most (hv : v < 4) (hr : ∀ k, 1 ≤ k → k < 4 → oA ans 0 (4 * k + v) = f k v) : FX0_mostLeft (jI v) (bitsB b1' b2' b3') ans = some (jI (wsC b1' b2' b3' f v)) := by
  have kl : ∀ k : Nat, 1 ≤ k → k < 4 → FX0_kindsLike (jI k) (jI v) (bitsB b1' b2' b3') ans = some (jI ((lkC b1' b2' b3' f v k 1 + lkC b1' b2' b3' f v k 2 + lkC b1' b2' b3' f v k 3 : Nat))) := fun k h1 h2 => by
    have l1 := lkC_le b1' b2' b3' f v k 1
    have l2 := lkC_le b1' b2' b3' f v k 2
    unfold FX0_kindsLike
    rw [show fu = 4996 + 1 + 1 + 1 + 1 from rfl, show (0 : Int32) = jI ((0 : Nat) : Int) from rfl, show (1 : Int32) = jI ((1 : Nat) : Int) from rfl, c_like1 (e := 1) hv hr h1 h2 (by omega) (by omega) (by omega), c_like1 (e := 2) hv hr h1 h2 (by omega) (by omega) (by omega), c_like1 (e := 3) hv hr h1 h2 (by omega) (by omega) (by omega), LX0_kindsLike_6.eq_2, if_pos (by rw [j_3, jI_lt (by omega) (by omega) (by omega) (by omega)]; omega), Nat.zero_add]
  have st : ∀ (k mx F : Nat), 1 ≤ k → k < 4 → mx < 100 → LX0_mostLeft_5 (jI v) (bitsB b1' b2' b3') ans (F + 1) (jI mx) (jI k) = LX0_mostLeft_5 (jI v) (bitsB b1' b2' b3') ans F (jI ((max mx (alC b1' b2' b3' f v k) : Nat))) (jI ((k + 1 : Nat))) := fun k mx F h1 h2 h3 => by
    have bt := bt_iff b1' b2' b3' k h2 h1
    have la := alC_le b1' b2' b3' f v k
    rw [LX0_mostLeft_5.eq_2, if_neg (by rw [j_3, jI_lt (by omega) (by omega) (by omega) (by omega)]; omega)]
    by_cases c : bsl b1' b2' b3' k = true
    · have ea : alC b1' b2' b3' f v k = lkC b1' b2' b3' f v k 1 + lkC b1' b2' b3' f v k 2 + lkC b1' b2' b3' f v k 3 := by unfold alC; rw [if_pos c]
      rw [if_pos (bt.mpr c), kl k h1 h2, b1_some, lT_eq, lT_eq, jI_p1, ← ea]
      have emx : (if jI (mx : Int) < jI (alC b1' b2' b3' f v k : Int) then jI (alC b1' b2' b3' f v k : Int) else jI (mx : Int)) = jI ((max mx (alC b1' b2' b3' f v k) : Nat)) := by
        by_cases c : mx < alC b1' b2' b3' f v k
        · rw [if_pos (by rw [jI_lt (by omega) (by omega) (by omega) (by omega)]; omega)]; congr 2; omega
        · rw [if_neg (by rw [jI_lt (by omega) (by omega) (by omega) (by omega)]; omega)]; congr 2; omega
      rw [emx]
    · have ea : alC b1' b2' b3' f v k = 0 := by unfold alC; rw [if_neg c]
      rw [if_neg (fun z => c (bt.mp z)), lT_eq, jI_p1, ea]
      congr 3
      omega
  have a1 := alC_le b1' b2' b3' f v 1
  have a2 := alC_le b1' b2' b3' f v 2
  unfold FX0_mostLeft
  rw [show fu = 4996 + 1 + 1 + 1 + 1 from rfl, show (0 : Int32) = jI ((0 : Nat) : Int) from rfl, show (1 : Int32) = jI ((1 : Nat) : Int) from rfl, st 1 0 _ (by omega) (by omega) (by omega), st 2 _ _ (by omega) (by omega) (by omega), st 3 _ _ (by omega) (by omega) (by omega), LX0_mostLeft_5.eq_2, if_pos (by rw [j_3, jI_lt (by omega) (by omega) (by omega) (by omega)]; omega)]
  rfl
theorem m_worst {o : Ob} (hv : v < 4) (hr : ∀ k, 1 ≤ k → k < 4 → oA o 40 (4 * k + v) = f k v) : FX7_worstBy (bitsB b1' b2' b3') (jI v) o = some (jI (wsC b1' b2' b3' f v)) := by
  have ix : ∀ k : Nat, ((4 : Int32) * jI (k : Int)) + jI (v : Int) = jI ((4 * k + v : Nat)) := fun k => by rw [j_4, jI_mul, jI_add]; rfl
  have st17 : ∀ (k e c F : Nat) (x3 : Int32) (E : Int32 → Option Int32), 1 ≤ k → k < 4 → 1 ≤ e → e < 4 → c < 100 → LX7_worstBy_17 (bitsB b1' b2' b3') (jI v) x3 (jI k) o E (F + 1) (jI c) (jI e) = LX7_worstBy_17 (bitsB b1' b2' b3') (jI v) x3 (jI k) o E F (jI ((c + (if bsl b1' b2' b3' k = true then lkC b1' b2' b3' f v k e else 0) : Nat))) (jI ((e + 1 : Nat))) := fun k e c F x3 E h1 h2 h3 h4 h5 => by
    have bt := bt_both b1' b2' b3' k h2 e h4 h1 h3
    rw [LX7_worstBy_17.eq_2, if_neg (by rw [j_4, jI_le (by omega) (by omega) (by omega) (by omega)]; omega)]
    unfold BX7_worstBy_43 lkC
    by_cases ck : bsl b1' b2' b3' k = true
    · rw [if_pos ck]
      by_cases ce : bsl b1' b2' b3' e = true
      · rw [if_pos (bt.mpr ⟨ck, ce⟩), if_neg (by decide), ix, ix, if_pos (by rw [jI_inb (by omega) (by omega)]; omega), if_pos (by rw [jI_inb (by omega) (by omega)]; omega), jc _ (by omega), jc _ (by omega), hr k h1 h2, hr e h3 h4]
        by_cases cq : f k v = f e v
        · rw [if_pos cq, lT_eq, lT_eq, jI_p1, jI_p1, if_pos ⟨cq.symm, ce⟩]
        · rw [if_neg cq, lT_eq, lT_eq, jI_p1, Int32.add_zero, if_neg (fun z => cq z.1.symm)]
          rfl
      · rw [if_neg (fun z => ce (bt.mp z).2), if_pos rfl, lT_eq, lT_eq, jI_p1, Int32.add_zero, if_neg (fun z => ce z.2)]
        rfl
    · rw [if_neg (fun z => ck (bt.mp z).1), if_pos rfl, lT_eq, lT_eq, jI_p1, Int32.add_zero, if_neg ck]
      rfl
  have st : ∀ (k mx F : Nat), 1 ≤ k → k < 4 → mx < 100 → LX7_worstBy_5 (bitsB b1' b2' b3') (jI v) o (F + 1) (jI mx) (jI k) = LX7_worstBy_5 (bitsB b1' b2' b3') (jI v) o F (jI ((max mx (alC b1' b2' b3' f v k) : Nat))) (jI ((k + 1 : Nat))) := fun k mx F h1 h2 h3 => by
    have la := alC_le b1' b2' b3' f v k
    have l1 := lkC_le b1' b2' b3' f v k 1
    have l2 := lkC_le b1' b2' b3' f v k 2
    have q1 : (if bsl b1' b2' b3' k = true then lkC b1' b2' b3' f v k 1 else 0) ≤ 1 := by split <;> omega
    have q2 : (if bsl b1' b2' b3' k = true then lkC b1' b2' b3' f v k 2 else 0) ≤ 1 := by split <;> omega
    have ea : 0 + (if bsl b1' b2' b3' k = true then lkC b1' b2' b3' f v k 1 else 0) + (if bsl b1' b2' b3' k = true then lkC b1' b2' b3' f v k 2 else 0) + (if bsl b1' b2' b3' k = true then lkC b1' b2' b3' f v k 3 else 0) = alC b1' b2' b3' f v k := by
      unfold alC
      by_cases c : bsl b1' b2' b3' k = true
      · rw [if_pos c, if_pos c, if_pos c, if_pos c, Nat.zero_add]
      · rw [if_neg c, if_neg c, if_neg c, if_neg c]
    rw [LX7_worstBy_5.eq_2, if_neg (by rw [j_4, jI_le (by omega) (by omega) (by omega) (by omega)]; omega), show fu = 4996 + 1 + 1 + 1 + 1 from rfl, show (0 : Int32) = jI ((0 : Nat) : Int) from rfl, show (1 : Int32) = jI ((1 : Nat) : Int) from rfl, st17 k 1 0 _ _ _ h1 h2 (by omega) (by omega) (by omega), st17 k 2 _ _ _ _ h1 h2 (by omega) (by omega) (by omega), st17 k 3 _ _ _ _ h1 h2 (by omega) (by omega) (by omega), ea, LX7_worstBy_17.eq_2, if_pos (by rw [j_4, jI_le (by omega) (by omega) (by omega) (by omega)]; omega)]
    by_cases c : alC b1' b2' b3' f v k ≤ mx
    · rw [if_pos (by rw [jI_le (by omega) (by omega) (by omega) (by omega)]; omega), lT_eq, jI_add, show max mx (alC b1' b2' b3' f v k) = mx by omega]
      rfl
    · rw [if_neg (by rw [jI_le (by omega) (by omega) (by omega) (by omega)]; omega), lT_eq, jI_add, show max mx (alC b1' b2' b3' f v k) = alC b1' b2' b3' f v k by omega]
      rfl
  have a1 := alC_le b1' b2' b3' f v 1
  have a2 := alC_le b1' b2' b3' f v 2
  unfold FX7_worstBy
  rw [show fu = 4996 + 1 + 1 + 1 + 1 from rfl, show (0 : Int32) = jI ((0 : Nat) : Int) from rfl, show (1 : Int32) = jI ((1 : Nat) : Int) from rfl, st 1 0 _ (by omega) (by omega) (by omega), st 2 _ _ (by omega) (by omega) (by omega), st 3 _ _ (by omega) (by omega) (by omega), LX7_worstBy_5.eq_2, if_pos (by rw [j_4, jI_le (by omega) (by omega) (by omega) (by omega)]; omega)]
  rfl
/-- the best of the first so many -/
def bst (w : Nat → Nat) : Nat → Nat
  | 0 => 0
  | v + 1 => if w (bst w v) ≤ w (v + 1) then bst w v else v + 1
theorem bst_le (w : Nat → Nat) : ∀ v, bst w v ≤ v := by
  intro v
  induction v with
  | zero => exact Nat.le_refl 0
  | succ v ih =>
    show (if w (bst w v) ≤ w (v + 1) then bst w v else v + 1) ≤ v + 1
    by_cases c : w (bst w v) ≤ w (v + 1)
    · rw [if_pos c]; omega
    · rw [if_neg c]; exact Nat.le_refl _
theorem c_best (hr : ∀ k, 1 ≤ k → k < 4 → ∀ v, v < 4 → oA ans 0 (4 * k + v) = f k v) (hz : ¬ bitsB b1' b2' b3' = 0) : FX0_bestQuestion (bitsB b1' b2' b3') ans = some (jI (bst (wsC b1' b2' b3' f) 3)) := by
  have ms : ∀ v : Nat, v < 4 → FX0_mostLeft (jI v) (bitsB b1' b2' b3') ans = some (jI (wsC b1' b2' b3' f v)) := fun v hv => c_most hv (fun k h1 h2 => hr k h1 h2 v hv)
  have st : ∀ (v F : Nat), v < 3 → LX0_bestQuestion_10 (bitsB b1' b2' b3') ans (F + 1) (jI (bst (wsC b1' b2' b3' f) v)) (jI ((v + 1 : Nat))) = LX0_bestQuestion_10 (bitsB b1' b2' b3') ans F (jI (bst (wsC b1' b2' b3' f) (v + 1))) (jI ((v + 1 + 1 : Nat))) := fun v F hv => by
    have hb := bst_le (wsC b1' b2' b3' f) v
    have w1 := wsC_le b1' b2' b3' f (v + 1)
    have w2 := wsC_le b1' b2' b3' f (bst (wsC b1' b2' b3' f) v)
    rw [LX0_bestQuestion_10.eq_2, if_neg (by rw [j_4, jI_le (by omega) (by omega) (by omega) (by omega)]; omega), ms (v + 1) (by omega), b1_some, ms _ (by omega), b1_some, lT_eq, lT_eq, jI_p1, show bst (wsC b1' b2' b3' f) (v + 1) = if wsC b1' b2' b3' f (bst (wsC b1' b2' b3' f) v) ≤ wsC b1' b2' b3' f (v + 1) then bst (wsC b1' b2' b3' f) v else v + 1 from rfl]
    by_cases c : wsC b1' b2' b3' f (bst (wsC b1' b2' b3' f) v) ≤ wsC b1' b2' b3' f (v + 1)
    · rw [if_pos (by rw [jI_le (by omega) (by omega) (by omega) (by omega)]; omega), if_pos c]
    · rw [if_neg (by rw [jI_le (by omega) (by omega) (by omega) (by omega)]; omega), if_neg c]
  unfold FX0_bestQuestion
  rw [if_neg hz, show fu = 4996 + 1 + 1 + 1 + 1 from rfl]
  have s3 : LX0_bestQuestion_10 (bitsB b1' b2' b3') ans (4996 + 1) (jI (bst (wsC b1' b2' b3' f) (2 + 1))) (jI ((2 + 1 + 1 : Nat))) = some (jI (bst (wsC b1' b2' b3' f) 3)) := by
    rw [LX0_bestQuestion_10.eq_2, if_pos (by decide)]
  exact (st 0 (4996 + 1 + 1 + 1) (by omega)).trans ((st 1 (4996 + 1 + 1) (by omega)).trans ((st 2 (4996 + 1) (by omega)).trans s3))
theorem m_ask {o : Ob} (hr : ∀ k, 1 ≤ k → k < 4 → ∀ v, v < 4 → oA o 40 (4 * k + v) = f k v) (hz : ¬ bitsB b1' b2' b3' = 0) : LX7_askOf_21 (bitsB b1' b2' b3') o fu (-1 : Int32) (268435456 : Int32) (0 : Int32) = some (jI (bst (wsC b1' b2' b3' f) 3), o) := by
  have ms : ∀ v : Nat, v < 4 → FX7_worstBy (bitsB b1' b2' b3') (jI v) o = some (jI (wsC b1' b2' b3' f v)) := fun v hv => m_worst hv (fun k h1 h2 => hr k h1 h2 v hv)
  have st : ∀ (v F : Nat), v < 3 → LX7_askOf_21 (bitsB b1' b2' b3') o (F + 1) (jI (bst (wsC b1' b2' b3' f) v)) (jI (wsC b1' b2' b3' f (bst (wsC b1' b2' b3' f) v))) (jI ((v + 1 : Nat))) = LX7_askOf_21 (bitsB b1' b2' b3') o F (jI (bst (wsC b1' b2' b3' f) (v + 1))) (jI (wsC b1' b2' b3' f (bst (wsC b1' b2' b3' f) (v + 1)))) (jI ((v + 1 + 1 : Nat))) := fun v F hv => by
    have w1 := wsC_le b1' b2' b3' f (v + 1)
    have w2 := wsC_le b1' b2' b3' f (bst (wsC b1' b2' b3' f) v)
    rw [LX7_askOf_21.eq_2, if_neg (by rw [j_4, jI_le (by omega) (by omega) (by omega) (by omega)]; omega), if_neg hz, ms (v + 1) (by omega), b1_some, show bst (wsC b1' b2' b3' f) (v + 1) = if wsC b1' b2' b3' f (bst (wsC b1' b2' b3' f) v) ≤ wsC b1' b2' b3' f (v + 1) then bst (wsC b1' b2' b3' f) v else v + 1 from rfl]
    simp only [lT_eq, jI_p1]
    by_cases c : wsC b1' b2' b3' f (bst (wsC b1' b2' b3' f) v) ≤ wsC b1' b2' b3' f (v + 1)
    · have cj : jI (wsC b1' b2' b3' f (bst (wsC b1' b2' b3' f) v) : Int) ≤ jI (wsC b1' b2' b3' f (v + 1) : Int) := by rw [jI_le (by omega) (by omega) (by omega) (by omega)]; omega
      simp only [if_pos cj, if_pos c]
    · have cj : ¬ jI (wsC b1' b2' b3' f (bst (wsC b1' b2' b3' f) v) : Int) ≤ jI (wsC b1' b2' b3' f (v + 1) : Int) := by rw [jI_le (by omega) (by omega) (by omega) (by omega)]; omega
      simp only [if_neg cj, if_neg c]
  have w0 := wsC_le b1' b2' b3' f 0
  have cj : ¬ (268435456 : Int32) ≤ jI (wsC b1' b2' b3' f 0 : Int) := by rw [show (268435456 : Int32) = jI 268435456 from rfl, jI_le (by omega) (by omega) (by omega) (by omega)]; omega
  have s0 : LX7_askOf_21 (bitsB b1' b2' b3') o (4995 + 1 + 1 + 1 + 1 + 1) (-1 : Int32) (268435456 : Int32) (jI ((0 : Nat) : Int)) = LX7_askOf_21 (bitsB b1' b2' b3') o (4995 + 1 + 1 + 1 + 1) (jI (bst (wsC b1' b2' b3' f) 0)) (jI (wsC b1' b2' b3' f (bst (wsC b1' b2' b3' f) 0))) (jI ((0 + 1 : Nat))) := by
    rw [LX7_askOf_21.eq_2, if_neg (by decide), if_neg hz, ms 0 (by omega), b1_some]
    simp only [lT_eq, jI_p1, if_neg cj]
    rfl
  have s3 : LX7_askOf_21 (bitsB b1' b2' b3') o (4995 + 1) (jI (bst (wsC b1' b2' b3' f) (2 + 1))) (jI (wsC b1' b2' b3' f (bst (wsC b1' b2' b3' f) (2 + 1)))) (jI ((2 + 1 + 1 : Nat))) = some (jI (bst (wsC b1' b2' b3' f) 3), o) := by
    rw [LX7_askOf_21.eq_2, if_pos (by decide)]
  exact s0.trans ((st 0 (4995 + 1 + 1 + 1) (by omega)).trans ((st 1 (4995 + 1 + 1) (by omega)).trans ((st 2 (4995 + 1) (by omega)).trans s3)))
theorem ok_node (hb : Bd n M o) (x1 x2 : Int32) : ∃ (r : Int32) (M' : Nat → Ob) (o' : Ob), FX6_node x1 x2 M = some (r, M') ∧ FX7_node x1 x2 o = some (r, o') ∧ Bd (n + 1) M' o' := by
  obtain ⟨N, N', t, hi, s, s', l, cs, h⟩ := hb
  obtain ⟨a, rfl, a1, a2⟩ := int_jI x1
  obtain ⟨b, rfl, c1', c2'⟩ := int_jI x2
  have hs := sV_self h.2.1
  rcases who h.1.2.1 (Bq_MS h) a1 a2 with ⟨m, k, rfl, hk, hm, k3, e1, e2, e3, -⟩ | ⟨e1, e2, -⟩
  · have wi : FX7_within (jI b) (0 : Int32) (6 : Int32) = some (if 0 ≤ b ∧ b ≤ 6 then 1 else 0) := within_jI (lo := 0) (hi := 6) c1' c2' (by omega) (by omega) (by omega) (by omega)
    by_cases c : 0 ≤ b ∧ b ≤ 6
    · rw [if_pos c] at wi
      obtain ⟨v, rfl⟩ := Int.eq_ofNat_of_zero_le c.1
      have cls0 : FX6_node (jI (m : Int)) (jI (v : Int)) M = if 4 < v then (if k = 0 then some ((-1 : Int32), M) else b2 (FX6_kindsLeft (jI m) M) fun r_5 M_6 => if jI (v : Int) = (5 : Int32) then some (r_5, M_6) else b1 (FX0_bestQuestion r_5 (M_6 10)) fun r_8 => some (r_8, M_6)) else b1 (FX6_toldOfNode (jI m) (jI v) M) fun r_3 => some (r_3, M) := by
        unfold FX6_node
        rw [e1, b1_some, if_neg (by rw [j_m1, jI_eq (by omega) (by omega) (by omega) (by omega)]; omega), if_neg (by rw [j_0, jI_lt (by omega) (by omega) (by omega) (by omega)]; omega), if_pos (by rw [j_6, jI_le (by omega) (by omega) (by omega) (by omega)]; omega)]
        by_cases c4 : 4 < v
        · rw [if_pos (by rw [j_4, jI_lt (by omega) (by omega) (by omega) (by omega)]; omega), if_pos c4]
          by_cases k0 : k = 0
          · rw [if_pos (by rw [k0]; rfl), if_pos k0]
          · rw [if_neg (by rw [j_0, jI_eq (by omega) (by omega) (by omega) (by omega)]; omega), if_neg k0]
        · rw [if_neg (by rw [j_4, jI_lt (by omega) (by omega) (by omega) (by omega)]; omega), if_neg c4]
      have ref0 : FX7_node (jI (m : Int)) (jI (v : Int)) o = b2 (FX7_nodeNow (jI m) (jI v) o) fun r_7 o0_8 => some (r_7, o0_8) := by
        unfold FX7_node
        rw [lT_eq, hs, e2, b1_some, if_neg (by decide), wi, b1_some, if_neg (by decide)]
      by_cases c4 : 4 < v
      · rw [if_pos c4] at cls0
        have nn : FX7_nodeNow (jI (m : Int)) (jI (v : Int)) o = if k = 0 then some ((-1 : Int32), o) else if v = 5 then b2 (FX7_kindsOf (jI m) o) (fun r_15 o0_16 => some (r_15, o0_16)) else b2 (FX7_askOf (jI m) o) fun r_3 o0_4 => some (r_3, o0_4) := by
          unfold FX7_nodeNow
          rw [if_neg (by rw [j_0, jI_eq (by omega) (by omega) (by omega) (by omega)]; omega), if_neg (by rw [j_1, jI_eq (by omega) (by omega) (by omega) (by omega)]; omega), if_neg (by rw [j_2, jI_eq (by omega) (by omega) (by omega) (by omega)]; omega), if_neg (by rw [j_3, jI_eq (by omega) (by omega) (by omega) (by omega)]; omega), if_neg (by rw [j_4, jI_eq (by omega) (by omega) (by omega) (by omega)]; omega), e3]
          by_cases k0 : k = 0
          · rw [if_pos k0]
            by_cases c5 : v = 5
            · rw [if_pos (by rw [c5]; rfl), b1_some, if_pos (by rw [k0]; rfl)]
            · rw [if_neg (by rw [j_5, jI_eq (by omega) (by omega) (by omega) (by omega)]; omega), b1_some, if_pos (by rw [k0]; rfl)]
          · rw [if_neg k0]
            by_cases c5 : v = 5
            · rw [if_pos (by rw [c5]; rfl), b1_some, if_neg (by rw [j_0, jI_eq (by omega) (by omega) (by omega) (by omega)]; omega), if_pos c5]
            · rw [if_neg (by rw [j_5, jI_eq (by omega) (by omega) (by omega) (by omega)]; omega), b1_some, if_neg (by rw [j_0, jI_eq (by omega) (by omega) (by omega) (by omega)]; omega), if_neg c5]
        rw [nn] at ref0
        by_cases k0 : k = 0
        · rw [if_pos k0] at cls0 ref0
          rw [b2_some] at ref0
          exact ⟨_, _, _, cls0, ref0, Bq_up h⟩
        · rw [if_neg k0] at cls0 ref0
          obtain ⟨k', rfl⟩ : ∃ k', k = k' + 1 := ⟨k - 1, by omega⟩
          obtain ⟨f, M', o', p1, p2, p3, p4, p5, p6⟩ := kinds_both h hk
          rw [p1, b2_some] at cls0
          by_cases c5 : v = 5
          · rw [if_pos (by rw [c5]; rfl)] at cls0
            rw [if_pos c5] at ref0
            unfold FX7_kindsOf at ref0
            rw [p2, b1_some, p3, b1_some, b2_some, b2_some] at ref0
            exact ⟨_, _, _, cls0, ref0, Bq_up p4⟩
          · rw [if_neg (by rw [j_5, jI_eq (by omega) (by omega) (by omega) (by omega)]; omega)] at cls0
            rw [if_neg c5] at ref0
            unfold FX7_askOf at ref0
            rw [p2, b1_some, p3, b1_some] at ref0
            have hB : bitsOf (M 6) m s f = bitsB (agB (M 6) m (f 1) s 0) (agB (M 6) m (f 2) s 0) (agB (M 6) m (f 3) s 0) := rfl
            rw [hB] at cls0 ref0
            by_cases cz : bitsB (agB (M 6) m (f 1) s 0) (agB (M 6) m (f 2) s 0) (agB (M 6) m (f 3) s 0) = 0
            · unfold FX0_bestQuestion at cls0
              rw [if_pos cz, b1_some] at cls0
              rw [show fu = 4999 + 1 from rfl, LX7_askOf_21.eq_2, if_neg (by decide), if_pos cz, b2_some, b2_some] at ref0
              exact ⟨_, _, _, cls0, ref0, Bq_up p4⟩
            · rw [c_best p5 cz, b1_some] at cls0
              rw [m_ask p6 cz, b2_some, b2_some] at ref0
              exact ⟨_, _, _, cls0, ref0, Bq_up p4⟩
      · rw [if_neg c4] at cls0
        obtain ⟨r, q1, q2⟩ := node_told h hk (v := v) (by omega)
        rw [q1, b1_some] at cls0
        rw [q2, b2_some] at ref0
        exact ⟨_, _, _, cls0, ref0, Bq_up h⟩
    · rw [if_neg c] at wi
      refine ⟨-102, M, o, ?_, ?_, Bq_up h⟩
      · unfold FX6_node
        rw [e1, b1_some, if_neg (by rw [j_m1, jI_eq (by omega) (by omega) (by omega) (by omega)]; omega)]
        by_cases c1 : b < 0
        · rw [if_pos (by rw [j_0, jI_lt (by omega) (by omega) (by omega) (by omega)]; omega)]
        · rw [if_neg (by rw [j_0, jI_lt (by omega) (by omega) (by omega) (by omega)]; omega), if_neg (by rw [j_6, jI_le (by omega) (by omega) (by omega) (by omega)]; omega)]
      · unfold FX7_node
        rw [lT_eq, hs, e2, b1_some, if_neg (by decide), wi, b1_some, if_pos rfl]
  · refine ⟨-101, M, o, ?_, ?_, Bq_up h⟩
    · unfold FX6_node
      rw [e1, b1_some, if_pos rfl]
    · unfold FX7_node
      rw [lT_eq, hs, e2, b1_some, if_pos rfl]
end CB
