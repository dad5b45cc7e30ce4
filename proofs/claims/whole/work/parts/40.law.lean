/-- THE PURE CLAIM: a bond between the states of the two, held by every call, and each call answers alike -/
def StepOk (I : Nat → (Nat → Ob) → Ob → Prop) : Prop := ∀ (n : Nat) (M : Nat → Ob) (o : Ob), n < 64 → I n M o →
  (∀ x1 : Int32, ∃ (r : Int32) (M' : Nat → Ob) (o' : Ob), FX6_letter x1 M = some (r, M') ∧ FX7_letter x1 o = some (r, o') ∧ I (n + 1) M' o') ∧
  (∃ (r : Int32) (M' : Nat → Ob) (o' : Ob), FX6_blank M = some (r, M') ∧ FX7_blank o = some (r, o') ∧ I (n + 1) M' o') ∧
  (∃ (r : Int32) (M' : Nat → Ob) (o' : Ob), FX6_fault M = some (r, M') ∧ FX7_fault o = some (r, o') ∧ I (n + 1) M' o') ∧
  (∃ (r : Int32) (M' : Nat → Ob) (o' : Ob), FX6_net M = some (r, M') ∧ FX7_net o = some (r, o') ∧ I (n + 1) M' o') ∧
  (∀ x1 x2 : Int32, ∃ (r : Int32) (M' : Nat → Ob) (o' : Ob), FX6_node x1 x2 M = some (r, M') ∧ FX7_node x1 x2 o = some (r, o') ∧ I (n + 1) M' o') ∧
  (∀ x1 x2 : Int32, ∃ (r : Int32) (o' : Ob), FX6_as x1 x2 M = some r ∧ FX7_as x1 x2 o = some (r, o') ∧ I (n + 1) M o') ∧
  (∀ x1 : Int32, ∃ (r : Int32) (o' : Ob), FX6_open x1 M = some r ∧ FX7_open x1 o = some (r, o') ∧ I (n + 1) M o') ∧
  (∀ x1 : Int32, ∃ (r : Int32) (M' : Nat → Ob) (o' : Ob), FX6_meetings x1 M = some (r, M') ∧ FX7_meetings x1 o = some (r, o') ∧ I (n + 1) M' o') ∧
  (∀ x1 : Int32, ∃ (r : Int32) (M' : Nat → Ob) (o' : Ob), FX6_meet x1 M = some (r, M') ∧ FX7_meet x1 o = some (r, o') ∧ I (n + 1) M' o') ∧
  (∀ x1 : Int32, ∃ (r : Int32) (M' : Nat → Ob) (o' : Ob), FX6_run x1 M = some (r, M') ∧ FX7_run x1 o = some (r, o') ∧ I (n + 1) M' o') ∧
  (∀ x1 x2 : Int32, ∃ (r : Int32) (M' : Nat → Ob) (o' : Ob), FX6_join x1 x2 M = some (r, M') ∧ FX7_join x1 x2 o = some (r, o') ∧ I (n + 1) M' o') ∧
  (∀ x1 : Int32, ∃ (r : Int32) (M' : Nat → Ob) (o' : Ob), FX6_stop x1 M = some (r, M') ∧ FX7_stop x1 o = some (r, o') ∧ I (n + 1) M' o') ∧
  (∀ x1 x2 : Int32, ∃ (r : Int32) (M' : Nat → Ob) (o' : Ob), FX6_change x1 x2 M = some (r, M') ∧ FX7_change x1 x2 o = some (r, o') ∧ I (n + 1) M' o') ∧
  (∀ x1 : Int32, ∃ (r : Int32) (M' : Nat → Ob) (o' : Ob), FX6_flip x1 M = some (r, M') ∧ FX7_flip x1 o = some (r, o') ∧ I (n + 1) M' o') ∧
  (∀ x1 : Int32, ∃ (r : Int32) (M' : Nat → Ob) (o' : Ob), FX6_ending x1 M = some (r, M') ∧ FX7_ending x1 o = some (r, o') ∧ I (n + 1) M' o') ∧
  (∀ x1 : Int32, ∃ (r : Int32) (M' : Nat → Ob) (o' : Ob), FX6_reading x1 M = some (r, M') ∧ FX7_reading x1 o = some (r, o') ∧ I (n + 1) M' o') ∧
  (∀ x1 : Int32, ∃ (r : Int32) (M' : Nat → Ob) (o' : Ob), FX6_endReading x1 M = some (r, M') ∧ FX7_endReading x1 o = some (r, o') ∧ I (n + 1) M' o') ∧
  (∃ (r : Int32) (M' : Nat → Ob) (o' : Ob), FX6_same M = some (r, M') ∧ FX7_same o = some (r, o') ∧ I (n + 1) M' o') ∧
  (∀ x1 x2 x3 : Int32, ∃ (r : Int32) (M' : Nat → Ob) (o' : Ob), FX6_see x1 x2 x3 M = some (r, M') ∧ FX7_see x1 x2 x3 o = some (r, o') ∧ I (n + 1) M' o') ∧
  (∃ (r : Int32) (M' : Nat → Ob) (o' : Ob), FX6_forget M = some (r, M') ∧ FX7_forget o = some (r, o') ∧ I (n + 1) M' o') ∧
  (∀ x1 x2 x3 : Int32, ∃ (r : Int32) (M' : Nat → Ob) (o' : Ob), FX6_runs x1 x2 x3 M = some (r, M') ∧ FX7_runs x1 x2 x3 o = some (r, o') ∧ I (n + 1) M' o') ∧
  (∃ (r : Int32) (M' : Nat → Ob) (o' : Ob), FX6_image M = some (r, M') ∧ FX7_image o = some (r, o') ∧ I (n + 1) M' o') ∧
  (∃ (r : Int32) (M' : Nat → Ob) (o' : Ob), FX6_restore M = some (r, M') ∧ FX7_restore o = some (r, o') ∧ I (n + 1) M' o') ∧
  (∀ x1 : Int32, ∃ (r : Int32) (M' : Nat → Ob) (o' : Ob), FX6_count x1 M = some (r, M') ∧ FX7_count x1 o = some (r, o') ∧ I (n + 1) M' o') ∧
  (∃ (r : Int64) (M' : Nat → Ob) (o' : Ob), FX6_digest M = some (r, M') ∧ FX7_digest o = some (r, o') ∧ I (n + 1) M' o')
def PureOk : Prop := ∃ I : Nat → (Nat → Ob) → Ob → Prop, (∃ o : Ob, FX7_init zOb = some o ∧ I 0 M0 o) ∧ (∀ n M o, I n M o → I (n + 1) M o) ∧ StepOk I
def LawOk (X : Cxt) (b L : Nat) (xs : Nat → Int32) : Prop := match X with
  | (_, _, R, s, _, args, below, meth, _, A, _, Q) => R = room_1 ∧ args = #[Value.ref b] ∧ va_X b L xs s s.heap ∧ b < s.heap.size ∧ ¬ A b ∧ (∀ q, A q → s.heap.size ≤ q) ∧ Q = lw_Z below #[Value.ref b] s ∧ meth.sig.returnType = ret ∧ meth.locks = false
section JL
variable {g : Gl} {X : Cxt} {cc : ByteArray} {own : String} {Ts : List Cond} {nn fr lc : Nat} {os : List Od} {pc nc ns : Nat} {lv : List (Nat × Value)} {st : List Value} {b L : Nat} {xs : Nat → Int32}
theorem j_astore_n (C : CxOk g X cc own Ts nn fr lc) {kf : Fin 4} {i x : Nat} (lv' : List (Nat × Value)) (hd : decode cc pc = .ok (.astore_n kf, 1)) (hi : (kf : Nat) = i) (hn : i < nn) (hq : (i, Value.ref x) :: lv.filter (fun q => !(q.1 == i) && !(q.1 + 1 == i && q.2.category == 2)) = lv') (k : JC g X nc ns os (pc + 1) lv' st) : JC g X nc ns os pc lv (.ref x :: st) := by
  obtain ⟨p, e, R, s, m, args, below, meth, c, A, nL, Q⟩ := X
  obtain ⟨hx, hb, hml, hown, hts, hK, hnn, hfr, hlc, hSK⟩ := C
  intro H locs ls hW hAp hF hL hl hnc hns
  subst hnn
  exact lv_astore_n hx hb hd hi hl hn hq (fun ls' hl' => k H locs ls' hW hAp hF hL hl' hnc hns)
theorem j_lcmp (C : CxOk g X cc own Ts nn fr lc) {x y : Int64} (hd : decode cc pc = .ok (.lcmp, 1)) (hxy : x = y) (k : JC g X nc ns os (pc + 1) lv (.int 0 :: st)) : JC g X nc ns os pc lv (.long y :: .long x :: st) := by
  obtain ⟨p, e, R, s, m, args, below, meth, c, A, nL, Q⟩ := X
  obtain ⟨hx, hb, hml, hown, hts, hK, hnn, hfr, hlc, hSK⟩ := C
  intro H locs ls hW hAp hF hL hl hnc hns
  subst hxy
  refine W.lcmp hx hb hd ?_
  have e0 : lg_cmp x x = 0 := by
    unfold lg_cmp
    simp
  rw [e0]
  exact k H locs ls hW hAp hF hL hl hnc hns
theorem j_sld (C : CxOk g X cc own Ts nn fr lc) (K : LawOk X b L xs) {i : Int32} (hin : vp_in i L) (hd : decode cc pc = .ok (.iaload, 1)) (k : JC g X nc ns os (pc + 1) lv (.int (xs i.toNatClampNeg) :: st)) : JC g X nc ns os pc lv (.int i :: .ref b :: st) := by
  obtain ⟨p, e, R, s, m, args, below, meth, c, A, nL, Q⟩ := X
  obtain ⟨hx, hb, hml, hown, hts, hK, hnn, hfr, hlc, hSK⟩ := C
  obtain ⟨-, rfl, hX, hbl, hbA, -⟩ := K
  intro H locs ls hW hAp hF hL hl hnc hns
  exact va_sld hx hb hX hbl hbA (hSof hF hL) hin hd (k H locs ls hW hAp hF hL hl hnc hns)
theorem j_slenL (C : CxOk g X cc own Ts nn fr lc) (K : LawOk X b L xs) (hd : decode cc pc = .ok (.arraylength, 1)) (k : JC g X nc ns os (pc + 1) lv (.int (nI L) :: st)) : JC g X nc ns os pc lv (.ref b :: st) := by
  obtain ⟨p, e, R, s, m, args, below, meth, c, A, nL, Q⟩ := X
  obtain ⟨hx, hb, hml, hown, hts, hK, hnn, hfr, hlc, hSK⟩ := C
  obtain ⟨-, rfl, hX, hbl, hbA, -⟩ := K
  intro H locs ls hW hAp hF hL hl hnc hns
  exact va_slen hx hb hX hbl hbA (hSof hF hL) hd (k H locs ls hW hAp hF hL hl hnc hns)
theorem j_lawret (C : CxOk g X code own Ts nn fr lc) (K : LawOk X b L xs) (hd : decode code pc = .ok (.ireturn, 1)) : JC g X nc ns os pc lv [.int 1] := by
  obtain ⟨p, e, R, s, m, args, below, meth, c, A, nL, Q⟩ := X
  obtain ⟨hx, hb, hml, hown, hts, hK, hnn, hfr, hlc, hSK⟩ := C
  obtain ⟨rfl, rfl, hX, hbl, hbA, hAs, rfl, hr, hlk⟩ := K
  intro H locs ls hW hAp hF hL hl hnc hns
  refine va_forget (fun q hq => hAs _ (hL q hq)) ?_
  refine W.widen (k := 600000) (n := 7302250) hnc hns ?_
  exact lw_ret hx hb hr hlk hd
end JL
theorem law_exit {L i : Nat} (hL : L ≤ 256) (hi : i ≤ 300) (h : ¬ nI L - 4 < nI i) : i + 4 ≤ L := by
  have h1 : (nI L - nI 4).toInt = (L : Int) - 4 := pk_sub_toInt (by omega) (by omega)
  have h2 : (nI i).toInt = (i : Int) := nI_toInt (by omega)
  have h3 : ¬ (nI L - nI 4).toInt < (nI i).toInt := fun z => h (Int32.lt_iff_toInt_lt.mpr z)
  rw [h1, h2] at h3
  omega

set_option maxRecDepth 100000 in
set_option maxHeartbeats 4000000 in
theorem law_letter {g : Gl} {X : Cxt} (C : CxOk g X code RL (Cond.classLink RL 7 RX6 :: wsL_law) 4 13 500) {b L : Nat} {xs : Nat → Int32} (K : LawOk X b L xs) {I : Nat → (Nat → Ob) → Ob → Prop} {hh : Nat → Nat → Nat} {hm : Nat → Nat} {n i nc ns : Nat} {M : Nat → Ob} {o : Ob} (hi4 : i + 4 ≤ L) (hL : L ≤ 256) (hS : ∀ x1 : Int32, ∃ (r : Int32) (M' : Nat → Ob) (o' : Ob), FX6_letter x1 M = some (r, M') ∧ FX7_letter x1 o = some (r, o') ∧ I (n + 1) M' o') (kk : ∀ (M' : Nat → Ob) (o' : Ob), I (n + 1) M' o' → JC g X nc ns (osX6 hh M' ++ [(shX7, hm, o')]) 724 [(0, .ref b), (1, .ref (hh 0 0)), (2, .ref (hm 0)), (3, .int (nI i))] []) : JC g X nc ns (osX6 hh M ++ [(shX7, hm, o)]) 148 [(0, .ref b), (1, .ref (hh 0 0)), (2, .ref (hm 0)), (3, .int (nI i))] [] := by
  refine j_aload_n C 1 dL_law_148 rfl rfl ?_
  refine j_aload_n C 0 dL_law_149 rfl rfl ?_
  refine j_iload_n C 3 dL_law_150 rfl rfl ?_
  refine j_iconst (v := (1 : Int32)) C dL_law_151 rfl ?_
  refine j_iadd C dL_law_152 ?_
  refine j_sld C K (by rw [show nI i + (1 : Int32) = nI (i + 1) from nI_add i 1]; exact vp_in_nI (by omega) (by omega)) dL_law_153 ?_
  obtain ⟨r, M', o', hF, hG9, hI'⟩ := hS (xs (nI i + (1 : Int32)).toNatClampNeg)
  refine j_callVi (h := fun a => hh a 0) C (os' := (osX6 hh M' ++ [(shX7, hm, o)])) [.int (xs (nI i + (1 : Int32)).toNatClampNeg)] (kX6_letter g hh (xs (nI i + (1 : Int32)).toNatClampNeg) M hF) [0, 1, 2, 3, 4, 5, 6, 7, 8, 9, 10] rfl rfl rfl rfl 0 rfl rfl (wl_gV mw_6_0 mw_6_1 mw_6_2 mw_1_2 mw_6_3) rfl 1 rfl hd_X6_letter ⟨(Nat.le_of_ble_eq_true rfl), (Nat.le_of_ble_eq_true rfl)⟩ (Nat.le_of_ble_eq_true rfl) rfl dL_law_154 ?_
  refine j_aload_n C 2 dL_law_157 rfl rfl ?_
  refine j_aload_n C 0 dL_law_158 rfl rfl ?_
  refine j_iload_n C 3 dL_law_159 rfl rfl ?_
  refine j_iconst (v := (1 : Int32)) C dL_law_160 rfl ?_
  refine j_iadd C dL_law_161 ?_
  refine j_sld C K (by rw [show nI i + (1 : Int32) = nI (i + 1) from nI_add i 1]; exact vp_in_nI (by omega) (by omega)) dL_law_162 ?_
  refine j_callVi (h := hm) C (os' := (osX6 hh M' ++ [(shX7, hm, o')])) [.int (xs (nI i + (1 : Int32)).toNatClampNeg)] (kX7_letter g hm (xs (nI i + (1 : Int32)).toNatClampNeg) o hG9) [11] rfl rfl rfl rfl 11 rfl rfl (wl_gV mw_6_13 mw_6_14 mw_6_15 mw_1_5 mw_6_16) rfl 1 rfl hd_X7_letter ⟨(Nat.le_of_ble_eq_true rfl), (Nat.le_of_ble_eq_true rfl)⟩ (Nat.le_of_ble_eq_true rfl) rfl dL_law_163 ?_
  refine j_icmp_eq C 724 dL_law_166 rfl (fun _ => ?_) (fun c9 => absurd rfl c9)
  exact kk M' o' hI'
set_option maxRecDepth 100000 in
set_option maxHeartbeats 4000000 in
theorem law_blank {g : Gl} {X : Cxt} (C : CxOk g X code RL (Cond.classLink RL 7 RX6 :: wsL_law) 4 13 500) {b L : Nat} {xs : Nat → Int32} (K : LawOk X b L xs) {I : Nat → (Nat → Ob) → Ob → Prop} {hh : Nat → Nat → Nat} {hm : Nat → Nat} {n i nc ns : Nat} {M : Nat → Ob} {o : Ob} (hi4 : i + 4 ≤ L) (hL : L ≤ 256) (hS : ∃ (r : Int32) (M' : Nat → Ob) (o' : Ob), FX6_blank M = some (r, M') ∧ FX7_blank o = some (r, o') ∧ I (n + 1) M' o') (kk : ∀ (M' : Nat → Ob) (o' : Ob), I (n + 1) M' o' → JC g X nc ns (osX6 hh M' ++ [(shX7, hm, o')]) 724 [(0, .ref b), (1, .ref (hh 0 0)), (2, .ref (hm 0)), (3, .int (nI i))] []) : JC g X nc ns (osX6 hh M ++ [(shX7, hm, o)]) 171 [(0, .ref b), (1, .ref (hh 0 0)), (2, .ref (hm 0)), (3, .int (nI i))] [] := by
  refine j_aload_n C 1 dL_law_171 rfl rfl ?_
  obtain ⟨r, M', o', hF, hG9, hI'⟩ := hS
  refine j_callVi (h := fun a => hh a 0) C (os' := (osX6 hh M' ++ [(shX7, hm, o)])) [] (kX6_blank g hh M hF) [0, 1, 2, 3, 4, 5, 6, 7, 8, 9, 10] rfl rfl rfl rfl 0 rfl rfl (wl_gV mw_6_21 mw_6_22 mw_6_23 mw_1_2 mw_7_0) rfl 0 rfl hd_X6_blank ⟨(Nat.le_of_ble_eq_true rfl), (Nat.le_of_ble_eq_true rfl)⟩ (Nat.le_of_ble_eq_true rfl) rfl dL_law_172 ?_
  refine j_aload_n C 2 dL_law_175 rfl rfl ?_
  refine j_callVi (h := hm) C (os' := (osX6 hh M' ++ [(shX7, hm, o')])) [] (kX7_blank g hm o hG9) [11] rfl rfl rfl rfl 11 rfl rfl (wl_gV mw_7_5 mw_7_6 mw_7_7 mw_1_5 mw_7_8) rfl 0 rfl hd_X7_blank ⟨(Nat.le_of_ble_eq_true rfl), (Nat.le_of_ble_eq_true rfl)⟩ (Nat.le_of_ble_eq_true rfl) rfl dL_law_176 ?_
  refine j_icmp_eq C 724 dL_law_179 rfl (fun _ => ?_) (fun c9 => absurd rfl c9)
  exact kk M' o' hI'
set_option maxRecDepth 100000 in
set_option maxHeartbeats 4000000 in
theorem law_fault {g : Gl} {X : Cxt} (C : CxOk g X code RL (Cond.classLink RL 7 RX6 :: wsL_law) 4 13 500) {b L : Nat} {xs : Nat → Int32} (K : LawOk X b L xs) {I : Nat → (Nat → Ob) → Ob → Prop} {hh : Nat → Nat → Nat} {hm : Nat → Nat} {n i nc ns : Nat} {M : Nat → Ob} {o : Ob} (hi4 : i + 4 ≤ L) (hL : L ≤ 256) (hS : ∃ (r : Int32) (M' : Nat → Ob) (o' : Ob), FX6_fault M = some (r, M') ∧ FX7_fault o = some (r, o') ∧ I (n + 1) M' o') (kk : ∀ (M' : Nat → Ob) (o' : Ob), I (n + 1) M' o' → JC g X nc ns (osX6 hh M' ++ [(shX7, hm, o')]) 724 [(0, .ref b), (1, .ref (hh 0 0)), (2, .ref (hm 0)), (3, .int (nI i))] []) : JC g X nc ns (osX6 hh M ++ [(shX7, hm, o)]) 184 [(0, .ref b), (1, .ref (hh 0 0)), (2, .ref (hm 0)), (3, .int (nI i))] [] := by
  refine j_aload_n C 1 dL_law_184 rfl rfl ?_
  obtain ⟨r, M', o', hF, hG9, hI'⟩ := hS
  refine j_callVi (h := fun a => hh a 0) C (os' := (osX6 hh M' ++ [(shX7, hm, o)])) [] (kX6_fault g hh M hF) [0, 1, 2, 3, 4, 5, 6, 7, 8, 9, 10] rfl rfl rfl rfl 0 rfl rfl (wl_gV mw_7_9 mw_7_10 mw_7_11 mw_1_2 mw_7_12) rfl 0 rfl hd_X6_fault ⟨(Nat.le_of_ble_eq_true rfl), (Nat.le_of_ble_eq_true rfl)⟩ (Nat.le_of_ble_eq_true rfl) rfl dL_law_185 ?_
  refine j_aload_n C 2 dL_law_188 rfl rfl ?_
  refine j_callVi (h := hm) C (os' := (osX6 hh M' ++ [(shX7, hm, o')])) [] (kX7_fault g hm o hG9) [11] rfl rfl rfl rfl 11 rfl rfl (wl_gV mw_14_17 mw_14_18 mw_14_19 mw_1_5 mw_14_20) rfl 0 rfl hd_X7_fault ⟨(Nat.le_of_ble_eq_true rfl), (Nat.le_of_ble_eq_true rfl)⟩ (Nat.le_of_ble_eq_true rfl) rfl dL_law_189 ?_
  refine j_icmp_eq C 724 dL_law_192 rfl (fun _ => ?_) (fun c9 => absurd rfl c9)
  exact kk M' o' hI'
set_option maxRecDepth 100000 in
set_option maxHeartbeats 4000000 in
theorem law_net {g : Gl} {X : Cxt} (C : CxOk g X code RL (Cond.classLink RL 7 RX6 :: wsL_law) 4 13 500) {b L : Nat} {xs : Nat → Int32} (K : LawOk X b L xs) {I : Nat → (Nat → Ob) → Ob → Prop} {hh : Nat → Nat → Nat} {hm : Nat → Nat} {n i nc ns : Nat} {M : Nat → Ob} {o : Ob} (hi4 : i + 4 ≤ L) (hL : L ≤ 256) (hS : ∃ (r : Int32) (M' : Nat → Ob) (o' : Ob), FX6_net M = some (r, M') ∧ FX7_net o = some (r, o') ∧ I (n + 1) M' o') (kk : ∀ (M' : Nat → Ob) (o' : Ob), I (n + 1) M' o' → JC g X nc ns (osX6 hh M' ++ [(shX7, hm, o')]) 724 [(0, .ref b), (1, .ref (hh 0 0)), (2, .ref (hm 0)), (3, .int (nI i))] []) : JC g X nc ns (osX6 hh M ++ [(shX7, hm, o)]) 197 [(0, .ref b), (1, .ref (hh 0 0)), (2, .ref (hm 0)), (3, .int (nI i))] [] := by
  refine j_aload_n C 1 dL_law_197 rfl rfl ?_
  obtain ⟨r, M', o', hF, hG9, hI'⟩ := hS
  refine j_callVi (h := fun a => hh a 0) C (os' := (osX6 hh M' ++ [(shX7, hm, o)])) [] (kX6_net g hh M hF) [0, 1, 2, 3, 4, 5, 6, 7, 8, 9, 10] rfl rfl rfl rfl 0 rfl rfl (wl_gV mw_16_5 mw_16_6 mw_16_7 mw_1_2 mw_16_8) rfl 0 rfl hd_X6_net ⟨(Nat.le_of_ble_eq_true rfl), (Nat.le_of_ble_eq_true rfl)⟩ (Nat.le_of_ble_eq_true rfl) rfl dL_law_198 ?_
  refine j_aload_n C 2 dL_law_201 rfl rfl ?_
  refine j_callVi (h := hm) C (os' := (osX6 hh M' ++ [(shX7, hm, o')])) [] (kX7_net g hm o hG9) [11] rfl rfl rfl rfl 11 rfl rfl (wl_gV mw_18_3 mw_18_4 mw_18_5 mw_1_5 mw_18_6) rfl 0 rfl hd_X7_net ⟨(Nat.le_of_ble_eq_true rfl), (Nat.le_of_ble_eq_true rfl)⟩ (Nat.le_of_ble_eq_true rfl) rfl dL_law_202 ?_
  refine j_icmp_eq C 724 dL_law_205 rfl (fun _ => ?_) (fun c9 => absurd rfl c9)
  exact kk M' o' hI'
set_option maxRecDepth 100000 in
set_option maxHeartbeats 4000000 in
theorem law_node {g : Gl} {X : Cxt} (C : CxOk g X code RL (Cond.classLink RL 7 RX6 :: wsL_law) 4 13 500) {b L : Nat} {xs : Nat → Int32} (K : LawOk X b L xs) {I : Nat → (Nat → Ob) → Ob → Prop} {hh : Nat → Nat → Nat} {hm : Nat → Nat} {n i nc ns : Nat} {M : Nat → Ob} {o : Ob} (hi4 : i + 4 ≤ L) (hL : L ≤ 256) (hS : ∀ x1 x2 : Int32, ∃ (r : Int32) (M' : Nat → Ob) (o' : Ob), FX6_node x1 x2 M = some (r, M') ∧ FX7_node x1 x2 o = some (r, o') ∧ I (n + 1) M' o') (kk : ∀ (M' : Nat → Ob) (o' : Ob), I (n + 1) M' o' → JC g X nc ns (osX6 hh M' ++ [(shX7, hm, o')]) 724 [(0, .ref b), (1, .ref (hh 0 0)), (2, .ref (hm 0)), (3, .int (nI i))] []) : JC g X nc ns (osX6 hh M ++ [(shX7, hm, o)]) 210 [(0, .ref b), (1, .ref (hh 0 0)), (2, .ref (hm 0)), (3, .int (nI i))] [] := by
  refine j_aload_n C 1 dL_law_210 rfl rfl ?_
  refine j_aload_n C 0 dL_law_211 rfl rfl ?_
  refine j_iload_n C 3 dL_law_212 rfl rfl ?_
  refine j_iconst (v := (1 : Int32)) C dL_law_213 rfl ?_
  refine j_iadd C dL_law_214 ?_
  refine j_sld C K (by rw [show nI i + (1 : Int32) = nI (i + 1) from nI_add i 1]; exact vp_in_nI (by omega) (by omega)) dL_law_215 ?_
  refine j_aload_n C 0 dL_law_216 rfl rfl ?_
  refine j_iload_n C 3 dL_law_217 rfl rfl ?_
  refine j_iconst (v := (2 : Int32)) C dL_law_218 rfl ?_
  refine j_iadd C dL_law_219 ?_
  refine j_sld C K (by rw [show nI i + (2 : Int32) = nI (i + 2) from nI_add i 2]; exact vp_in_nI (by omega) (by omega)) dL_law_220 ?_
  obtain ⟨r, M', o', hF, hG9, hI'⟩ := hS (xs (nI i + (1 : Int32)).toNatClampNeg) (xs (nI i + (2 : Int32)).toNatClampNeg)
  refine j_callVi (h := fun a => hh a 0) C (os' := (osX6 hh M' ++ [(shX7, hm, o)])) [.int (xs (nI i + (1 : Int32)).toNatClampNeg), .int (xs (nI i + (2 : Int32)).toNatClampNeg)] (kX6_node g hh (xs (nI i + (1 : Int32)).toNatClampNeg) (xs (nI i + (2 : Int32)).toNatClampNeg) M hF) [0, 1, 2, 3, 4, 5, 6, 7, 8, 9, 10] rfl rfl rfl rfl 0 rfl rfl (wl_gV mw_18_21 mw_18_22 mw_18_23 mw_1_2 mw_19_0) rfl 2 rfl hd_X6_node ⟨(Nat.le_of_ble_eq_true rfl), (Nat.le_of_ble_eq_true rfl)⟩ (Nat.le_of_ble_eq_true rfl) rfl dL_law_221 ?_
  refine j_aload_n C 2 dL_law_224 rfl rfl ?_
  refine j_aload_n C 0 dL_law_225 rfl rfl ?_
  refine j_iload_n C 3 dL_law_226 rfl rfl ?_
  refine j_iconst (v := (1 : Int32)) C dL_law_227 rfl ?_
  refine j_iadd C dL_law_228 ?_
  refine j_sld C K (by rw [show nI i + (1 : Int32) = nI (i + 1) from nI_add i 1]; exact vp_in_nI (by omega) (by omega)) dL_law_229 ?_
  refine j_aload_n C 0 dL_law_230 rfl rfl ?_
  refine j_iload_n C 3 dL_law_231 rfl rfl ?_
  refine j_iconst (v := (2 : Int32)) C dL_law_232 rfl ?_
  refine j_iadd C dL_law_233 ?_
  refine j_sld C K (by rw [show nI i + (2 : Int32) = nI (i + 2) from nI_add i 2]; exact vp_in_nI (by omega) (by omega)) dL_law_234 ?_
  refine j_callVi (h := hm) C (os' := (osX6 hh M' ++ [(shX7, hm, o')])) [.int (xs (nI i + (1 : Int32)).toNatClampNeg), .int (xs (nI i + (2 : Int32)).toNatClampNeg)] (kX7_node g hm (xs (nI i + (1 : Int32)).toNatClampNeg) (xs (nI i + (2 : Int32)).toNatClampNeg) o hG9) [11] rfl rfl rfl rfl 11 rfl rfl (wl_gV mw_24_1 mw_24_2 mw_24_3 mw_1_5 mw_24_4) rfl 2 rfl hd_X7_node ⟨(Nat.le_of_ble_eq_true rfl), (Nat.le_of_ble_eq_true rfl)⟩ (Nat.le_of_ble_eq_true rfl) rfl dL_law_235 ?_
  refine j_icmp_eq C 724 dL_law_238 rfl (fun _ => ?_) (fun c9 => absurd rfl c9)
  exact kk M' o' hI'
set_option maxRecDepth 100000 in
set_option maxHeartbeats 4000000 in
theorem law_as {g : Gl} {X : Cxt} (C : CxOk g X code RL (Cond.classLink RL 7 RX6 :: wsL_law) 4 13 500) {b L : Nat} {xs : Nat → Int32} (K : LawOk X b L xs) {I : Nat → (Nat → Ob) → Ob → Prop} {hh : Nat → Nat → Nat} {hm : Nat → Nat} {n i nc ns : Nat} {M : Nat → Ob} {o : Ob} (hi4 : i + 4 ≤ L) (hL : L ≤ 256) (hS : ∀ x1 x2 : Int32, ∃ (r : Int32) (o' : Ob), FX6_as x1 x2 M = some r ∧ FX7_as x1 x2 o = some (r, o') ∧ I (n + 1) M o') (kk : ∀ (M' : Nat → Ob) (o' : Ob), I (n + 1) M' o' → JC g X nc ns (osX6 hh M' ++ [(shX7, hm, o')]) 724 [(0, .ref b), (1, .ref (hh 0 0)), (2, .ref (hm 0)), (3, .int (nI i))] []) : JC g X nc ns (osX6 hh M ++ [(shX7, hm, o)]) 243 [(0, .ref b), (1, .ref (hh 0 0)), (2, .ref (hm 0)), (3, .int (nI i))] [] := by
  refine j_aload_n C 1 dL_law_243 rfl rfl ?_
  refine j_aload_n C 0 dL_law_244 rfl rfl ?_
  refine j_iload_n C 3 dL_law_245 rfl rfl ?_
  refine j_iconst (v := (1 : Int32)) C dL_law_246 rfl ?_
  refine j_iadd C dL_law_247 ?_
  refine j_sld C K (by rw [show nI i + (1 : Int32) = nI (i + 1) from nI_add i 1]; exact vp_in_nI (by omega) (by omega)) dL_law_248 ?_
  refine j_aload_n C 0 dL_law_249 rfl rfl ?_
  refine j_iload_n C 3 dL_law_250 rfl rfl ?_
  refine j_iconst (v := (2 : Int32)) C dL_law_251 rfl ?_
  refine j_iadd C dL_law_252 ?_
  refine j_sld C K (by rw [show nI i + (2 : Int32) = nI (i + 2) from nI_add i 2]; exact vp_in_nI (by omega) (by omega)) dL_law_253 ?_
  obtain ⟨r, o', hF, hG9, hI'⟩ := hS (xs (nI i + (1 : Int32)).toNatClampNeg) (xs (nI i + (2 : Int32)).toNatClampNeg)
  refine j_callVi (h := fun a => hh a 0) C (os' := (osX6 hh M ++ [(shX7, hm, o)])) [.int (xs (nI i + (1 : Int32)).toNatClampNeg), .int (xs (nI i + (2 : Int32)).toNatClampNeg)] (kX6_as g hh (xs (nI i + (1 : Int32)).toNatClampNeg) (xs (nI i + (2 : Int32)).toNatClampNeg) M hF) [0, 1, 2, 3, 4, 5, 6, 7, 8, 9, 10] rfl rfl rfl rfl 0 rfl rfl (wl_gV mw_28_21 mw_28_22 mw_28_23 mw_1_2 mw_29_0) rfl 2 rfl hd_X6_as ⟨(Nat.le_of_ble_eq_true rfl), (Nat.le_of_ble_eq_true rfl)⟩ (Nat.le_of_ble_eq_true rfl) rfl dL_law_254 ?_
  refine j_aload_n C 2 dL_law_257 rfl rfl ?_
  refine j_aload_n C 0 dL_law_258 rfl rfl ?_
  refine j_iload_n C 3 dL_law_259 rfl rfl ?_
  refine j_iconst (v := (1 : Int32)) C dL_law_260 rfl ?_
  refine j_iadd C dL_law_261 ?_
  refine j_sld C K (by rw [show nI i + (1 : Int32) = nI (i + 1) from nI_add i 1]; exact vp_in_nI (by omega) (by omega)) dL_law_262 ?_
  refine j_aload_n C 0 dL_law_263 rfl rfl ?_
  refine j_iload_n C 3 dL_law_264 rfl rfl ?_
  refine j_iconst (v := (2 : Int32)) C dL_law_265 rfl ?_
  refine j_iadd C dL_law_266 ?_
  refine j_sld C K (by rw [show nI i + (2 : Int32) = nI (i + 2) from nI_add i 2]; exact vp_in_nI (by omega) (by omega)) dL_law_267 ?_
  refine j_callVi (h := hm) C (os' := (osX6 hh M ++ [(shX7, hm, o')])) [.int (xs (nI i + (1 : Int32)).toNatClampNeg), .int (xs (nI i + (2 : Int32)).toNatClampNeg)] (kX7_as g hm (xs (nI i + (1 : Int32)).toNatClampNeg) (xs (nI i + (2 : Int32)).toNatClampNeg) o hG9) [11] rfl rfl rfl rfl 11 rfl rfl (wl_gV mw_29_1 mw_29_2 mw_29_3 mw_1_5 mw_29_4) rfl 2 rfl hd_X7_as ⟨(Nat.le_of_ble_eq_true rfl), (Nat.le_of_ble_eq_true rfl)⟩ (Nat.le_of_ble_eq_true rfl) rfl dL_law_268 ?_
  refine j_icmp_eq C 724 dL_law_271 rfl (fun _ => ?_) (fun c9 => absurd rfl c9)
  exact kk M o' hI'
set_option maxRecDepth 100000 in
set_option maxHeartbeats 4000000 in
theorem law_open {g : Gl} {X : Cxt} (C : CxOk g X code RL (Cond.classLink RL 7 RX6 :: wsL_law) 4 13 500) {b L : Nat} {xs : Nat → Int32} (K : LawOk X b L xs) {I : Nat → (Nat → Ob) → Ob → Prop} {hh : Nat → Nat → Nat} {hm : Nat → Nat} {n i nc ns : Nat} {M : Nat → Ob} {o : Ob} (hi4 : i + 4 ≤ L) (hL : L ≤ 256) (hS : ∀ x1 : Int32, ∃ (r : Int32) (o' : Ob), FX6_open x1 M = some r ∧ FX7_open x1 o = some (r, o') ∧ I (n + 1) M o') (kk : ∀ (M' : Nat → Ob) (o' : Ob), I (n + 1) M' o' → JC g X nc ns (osX6 hh M' ++ [(shX7, hm, o')]) 724 [(0, .ref b), (1, .ref (hh 0 0)), (2, .ref (hm 0)), (3, .int (nI i))] []) : JC g X nc ns (osX6 hh M ++ [(shX7, hm, o)]) 276 [(0, .ref b), (1, .ref (hh 0 0)), (2, .ref (hm 0)), (3, .int (nI i))] [] := by
  refine j_aload_n C 1 dL_law_276 rfl rfl ?_
  refine j_aload_n C 0 dL_law_277 rfl rfl ?_
  refine j_iload_n C 3 dL_law_278 rfl rfl ?_
  refine j_iconst (v := (1 : Int32)) C dL_law_279 rfl ?_
  refine j_iadd C dL_law_280 ?_
  refine j_sld C K (by rw [show nI i + (1 : Int32) = nI (i + 1) from nI_add i 1]; exact vp_in_nI (by omega) (by omega)) dL_law_281 ?_
  obtain ⟨r, o', hF, hG9, hI'⟩ := hS (xs (nI i + (1 : Int32)).toNatClampNeg)
  refine j_callVi (h := fun a => hh a 0) C (os' := (osX6 hh M ++ [(shX7, hm, o)])) [.int (xs (nI i + (1 : Int32)).toNatClampNeg)] (kX6_open g hh (xs (nI i + (1 : Int32)).toNatClampNeg) M hF) [0, 1, 2, 3, 4, 5, 6, 7, 8, 9, 10] rfl rfl rfl rfl 0 rfl rfl (wl_gV mw_29_5 mw_29_6 mw_29_7 mw_1_2 mw_29_8) rfl 1 rfl hd_X6_open ⟨(Nat.le_of_ble_eq_true rfl), (Nat.le_of_ble_eq_true rfl)⟩ (Nat.le_of_ble_eq_true rfl) rfl dL_law_282 ?_
  refine j_aload_n C 2 dL_law_285 rfl rfl ?_
  refine j_aload_n C 0 dL_law_286 rfl rfl ?_
  refine j_iload_n C 3 dL_law_287 rfl rfl ?_
  refine j_iconst (v := (1 : Int32)) C dL_law_288 rfl ?_
  refine j_iadd C dL_law_289 ?_
  refine j_sld C K (by rw [show nI i + (1 : Int32) = nI (i + 1) from nI_add i 1]; exact vp_in_nI (by omega) (by omega)) dL_law_290 ?_
  refine j_callVi (h := hm) C (os' := (osX6 hh M ++ [(shX7, hm, o')])) [.int (xs (nI i + (1 : Int32)).toNatClampNeg)] (kX7_open g hm (xs (nI i + (1 : Int32)).toNatClampNeg) o hG9) [11] rfl rfl rfl rfl 11 rfl rfl (wl_gV mw_29_13 mw_29_14 mw_29_15 mw_1_5 mw_29_16) rfl 1 rfl hd_X7_open ⟨(Nat.le_of_ble_eq_true rfl), (Nat.le_of_ble_eq_true rfl)⟩ (Nat.le_of_ble_eq_true rfl) rfl dL_law_291 ?_
  refine j_icmp_eq C 724 dL_law_294 rfl (fun _ => ?_) (fun c9 => absurd rfl c9)
  exact kk M o' hI'
set_option maxRecDepth 100000 in
set_option maxHeartbeats 4000000 in
theorem law_meetings {g : Gl} {X : Cxt} (C : CxOk g X code RL (Cond.classLink RL 7 RX6 :: wsL_law) 4 13 500) {b L : Nat} {xs : Nat → Int32} (K : LawOk X b L xs) {I : Nat → (Nat → Ob) → Ob → Prop} {hh : Nat → Nat → Nat} {hm : Nat → Nat} {n i nc ns : Nat} {M : Nat → Ob} {o : Ob} (hi4 : i + 4 ≤ L) (hL : L ≤ 256) (hS : ∀ x1 : Int32, ∃ (r : Int32) (M' : Nat → Ob) (o' : Ob), FX6_meetings x1 M = some (r, M') ∧ FX7_meetings x1 o = some (r, o') ∧ I (n + 1) M' o') (kk : ∀ (M' : Nat → Ob) (o' : Ob), I (n + 1) M' o' → JC g X nc ns (osX6 hh M' ++ [(shX7, hm, o')]) 724 [(0, .ref b), (1, .ref (hh 0 0)), (2, .ref (hm 0)), (3, .int (nI i))] []) : JC g X nc ns (osX6 hh M ++ [(shX7, hm, o)]) 299 [(0, .ref b), (1, .ref (hh 0 0)), (2, .ref (hm 0)), (3, .int (nI i))] [] := by
  refine j_aload_n C 1 dL_law_299 rfl rfl ?_
  refine j_aload_n C 0 dL_law_300 rfl rfl ?_
  refine j_iload_n C 3 dL_law_301 rfl rfl ?_
  refine j_iconst (v := (1 : Int32)) C dL_law_302 rfl ?_
  refine j_iadd C dL_law_303 ?_
  refine j_sld C K (by rw [show nI i + (1 : Int32) = nI (i + 1) from nI_add i 1]; exact vp_in_nI (by omega) (by omega)) dL_law_304 ?_
  obtain ⟨r, M', o', hF, hG9, hI'⟩ := hS (xs (nI i + (1 : Int32)).toNatClampNeg)
  refine j_callVi (h := fun a => hh a 0) C (os' := (osX6 hh M' ++ [(shX7, hm, o)])) [.int (xs (nI i + (1 : Int32)).toNatClampNeg)] (kX6_meetings g hh (xs (nI i + (1 : Int32)).toNatClampNeg) M hF) [0, 1, 2, 3, 4, 5, 6, 7, 8, 9, 10] rfl rfl rfl rfl 0 rfl rfl (wl_gV mw_29_21 mw_29_22 mw_29_23 mw_1_2 mw_30_0) rfl 1 rfl hd_X6_meetings ⟨(Nat.le_of_ble_eq_true rfl), (Nat.le_of_ble_eq_true rfl)⟩ (Nat.le_of_ble_eq_true rfl) rfl dL_law_305 ?_
  refine j_aload_n C 2 dL_law_308 rfl rfl ?_
  refine j_aload_n C 0 dL_law_309 rfl rfl ?_
  refine j_iload_n C 3 dL_law_310 rfl rfl ?_
  refine j_iconst (v := (1 : Int32)) C dL_law_311 rfl ?_
  refine j_iadd C dL_law_312 ?_
  refine j_sld C K (by rw [show nI i + (1 : Int32) = nI (i + 1) from nI_add i 1]; exact vp_in_nI (by omega) (by omega)) dL_law_313 ?_
  refine j_callVi (h := hm) C (os' := (osX6 hh M' ++ [(shX7, hm, o')])) [.int (xs (nI i + (1 : Int32)).toNatClampNeg)] (kX7_meetings g hm (xs (nI i + (1 : Int32)).toNatClampNeg) o hG9) [11] rfl rfl rfl rfl 11 rfl rfl (wl_gV mw_30_3 mw_30_4 mw_30_5 mw_1_5 mw_30_6) rfl 1 rfl hd_X7_meetings ⟨(Nat.le_of_ble_eq_true rfl), (Nat.le_of_ble_eq_true rfl)⟩ (Nat.le_of_ble_eq_true rfl) rfl dL_law_314 ?_
  refine j_icmp_eq C 724 dL_law_317 rfl (fun _ => ?_) (fun c9 => absurd rfl c9)
  exact kk M' o' hI'
set_option maxRecDepth 100000 in
set_option maxHeartbeats 4000000 in
theorem law_meet {g : Gl} {X : Cxt} (C : CxOk g X code RL (Cond.classLink RL 7 RX6 :: wsL_law) 4 13 500) {b L : Nat} {xs : Nat → Int32} (K : LawOk X b L xs) {I : Nat → (Nat → Ob) → Ob → Prop} {hh : Nat → Nat → Nat} {hm : Nat → Nat} {n i nc ns : Nat} {M : Nat → Ob} {o : Ob} (hi4 : i + 4 ≤ L) (hL : L ≤ 256) (hS : ∀ x1 : Int32, ∃ (r : Int32) (M' : Nat → Ob) (o' : Ob), FX6_meet x1 M = some (r, M') ∧ FX7_meet x1 o = some (r, o') ∧ I (n + 1) M' o') (kk : ∀ (M' : Nat → Ob) (o' : Ob), I (n + 1) M' o' → JC g X nc ns (osX6 hh M' ++ [(shX7, hm, o')]) 724 [(0, .ref b), (1, .ref (hh 0 0)), (2, .ref (hm 0)), (3, .int (nI i))] []) : JC g X nc ns (osX6 hh M ++ [(shX7, hm, o)]) 322 [(0, .ref b), (1, .ref (hh 0 0)), (2, .ref (hm 0)), (3, .int (nI i))] [] := by
  refine j_aload_n C 1 dL_law_322 rfl rfl ?_
  refine j_aload_n C 0 dL_law_323 rfl rfl ?_
  refine j_iload_n C 3 dL_law_324 rfl rfl ?_
  refine j_iconst (v := (1 : Int32)) C dL_law_325 rfl ?_
  refine j_iadd C dL_law_326 ?_
  refine j_sld C K (by rw [show nI i + (1 : Int32) = nI (i + 1) from nI_add i 1]; exact vp_in_nI (by omega) (by omega)) dL_law_327 ?_
  obtain ⟨r, M', o', hF, hG9, hI'⟩ := hS (xs (nI i + (1 : Int32)).toNatClampNeg)
  refine j_callVi (h := fun a => hh a 0) C (os' := (osX6 hh M' ++ [(shX7, hm, o)])) [.int (xs (nI i + (1 : Int32)).toNatClampNeg)] (kX6_meet g hh (xs (nI i + (1 : Int32)).toNatClampNeg) M hF) [0, 1, 2, 3, 4, 5, 6, 7, 8, 9, 10] rfl rfl rfl rfl 0 rfl rfl (wl_gV mw_30_11 mw_30_12 mw_30_13 mw_1_2 mw_30_14) rfl 1 rfl hd_X6_meet ⟨(Nat.le_of_ble_eq_true rfl), (Nat.le_of_ble_eq_true rfl)⟩ (Nat.le_of_ble_eq_true rfl) rfl dL_law_328 ?_
  refine j_aload_n C 2 dL_law_331 rfl rfl ?_
  refine j_aload_n C 0 dL_law_332 rfl rfl ?_
  refine j_iload_n C 3 dL_law_333 rfl rfl ?_
  refine j_iconst (v := (1 : Int32)) C dL_law_334 rfl ?_
  refine j_iadd C dL_law_335 ?_
  refine j_sld C K (by rw [show nI i + (1 : Int32) = nI (i + 1) from nI_add i 1]; exact vp_in_nI (by omega) (by omega)) dL_law_336 ?_
  refine j_callVi (h := hm) C (os' := (osX6 hh M' ++ [(shX7, hm, o')])) [.int (xs (nI i + (1 : Int32)).toNatClampNeg)] (kX7_meet g hm (xs (nI i + (1 : Int32)).toNatClampNeg) o hG9) [11] rfl rfl rfl rfl 11 rfl rfl (wl_gV mw_30_21 mw_30_22 mw_30_23 mw_1_5 mw_31_0) rfl 1 rfl hd_X7_meet ⟨(Nat.le_of_ble_eq_true rfl), (Nat.le_of_ble_eq_true rfl)⟩ (Nat.le_of_ble_eq_true rfl) rfl dL_law_337 ?_
  refine j_icmp_eq C 724 dL_law_340 rfl (fun _ => ?_) (fun c9 => absurd rfl c9)
  exact kk M' o' hI'
set_option maxRecDepth 100000 in
set_option maxHeartbeats 4000000 in
theorem law_run {g : Gl} {X : Cxt} (C : CxOk g X code RL (Cond.classLink RL 7 RX6 :: wsL_law) 4 13 500) {b L : Nat} {xs : Nat → Int32} (K : LawOk X b L xs) {I : Nat → (Nat → Ob) → Ob → Prop} {hh : Nat → Nat → Nat} {hm : Nat → Nat} {n i nc ns : Nat} {M : Nat → Ob} {o : Ob} (hi4 : i + 4 ≤ L) (hL : L ≤ 256) (hS : ∀ x1 : Int32, ∃ (r : Int32) (M' : Nat → Ob) (o' : Ob), FX6_run x1 M = some (r, M') ∧ FX7_run x1 o = some (r, o') ∧ I (n + 1) M' o') (kk : ∀ (M' : Nat → Ob) (o' : Ob), I (n + 1) M' o' → JC g X nc ns (osX6 hh M' ++ [(shX7, hm, o')]) 724 [(0, .ref b), (1, .ref (hh 0 0)), (2, .ref (hm 0)), (3, .int (nI i))] []) : JC g X nc ns (osX6 hh M ++ [(shX7, hm, o)]) 345 [(0, .ref b), (1, .ref (hh 0 0)), (2, .ref (hm 0)), (3, .int (nI i))] [] := by
  refine j_aload_n C 1 dL_law_345 rfl rfl ?_
  refine j_aload_n C 0 dL_law_346 rfl rfl ?_
  refine j_iload_n C 3 dL_law_347 rfl rfl ?_
  refine j_iconst (v := (1 : Int32)) C dL_law_348 rfl ?_
  refine j_iadd C dL_law_349 ?_
  refine j_sld C K (by rw [show nI i + (1 : Int32) = nI (i + 1) from nI_add i 1]; exact vp_in_nI (by omega) (by omega)) dL_law_350 ?_
  obtain ⟨r, M', o', hF, hG9, hI'⟩ := hS (xs (nI i + (1 : Int32)).toNatClampNeg)
  refine j_callVi (h := fun a => hh a 0) C (os' := (osX6 hh M' ++ [(shX7, hm, o)])) [.int (xs (nI i + (1 : Int32)).toNatClampNeg)] (kX6_run g hh (xs (nI i + (1 : Int32)).toNatClampNeg) M hF) [0, 1, 2, 3, 4, 5, 6, 7, 8, 9, 10] rfl rfl rfl rfl 0 rfl rfl (wl_gV mw_31_9 mw_31_10 mw_31_11 mw_1_2 mw_31_12) rfl 1 rfl hd_X6_run ⟨(Nat.le_of_ble_eq_true rfl), (Nat.le_of_ble_eq_true rfl)⟩ (Nat.le_of_ble_eq_true rfl) rfl dL_law_351 ?_
  refine j_aload_n C 2 dL_law_354 rfl rfl ?_
  refine j_aload_n C 0 dL_law_355 rfl rfl ?_
  refine j_iload_n C 3 dL_law_356 rfl rfl ?_
  refine j_iconst (v := (1 : Int32)) C dL_law_357 rfl ?_
  refine j_iadd C dL_law_358 ?_
  refine j_sld C K (by rw [show nI i + (1 : Int32) = nI (i + 1) from nI_add i 1]; exact vp_in_nI (by omega) (by omega)) dL_law_359 ?_
  refine j_callVi (h := hm) C (os' := (osX6 hh M' ++ [(shX7, hm, o')])) [.int (xs (nI i + (1 : Int32)).toNatClampNeg)] (kX7_run g hm (xs (nI i + (1 : Int32)).toNatClampNeg) o hG9) [11] rfl rfl rfl rfl 11 rfl rfl (wl_gV mw_31_13 mw_31_14 mw_31_15 mw_1_5 mw_31_16) rfl 1 rfl hd_X7_run ⟨(Nat.le_of_ble_eq_true rfl), (Nat.le_of_ble_eq_true rfl)⟩ (Nat.le_of_ble_eq_true rfl) rfl dL_law_360 ?_
  refine j_icmp_eq C 724 dL_law_363 rfl (fun _ => ?_) (fun c9 => absurd rfl c9)
  exact kk M' o' hI'
set_option maxRecDepth 100000 in
set_option maxHeartbeats 4000000 in
theorem law_join {g : Gl} {X : Cxt} (C : CxOk g X code RL (Cond.classLink RL 7 RX6 :: wsL_law) 4 13 500) {b L : Nat} {xs : Nat → Int32} (K : LawOk X b L xs) {I : Nat → (Nat → Ob) → Ob → Prop} {hh : Nat → Nat → Nat} {hm : Nat → Nat} {n i nc ns : Nat} {M : Nat → Ob} {o : Ob} (hi4 : i + 4 ≤ L) (hL : L ≤ 256) (hS : ∀ x1 x2 : Int32, ∃ (r : Int32) (M' : Nat → Ob) (o' : Ob), FX6_join x1 x2 M = some (r, M') ∧ FX7_join x1 x2 o = some (r, o') ∧ I (n + 1) M' o') (kk : ∀ (M' : Nat → Ob) (o' : Ob), I (n + 1) M' o' → JC g X nc ns (osX6 hh M' ++ [(shX7, hm, o')]) 724 [(0, .ref b), (1, .ref (hh 0 0)), (2, .ref (hm 0)), (3, .int (nI i))] []) : JC g X nc ns (osX6 hh M ++ [(shX7, hm, o)]) 368 [(0, .ref b), (1, .ref (hh 0 0)), (2, .ref (hm 0)), (3, .int (nI i))] [] := by
  refine j_aload_n C 1 dL_law_368 rfl rfl ?_
  refine j_aload_n C 0 dL_law_369 rfl rfl ?_
  refine j_iload_n C 3 dL_law_370 rfl rfl ?_
  refine j_iconst (v := (1 : Int32)) C dL_law_371 rfl ?_
  refine j_iadd C dL_law_372 ?_
  refine j_sld C K (by rw [show nI i + (1 : Int32) = nI (i + 1) from nI_add i 1]; exact vp_in_nI (by omega) (by omega)) dL_law_373 ?_
  refine j_aload_n C 0 dL_law_374 rfl rfl ?_
  refine j_iload_n C 3 dL_law_375 rfl rfl ?_
  refine j_iconst (v := (2 : Int32)) C dL_law_376 rfl ?_
  refine j_iadd C dL_law_377 ?_
  refine j_sld C K (by rw [show nI i + (2 : Int32) = nI (i + 2) from nI_add i 2]; exact vp_in_nI (by omega) (by omega)) dL_law_378 ?_
  obtain ⟨r, M', o', hF, hG9, hI'⟩ := hS (xs (nI i + (1 : Int32)).toNatClampNeg) (xs (nI i + (2 : Int32)).toNatClampNeg)
  refine j_callVi (h := fun a => hh a 0) C (os' := (osX6 hh M' ++ [(shX7, hm, o)])) [.int (xs (nI i + (1 : Int32)).toNatClampNeg), .int (xs (nI i + (2 : Int32)).toNatClampNeg)] (kX6_join g hh (xs (nI i + (1 : Int32)).toNatClampNeg) (xs (nI i + (2 : Int32)).toNatClampNeg) M hF) [0, 1, 2, 3, 4, 5, 6, 7, 8, 9, 10] rfl rfl rfl rfl 0 rfl rfl (wl_gV mw_31_17 mw_31_18 mw_31_19 mw_1_2 mw_31_20) rfl 2 rfl hd_X6_join ⟨(Nat.le_of_ble_eq_true rfl), (Nat.le_of_ble_eq_true rfl)⟩ (Nat.le_of_ble_eq_true rfl) rfl dL_law_379 ?_
  refine j_aload_n C 2 dL_law_382 rfl rfl ?_
  refine j_aload_n C 0 dL_law_383 rfl rfl ?_
  refine j_iload_n C 3 dL_law_384 rfl rfl ?_
  refine j_iconst (v := (1 : Int32)) C dL_law_385 rfl ?_
  refine j_iadd C dL_law_386 ?_
  refine j_sld C K (by rw [show nI i + (1 : Int32) = nI (i + 1) from nI_add i 1]; exact vp_in_nI (by omega) (by omega)) dL_law_387 ?_
  refine j_aload_n C 0 dL_law_388 rfl rfl ?_
  refine j_iload_n C 3 dL_law_389 rfl rfl ?_
  refine j_iconst (v := (2 : Int32)) C dL_law_390 rfl ?_
  refine j_iadd C dL_law_391 ?_
  refine j_sld C K (by rw [show nI i + (2 : Int32) = nI (i + 2) from nI_add i 2]; exact vp_in_nI (by omega) (by omega)) dL_law_392 ?_
  refine j_callVi (h := hm) C (os' := (osX6 hh M' ++ [(shX7, hm, o')])) [.int (xs (nI i + (1 : Int32)).toNatClampNeg), .int (xs (nI i + (2 : Int32)).toNatClampNeg)] (kX7_join g hm (xs (nI i + (1 : Int32)).toNatClampNeg) (xs (nI i + (2 : Int32)).toNatClampNeg) o hG9) [11] rfl rfl rfl rfl 11 rfl rfl (wl_gV mw_31_22 mw_31_23 mw_32_0 mw_1_5 mw_32_1) rfl 2 rfl hd_X7_join ⟨(Nat.le_of_ble_eq_true rfl), (Nat.le_of_ble_eq_true rfl)⟩ (Nat.le_of_ble_eq_true rfl) rfl dL_law_393 ?_
  refine j_icmp_eq C 724 dL_law_396 rfl (fun _ => ?_) (fun c9 => absurd rfl c9)
  exact kk M' o' hI'
set_option maxRecDepth 100000 in
set_option maxHeartbeats 4000000 in
theorem law_stop {g : Gl} {X : Cxt} (C : CxOk g X code RL (Cond.classLink RL 7 RX6 :: wsL_law) 4 13 500) {b L : Nat} {xs : Nat → Int32} (K : LawOk X b L xs) {I : Nat → (Nat → Ob) → Ob → Prop} {hh : Nat → Nat → Nat} {hm : Nat → Nat} {n i nc ns : Nat} {M : Nat → Ob} {o : Ob} (hi4 : i + 4 ≤ L) (hL : L ≤ 256) (hS : ∀ x1 : Int32, ∃ (r : Int32) (M' : Nat → Ob) (o' : Ob), FX6_stop x1 M = some (r, M') ∧ FX7_stop x1 o = some (r, o') ∧ I (n + 1) M' o') (kk : ∀ (M' : Nat → Ob) (o' : Ob), I (n + 1) M' o' → JC g X nc ns (osX6 hh M' ++ [(shX7, hm, o')]) 724 [(0, .ref b), (1, .ref (hh 0 0)), (2, .ref (hm 0)), (3, .int (nI i))] []) : JC g X nc ns (osX6 hh M ++ [(shX7, hm, o)]) 401 [(0, .ref b), (1, .ref (hh 0 0)), (2, .ref (hm 0)), (3, .int (nI i))] [] := by
  refine j_aload_n C 1 dL_law_401 rfl rfl ?_
  refine j_aload_n C 0 dL_law_402 rfl rfl ?_
  refine j_iload_n C 3 dL_law_403 rfl rfl ?_
  refine j_iconst (v := (1 : Int32)) C dL_law_404 rfl ?_
  refine j_iadd C dL_law_405 ?_
  refine j_sld C K (by rw [show nI i + (1 : Int32) = nI (i + 1) from nI_add i 1]; exact vp_in_nI (by omega) (by omega)) dL_law_406 ?_
  obtain ⟨r, M', o', hF, hG9, hI'⟩ := hS (xs (nI i + (1 : Int32)).toNatClampNeg)
  refine j_callVi (h := fun a => hh a 0) C (os' := (osX6 hh M' ++ [(shX7, hm, o)])) [.int (xs (nI i + (1 : Int32)).toNatClampNeg)] (kX6_stop g hh (xs (nI i + (1 : Int32)).toNatClampNeg) M hF) [0, 1, 2, 3, 4, 5, 6, 7, 8, 9, 10] rfl rfl rfl rfl 0 rfl rfl (wl_gV mw_32_2 mw_32_3 mw_32_4 mw_1_2 mw_32_5) rfl 1 rfl hd_X6_stop ⟨(Nat.le_of_ble_eq_true rfl), (Nat.le_of_ble_eq_true rfl)⟩ (Nat.le_of_ble_eq_true rfl) rfl dL_law_407 ?_
  refine j_aload_n C 2 dL_law_410 rfl rfl ?_
  refine j_aload_n C 0 dL_law_411 rfl rfl ?_
  refine j_iload_n C 3 dL_law_412 rfl rfl ?_
  refine j_iconst (v := (1 : Int32)) C dL_law_413 rfl ?_
  refine j_iadd C dL_law_414 ?_
  refine j_sld C K (by rw [show nI i + (1 : Int32) = nI (i + 1) from nI_add i 1]; exact vp_in_nI (by omega) (by omega)) dL_law_415 ?_
  refine j_callVi (h := hm) C (os' := (osX6 hh M' ++ [(shX7, hm, o')])) [.int (xs (nI i + (1 : Int32)).toNatClampNeg)] (kX7_stop g hm (xs (nI i + (1 : Int32)).toNatClampNeg) o hG9) [11] rfl rfl rfl rfl 11 rfl rfl (wl_gV mw_32_8 mw_32_9 mw_32_10 mw_1_5 mw_32_11) rfl 1 rfl hd_X7_stop ⟨(Nat.le_of_ble_eq_true rfl), (Nat.le_of_ble_eq_true rfl)⟩ (Nat.le_of_ble_eq_true rfl) rfl dL_law_416 ?_
  refine j_icmp_eq C 724 dL_law_419 rfl (fun _ => ?_) (fun c9 => absurd rfl c9)
  exact kk M' o' hI'
set_option maxRecDepth 100000 in
set_option maxHeartbeats 4000000 in
theorem law_change {g : Gl} {X : Cxt} (C : CxOk g X code RL (Cond.classLink RL 7 RX6 :: wsL_law) 4 13 500) {b L : Nat} {xs : Nat → Int32} (K : LawOk X b L xs) {I : Nat → (Nat → Ob) → Ob → Prop} {hh : Nat → Nat → Nat} {hm : Nat → Nat} {n i nc ns : Nat} {M : Nat → Ob} {o : Ob} (hi4 : i + 4 ≤ L) (hL : L ≤ 256) (hS : ∀ x1 x2 : Int32, ∃ (r : Int32) (M' : Nat → Ob) (o' : Ob), FX6_change x1 x2 M = some (r, M') ∧ FX7_change x1 x2 o = some (r, o') ∧ I (n + 1) M' o') (kk : ∀ (M' : Nat → Ob) (o' : Ob), I (n + 1) M' o' → JC g X nc ns (osX6 hh M' ++ [(shX7, hm, o')]) 724 [(0, .ref b), (1, .ref (hh 0 0)), (2, .ref (hm 0)), (3, .int (nI i))] []) : JC g X nc ns (osX6 hh M ++ [(shX7, hm, o)]) 424 [(0, .ref b), (1, .ref (hh 0 0)), (2, .ref (hm 0)), (3, .int (nI i))] [] := by
  refine j_aload_n C 1 dL_law_424 rfl rfl ?_
  refine j_aload_n C 0 dL_law_425 rfl rfl ?_
  refine j_iload_n C 3 dL_law_426 rfl rfl ?_
  refine j_iconst (v := (1 : Int32)) C dL_law_427 rfl ?_
  refine j_iadd C dL_law_428 ?_
  refine j_sld C K (by rw [show nI i + (1 : Int32) = nI (i + 1) from nI_add i 1]; exact vp_in_nI (by omega) (by omega)) dL_law_429 ?_
  refine j_aload_n C 0 dL_law_430 rfl rfl ?_
  refine j_iload_n C 3 dL_law_431 rfl rfl ?_
  refine j_iconst (v := (2 : Int32)) C dL_law_432 rfl ?_
  refine j_iadd C dL_law_433 ?_
  refine j_sld C K (by rw [show nI i + (2 : Int32) = nI (i + 2) from nI_add i 2]; exact vp_in_nI (by omega) (by omega)) dL_law_434 ?_
  obtain ⟨r, M', o', hF, hG9, hI'⟩ := hS (xs (nI i + (1 : Int32)).toNatClampNeg) (xs (nI i + (2 : Int32)).toNatClampNeg)
  refine j_callVi (h := fun a => hh a 0) C (os' := (osX6 hh M' ++ [(shX7, hm, o)])) [.int (xs (nI i + (1 : Int32)).toNatClampNeg), .int (xs (nI i + (2 : Int32)).toNatClampNeg)] (kX6_change g hh (xs (nI i + (1 : Int32)).toNatClampNeg) (xs (nI i + (2 : Int32)).toNatClampNeg) M hF) [0, 1, 2, 3, 4, 5, 6, 7, 8, 9, 10] rfl rfl rfl rfl 0 rfl rfl (wl_gV mw_32_12 mw_32_13 mw_32_14 mw_1_2 mw_32_15) rfl 2 rfl hd_X6_change ⟨(Nat.le_of_ble_eq_true rfl), (Nat.le_of_ble_eq_true rfl)⟩ (Nat.le_of_ble_eq_true rfl) rfl dL_law_435 ?_
  refine j_aload_n C 2 dL_law_438 rfl rfl ?_
  refine j_aload_n C 0 dL_law_439 rfl rfl ?_
  refine j_iload_n C 3 dL_law_440 rfl rfl ?_
  refine j_iconst (v := (1 : Int32)) C dL_law_441 rfl ?_
  refine j_iadd C dL_law_442 ?_
  refine j_sld C K (by rw [show nI i + (1 : Int32) = nI (i + 1) from nI_add i 1]; exact vp_in_nI (by omega) (by omega)) dL_law_443 ?_
  refine j_aload_n C 0 dL_law_444 rfl rfl ?_
  refine j_iload_n C 3 dL_law_445 rfl rfl ?_
  refine j_iconst (v := (2 : Int32)) C dL_law_446 rfl ?_
  refine j_iadd C dL_law_447 ?_
  refine j_sld C K (by rw [show nI i + (2 : Int32) = nI (i + 2) from nI_add i 2]; exact vp_in_nI (by omega) (by omega)) dL_law_448 ?_
  refine j_callVi (h := hm) C (os' := (osX6 hh M' ++ [(shX7, hm, o')])) [.int (xs (nI i + (1 : Int32)).toNatClampNeg), .int (xs (nI i + (2 : Int32)).toNatClampNeg)] (kX7_change g hm (xs (nI i + (1 : Int32)).toNatClampNeg) (xs (nI i + (2 : Int32)).toNatClampNeg) o hG9) [11] rfl rfl rfl rfl 11 rfl rfl (wl_gV mw_32_16 mw_32_17 mw_32_18 mw_1_5 mw_32_19) rfl 2 rfl hd_X7_change ⟨(Nat.le_of_ble_eq_true rfl), (Nat.le_of_ble_eq_true rfl)⟩ (Nat.le_of_ble_eq_true rfl) rfl dL_law_449 ?_
  refine j_icmp_eq C 724 dL_law_452 rfl (fun _ => ?_) (fun c9 => absurd rfl c9)
  exact kk M' o' hI'
set_option maxRecDepth 100000 in
set_option maxHeartbeats 4000000 in
theorem law_flip {g : Gl} {X : Cxt} (C : CxOk g X code RL (Cond.classLink RL 7 RX6 :: wsL_law) 4 13 500) {b L : Nat} {xs : Nat → Int32} (K : LawOk X b L xs) {I : Nat → (Nat → Ob) → Ob → Prop} {hh : Nat → Nat → Nat} {hm : Nat → Nat} {n i nc ns : Nat} {M : Nat → Ob} {o : Ob} (hi4 : i + 4 ≤ L) (hL : L ≤ 256) (hS : ∀ x1 : Int32, ∃ (r : Int32) (M' : Nat → Ob) (o' : Ob), FX6_flip x1 M = some (r, M') ∧ FX7_flip x1 o = some (r, o') ∧ I (n + 1) M' o') (kk : ∀ (M' : Nat → Ob) (o' : Ob), I (n + 1) M' o' → JC g X nc ns (osX6 hh M' ++ [(shX7, hm, o')]) 724 [(0, .ref b), (1, .ref (hh 0 0)), (2, .ref (hm 0)), (3, .int (nI i))] []) : JC g X nc ns (osX6 hh M ++ [(shX7, hm, o)]) 457 [(0, .ref b), (1, .ref (hh 0 0)), (2, .ref (hm 0)), (3, .int (nI i))] [] := by
  refine j_aload_n C 1 dL_law_457 rfl rfl ?_
  refine j_aload_n C 0 dL_law_458 rfl rfl ?_
  refine j_iload_n C 3 dL_law_459 rfl rfl ?_
  refine j_iconst (v := (1 : Int32)) C dL_law_460 rfl ?_
  refine j_iadd C dL_law_461 ?_
  refine j_sld C K (by rw [show nI i + (1 : Int32) = nI (i + 1) from nI_add i 1]; exact vp_in_nI (by omega) (by omega)) dL_law_462 ?_
  obtain ⟨r, M', o', hF, hG9, hI'⟩ := hS (xs (nI i + (1 : Int32)).toNatClampNeg)
  refine j_callVi (h := fun a => hh a 0) C (os' := (osX6 hh M' ++ [(shX7, hm, o)])) [.int (xs (nI i + (1 : Int32)).toNatClampNeg)] (kX6_flip g hh (xs (nI i + (1 : Int32)).toNatClampNeg) M hF) [0, 1, 2, 3, 4, 5, 6, 7, 8, 9, 10] rfl rfl rfl rfl 0 rfl rfl (wl_gV mw_33_0 mw_33_1 mw_33_2 mw_1_2 mw_33_3) rfl 1 rfl hd_X6_flip ⟨(Nat.le_of_ble_eq_true rfl), (Nat.le_of_ble_eq_true rfl)⟩ (Nat.le_of_ble_eq_true rfl) rfl dL_law_463 ?_
  refine j_aload_n C 2 dL_law_466 rfl rfl ?_
  refine j_aload_n C 0 dL_law_467 rfl rfl ?_
  refine j_iload_n C 3 dL_law_468 rfl rfl ?_
  refine j_iconst (v := (1 : Int32)) C dL_law_469 rfl ?_
  refine j_iadd C dL_law_470 ?_
  refine j_sld C K (by rw [show nI i + (1 : Int32) = nI (i + 1) from nI_add i 1]; exact vp_in_nI (by omega) (by omega)) dL_law_471 ?_
  refine j_callVi (h := hm) C (os' := (osX6 hh M' ++ [(shX7, hm, o')])) [.int (xs (nI i + (1 : Int32)).toNatClampNeg)] (kX7_flip g hm (xs (nI i + (1 : Int32)).toNatClampNeg) o hG9) [11] rfl rfl rfl rfl 11 rfl rfl (wl_gV mw_33_8 mw_33_9 mw_33_10 mw_1_5 mw_33_11) rfl 1 rfl hd_X7_flip ⟨(Nat.le_of_ble_eq_true rfl), (Nat.le_of_ble_eq_true rfl)⟩ (Nat.le_of_ble_eq_true rfl) rfl dL_law_472 ?_
  refine j_icmp_eq C 724 dL_law_475 rfl (fun _ => ?_) (fun c9 => absurd rfl c9)
  exact kk M' o' hI'
set_option maxRecDepth 100000 in
set_option maxHeartbeats 4000000 in
theorem law_ending {g : Gl} {X : Cxt} (C : CxOk g X code RL (Cond.classLink RL 7 RX6 :: wsL_law) 4 13 500) {b L : Nat} {xs : Nat → Int32} (K : LawOk X b L xs) {I : Nat → (Nat → Ob) → Ob → Prop} {hh : Nat → Nat → Nat} {hm : Nat → Nat} {n i nc ns : Nat} {M : Nat → Ob} {o : Ob} (hi4 : i + 4 ≤ L) (hL : L ≤ 256) (hS : ∀ x1 : Int32, ∃ (r : Int32) (M' : Nat → Ob) (o' : Ob), FX6_ending x1 M = some (r, M') ∧ FX7_ending x1 o = some (r, o') ∧ I (n + 1) M' o') (kk : ∀ (M' : Nat → Ob) (o' : Ob), I (n + 1) M' o' → JC g X nc ns (osX6 hh M' ++ [(shX7, hm, o')]) 724 [(0, .ref b), (1, .ref (hh 0 0)), (2, .ref (hm 0)), (3, .int (nI i))] []) : JC g X nc ns (osX6 hh M ++ [(shX7, hm, o)]) 480 [(0, .ref b), (1, .ref (hh 0 0)), (2, .ref (hm 0)), (3, .int (nI i))] [] := by
  refine j_aload_n C 1 dL_law_480 rfl rfl ?_
  refine j_aload_n C 0 dL_law_481 rfl rfl ?_
  refine j_iload_n C 3 dL_law_482 rfl rfl ?_
  refine j_iconst (v := (1 : Int32)) C dL_law_483 rfl ?_
  refine j_iadd C dL_law_484 ?_
  refine j_sld C K (by rw [show nI i + (1 : Int32) = nI (i + 1) from nI_add i 1]; exact vp_in_nI (by omega) (by omega)) dL_law_485 ?_
  obtain ⟨r, M', o', hF, hG9, hI'⟩ := hS (xs (nI i + (1 : Int32)).toNatClampNeg)
  refine j_callVi (h := fun a => hh a 0) C (os' := (osX6 hh M' ++ [(shX7, hm, o)])) [.int (xs (nI i + (1 : Int32)).toNatClampNeg)] (kX6_ending g hh (xs (nI i + (1 : Int32)).toNatClampNeg) M hF) [0, 1, 2, 3, 4, 5, 6, 7, 8, 9, 10] rfl rfl rfl rfl 0 rfl rfl (wl_gV mw_33_12 mw_33_13 mw_33_14 mw_1_2 mw_33_15) rfl 1 rfl hd_X6_ending ⟨(Nat.le_of_ble_eq_true rfl), (Nat.le_of_ble_eq_true rfl)⟩ (Nat.le_of_ble_eq_true rfl) rfl dL_law_486 ?_
  refine j_aload_n C 2 dL_law_489 rfl rfl ?_
  refine j_aload_n C 0 dL_law_490 rfl rfl ?_
  refine j_iload_n C 3 dL_law_491 rfl rfl ?_
  refine j_iconst (v := (1 : Int32)) C dL_law_492 rfl ?_
  refine j_iadd C dL_law_493 ?_
  refine j_sld C K (by rw [show nI i + (1 : Int32) = nI (i + 1) from nI_add i 1]; exact vp_in_nI (by omega) (by omega)) dL_law_494 ?_
  refine j_callVi (h := hm) C (os' := (osX6 hh M' ++ [(shX7, hm, o')])) [.int (xs (nI i + (1 : Int32)).toNatClampNeg)] (kX7_ending g hm (xs (nI i + (1 : Int32)).toNatClampNeg) o hG9) [11] rfl rfl rfl rfl 11 rfl rfl (wl_gV mw_33_20 mw_33_21 mw_33_22 mw_1_5 mw_33_23) rfl 1 rfl hd_X7_ending ⟨(Nat.le_of_ble_eq_true rfl), (Nat.le_of_ble_eq_true rfl)⟩ (Nat.le_of_ble_eq_true rfl) rfl dL_law_495 ?_
  refine j_icmp_eq C 724 dL_law_498 rfl (fun _ => ?_) (fun c9 => absurd rfl c9)
  exact kk M' o' hI'
set_option maxRecDepth 100000 in
set_option maxHeartbeats 4000000 in
theorem law_reading {g : Gl} {X : Cxt} (C : CxOk g X code RL (Cond.classLink RL 7 RX6 :: wsL_law) 4 13 500) {b L : Nat} {xs : Nat → Int32} (K : LawOk X b L xs) {I : Nat → (Nat → Ob) → Ob → Prop} {hh : Nat → Nat → Nat} {hm : Nat → Nat} {n i nc ns : Nat} {M : Nat → Ob} {o : Ob} (hi4 : i + 4 ≤ L) (hL : L ≤ 256) (hS : ∀ x1 : Int32, ∃ (r : Int32) (M' : Nat → Ob) (o' : Ob), FX6_reading x1 M = some (r, M') ∧ FX7_reading x1 o = some (r, o') ∧ I (n + 1) M' o') (kk : ∀ (M' : Nat → Ob) (o' : Ob), I (n + 1) M' o' → JC g X nc ns (osX6 hh M' ++ [(shX7, hm, o')]) 724 [(0, .ref b), (1, .ref (hh 0 0)), (2, .ref (hm 0)), (3, .int (nI i))] []) : JC g X nc ns (osX6 hh M ++ [(shX7, hm, o)]) 503 [(0, .ref b), (1, .ref (hh 0 0)), (2, .ref (hm 0)), (3, .int (nI i))] [] := by
  refine j_aload_n C 1 dL_law_503 rfl rfl ?_
  refine j_aload_n C 0 dL_law_504 rfl rfl ?_
  refine j_iload_n C 3 dL_law_505 rfl rfl ?_
  refine j_iconst (v := (1 : Int32)) C dL_law_506 rfl ?_
  refine j_iadd C dL_law_507 ?_
  refine j_sld C K (by rw [show nI i + (1 : Int32) = nI (i + 1) from nI_add i 1]; exact vp_in_nI (by omega) (by omega)) dL_law_508 ?_
  obtain ⟨r, M', o', hF, hG9, hI'⟩ := hS (xs (nI i + (1 : Int32)).toNatClampNeg)
  refine j_callVi (h := fun a => hh a 0) C (os' := (osX6 hh M' ++ [(shX7, hm, o)])) [.int (xs (nI i + (1 : Int32)).toNatClampNeg)] (kX6_reading g hh (xs (nI i + (1 : Int32)).toNatClampNeg) M hF) [0, 1, 2, 3, 4, 5, 6, 7, 8, 9, 10] rfl rfl rfl rfl 0 rfl rfl (wl_gV mw_34_9 mw_34_10 mw_34_11 mw_1_2 mw_34_12) rfl 1 rfl hd_X6_reading ⟨(Nat.le_of_ble_eq_true rfl), (Nat.le_of_ble_eq_true rfl)⟩ (Nat.le_of_ble_eq_true rfl) rfl dL_law_509 ?_
  refine j_aload_n C 2 dL_law_512 rfl rfl ?_
  refine j_aload_n C 0 dL_law_513 rfl rfl ?_
  refine j_iload_n C 3 dL_law_514 rfl rfl ?_
  refine j_iconst (v := (1 : Int32)) C dL_law_515 rfl ?_
  refine j_iadd C dL_law_516 ?_
  refine j_sld C K (by rw [show nI i + (1 : Int32) = nI (i + 1) from nI_add i 1]; exact vp_in_nI (by omega) (by omega)) dL_law_517 ?_
  refine j_callVi (h := hm) C (os' := (osX6 hh M' ++ [(shX7, hm, o')])) [.int (xs (nI i + (1 : Int32)).toNatClampNeg)] (kX7_reading g hm (xs (nI i + (1 : Int32)).toNatClampNeg) o hG9) [11] rfl rfl rfl rfl 11 rfl rfl (wl_gV mw_36_5 mw_36_6 mw_36_7 mw_1_5 mw_36_8) rfl 1 rfl hd_X7_reading ⟨(Nat.le_of_ble_eq_true rfl), (Nat.le_of_ble_eq_true rfl)⟩ (Nat.le_of_ble_eq_true rfl) rfl dL_law_518 ?_
  refine j_icmp_eq C 724 dL_law_521 rfl (fun _ => ?_) (fun c9 => absurd rfl c9)
  exact kk M' o' hI'
set_option maxRecDepth 100000 in
set_option maxHeartbeats 4000000 in
theorem law_endReading {g : Gl} {X : Cxt} (C : CxOk g X code RL (Cond.classLink RL 7 RX6 :: wsL_law) 4 13 500) {b L : Nat} {xs : Nat → Int32} (K : LawOk X b L xs) {I : Nat → (Nat → Ob) → Ob → Prop} {hh : Nat → Nat → Nat} {hm : Nat → Nat} {n i nc ns : Nat} {M : Nat → Ob} {o : Ob} (hi4 : i + 4 ≤ L) (hL : L ≤ 256) (hS : ∀ x1 : Int32, ∃ (r : Int32) (M' : Nat → Ob) (o' : Ob), FX6_endReading x1 M = some (r, M') ∧ FX7_endReading x1 o = some (r, o') ∧ I (n + 1) M' o') (kk : ∀ (M' : Nat → Ob) (o' : Ob), I (n + 1) M' o' → JC g X nc ns (osX6 hh M' ++ [(shX7, hm, o')]) 724 [(0, .ref b), (1, .ref (hh 0 0)), (2, .ref (hm 0)), (3, .int (nI i))] []) : JC g X nc ns (osX6 hh M ++ [(shX7, hm, o)]) 526 [(0, .ref b), (1, .ref (hh 0 0)), (2, .ref (hm 0)), (3, .int (nI i))] [] := by
  refine j_aload_n C 1 dL_law_526 rfl rfl ?_
  refine j_aload_n C 0 dL_law_527 rfl rfl ?_
  refine j_iload_n C 3 dL_law_528 rfl rfl ?_
  refine j_iconst (v := (1 : Int32)) C dL_law_529 rfl ?_
  refine j_iadd C dL_law_530 ?_
  refine j_sld C K (by rw [show nI i + (1 : Int32) = nI (i + 1) from nI_add i 1]; exact vp_in_nI (by omega) (by omega)) dL_law_531 ?_
  obtain ⟨r, M', o', hF, hG9, hI'⟩ := hS (xs (nI i + (1 : Int32)).toNatClampNeg)
  refine j_callVi (h := fun a => hh a 0) C (os' := (osX6 hh M' ++ [(shX7, hm, o)])) [.int (xs (nI i + (1 : Int32)).toNatClampNeg)] (kX6_endReading g hh (xs (nI i + (1 : Int32)).toNatClampNeg) M hF) [0, 1, 2, 3, 4, 5, 6, 7, 8, 9, 10] rfl rfl rfl rfl 0 rfl rfl (wl_gV mw_37_4 mw_37_5 mw_37_6 mw_1_2 mw_37_7) rfl 1 rfl hd_X6_endReading ⟨(Nat.le_of_ble_eq_true rfl), (Nat.le_of_ble_eq_true rfl)⟩ (Nat.le_of_ble_eq_true rfl) rfl dL_law_532 ?_
  refine j_aload_n C 2 dL_law_535 rfl rfl ?_
  refine j_aload_n C 0 dL_law_536 rfl rfl ?_
  refine j_iload_n C 3 dL_law_537 rfl rfl ?_
  refine j_iconst (v := (1 : Int32)) C dL_law_538 rfl ?_
  refine j_iadd C dL_law_539 ?_
  refine j_sld C K (by rw [show nI i + (1 : Int32) = nI (i + 1) from nI_add i 1]; exact vp_in_nI (by omega) (by omega)) dL_law_540 ?_
  refine j_callVi (h := hm) C (os' := (osX6 hh M' ++ [(shX7, hm, o')])) [.int (xs (nI i + (1 : Int32)).toNatClampNeg)] (kX7_endReading g hm (xs (nI i + (1 : Int32)).toNatClampNeg) o hG9) [11] rfl rfl rfl rfl 11 rfl rfl (wl_gV mw_37_8 mw_37_9 mw_37_10 mw_1_5 mw_37_11) rfl 1 rfl hd_X7_endReading ⟨(Nat.le_of_ble_eq_true rfl), (Nat.le_of_ble_eq_true rfl)⟩ (Nat.le_of_ble_eq_true rfl) rfl dL_law_541 ?_
  refine j_icmp_eq C 724 dL_law_544 rfl (fun _ => ?_) (fun c9 => absurd rfl c9)
  exact kk M' o' hI'
set_option maxRecDepth 100000 in
set_option maxHeartbeats 4000000 in
theorem law_same {g : Gl} {X : Cxt} (C : CxOk g X code RL (Cond.classLink RL 7 RX6 :: wsL_law) 4 13 500) {b L : Nat} {xs : Nat → Int32} (K : LawOk X b L xs) {I : Nat → (Nat → Ob) → Ob → Prop} {hh : Nat → Nat → Nat} {hm : Nat → Nat} {n i nc ns : Nat} {M : Nat → Ob} {o : Ob} (hi4 : i + 4 ≤ L) (hL : L ≤ 256) (hS : ∃ (r : Int32) (M' : Nat → Ob) (o' : Ob), FX6_same M = some (r, M') ∧ FX7_same o = some (r, o') ∧ I (n + 1) M' o') (kk : ∀ (M' : Nat → Ob) (o' : Ob), I (n + 1) M' o' → JC g X nc ns (osX6 hh M' ++ [(shX7, hm, o')]) 724 [(0, .ref b), (1, .ref (hh 0 0)), (2, .ref (hm 0)), (3, .int (nI i))] []) : JC g X nc ns (osX6 hh M ++ [(shX7, hm, o)]) 549 [(0, .ref b), (1, .ref (hh 0 0)), (2, .ref (hm 0)), (3, .int (nI i))] [] := by
  refine j_aload_n C 1 dL_law_549 rfl rfl ?_
  obtain ⟨r, M', o', hF, hG9, hI'⟩ := hS
  refine j_callVi (h := fun a => hh a 0) C (os' := (osX6 hh M' ++ [(shX7, hm, o)])) [] (kX6_same g hh M hF) [0, 1, 2, 3, 4, 5, 6, 7, 8, 9, 10] rfl rfl rfl rfl 0 rfl rfl (wl_gV mw_37_12 mw_37_13 mw_37_14 mw_1_2 mw_37_15) rfl 0 rfl hd_X6_same ⟨(Nat.le_of_ble_eq_true rfl), (Nat.le_of_ble_eq_true rfl)⟩ (Nat.le_of_ble_eq_true rfl) rfl dL_law_550 ?_
  refine j_aload_n C 2 dL_law_553 rfl rfl ?_
  refine j_callVi (h := hm) C (os' := (osX6 hh M' ++ [(shX7, hm, o')])) [] (kX7_same g hm o hG9) [11] rfl rfl rfl rfl 11 rfl rfl (wl_gV mw_38_2 mw_38_3 mw_38_4 mw_1_5 mw_38_5) rfl 0 rfl hd_X7_same ⟨(Nat.le_of_ble_eq_true rfl), (Nat.le_of_ble_eq_true rfl)⟩ (Nat.le_of_ble_eq_true rfl) rfl dL_law_554 ?_
  refine j_icmp_eq C 724 dL_law_557 rfl (fun _ => ?_) (fun c9 => absurd rfl c9)
  exact kk M' o' hI'
set_option maxRecDepth 100000 in
set_option maxHeartbeats 4000000 in
theorem law_see {g : Gl} {X : Cxt} (C : CxOk g X code RL (Cond.classLink RL 7 RX6 :: wsL_law) 4 13 500) {b L : Nat} {xs : Nat → Int32} (K : LawOk X b L xs) {I : Nat → (Nat → Ob) → Ob → Prop} {hh : Nat → Nat → Nat} {hm : Nat → Nat} {n i nc ns : Nat} {M : Nat → Ob} {o : Ob} (hi4 : i + 4 ≤ L) (hL : L ≤ 256) (hS : ∀ x1 x2 x3 : Int32, ∃ (r : Int32) (M' : Nat → Ob) (o' : Ob), FX6_see x1 x2 x3 M = some (r, M') ∧ FX7_see x1 x2 x3 o = some (r, o') ∧ I (n + 1) M' o') (kk : ∀ (M' : Nat → Ob) (o' : Ob), I (n + 1) M' o' → JC g X nc ns (osX6 hh M' ++ [(shX7, hm, o')]) 724 [(0, .ref b), (1, .ref (hh 0 0)), (2, .ref (hm 0)), (3, .int (nI i))] []) : JC g X nc ns (osX6 hh M ++ [(shX7, hm, o)]) 562 [(0, .ref b), (1, .ref (hh 0 0)), (2, .ref (hm 0)), (3, .int (nI i))] [] := by
  refine j_aload_n C 1 dL_law_562 rfl rfl ?_
  refine j_aload_n C 0 dL_law_563 rfl rfl ?_
  refine j_iload_n C 3 dL_law_564 rfl rfl ?_
  refine j_iconst (v := (1 : Int32)) C dL_law_565 rfl ?_
  refine j_iadd C dL_law_566 ?_
  refine j_sld C K (by rw [show nI i + (1 : Int32) = nI (i + 1) from nI_add i 1]; exact vp_in_nI (by omega) (by omega)) dL_law_567 ?_
  refine j_aload_n C 0 dL_law_568 rfl rfl ?_
  refine j_iload_n C 3 dL_law_569 rfl rfl ?_
  refine j_iconst (v := (2 : Int32)) C dL_law_570 rfl ?_
  refine j_iadd C dL_law_571 ?_
  refine j_sld C K (by rw [show nI i + (2 : Int32) = nI (i + 2) from nI_add i 2]; exact vp_in_nI (by omega) (by omega)) dL_law_572 ?_
  refine j_aload_n C 0 dL_law_573 rfl rfl ?_
  refine j_iload_n C 3 dL_law_574 rfl rfl ?_
  refine j_iconst (v := (3 : Int32)) C dL_law_575 rfl ?_
  refine j_iadd C dL_law_576 ?_
  refine j_sld C K (by rw [show nI i + (3 : Int32) = nI (i + 3) from nI_add i 3]; exact vp_in_nI (by omega) (by omega)) dL_law_577 ?_
  obtain ⟨r, M', o', hF, hG9, hI'⟩ := hS (xs (nI i + (1 : Int32)).toNatClampNeg) (xs (nI i + (2 : Int32)).toNatClampNeg) (xs (nI i + (3 : Int32)).toNatClampNeg)
  refine j_callVi (h := fun a => hh a 0) C (os' := (osX6 hh M' ++ [(shX7, hm, o)])) [.int (xs (nI i + (1 : Int32)).toNatClampNeg), .int (xs (nI i + (2 : Int32)).toNatClampNeg), .int (xs (nI i + (3 : Int32)).toNatClampNeg)] (kX6_see g hh (xs (nI i + (1 : Int32)).toNatClampNeg) (xs (nI i + (2 : Int32)).toNatClampNeg) (xs (nI i + (3 : Int32)).toNatClampNeg) M hF) [0, 1, 2, 3, 4, 5, 6, 7, 8, 9, 10] rfl rfl rfl rfl 0 rfl rfl (wl_gV mw_38_8 mw_38_9 mw_38_10 mw_1_2 mw_38_11) rfl 3 rfl hd_X6_see ⟨(Nat.le_of_ble_eq_true rfl), (Nat.le_of_ble_eq_true rfl)⟩ (Nat.le_of_ble_eq_true rfl) rfl dL_law_578 ?_
  refine j_aload_n C 2 dL_law_581 rfl rfl ?_
  refine j_aload_n C 0 dL_law_582 rfl rfl ?_
  refine j_iload_n C 3 dL_law_583 rfl rfl ?_
  refine j_iconst (v := (1 : Int32)) C dL_law_584 rfl ?_
  refine j_iadd C dL_law_585 ?_
  refine j_sld C K (by rw [show nI i + (1 : Int32) = nI (i + 1) from nI_add i 1]; exact vp_in_nI (by omega) (by omega)) dL_law_586 ?_
  refine j_aload_n C 0 dL_law_587 rfl rfl ?_
  refine j_iload_n C 3 dL_law_588 rfl rfl ?_
  refine j_iconst (v := (2 : Int32)) C dL_law_589 rfl ?_
  refine j_iadd C dL_law_590 ?_
  refine j_sld C K (by rw [show nI i + (2 : Int32) = nI (i + 2) from nI_add i 2]; exact vp_in_nI (by omega) (by omega)) dL_law_591 ?_
  refine j_aload_n C 0 dL_law_592 rfl rfl ?_
  refine j_iload_n C 3 dL_law_593 rfl rfl ?_
  refine j_iconst (v := (3 : Int32)) C dL_law_594 rfl ?_
  refine j_iadd C dL_law_595 ?_
  refine j_sld C K (by rw [show nI i + (3 : Int32) = nI (i + 3) from nI_add i 3]; exact vp_in_nI (by omega) (by omega)) dL_law_596 ?_
  refine j_callVi (h := hm) C (os' := (osX6 hh M' ++ [(shX7, hm, o')])) [.int (xs (nI i + (1 : Int32)).toNatClampNeg), .int (xs (nI i + (2 : Int32)).toNatClampNeg), .int (xs (nI i + (3 : Int32)).toNatClampNeg)] (kX7_see g hm (xs (nI i + (1 : Int32)).toNatClampNeg) (xs (nI i + (2 : Int32)).toNatClampNeg) (xs (nI i + (3 : Int32)).toNatClampNeg) o hG9) [11] rfl rfl rfl rfl 11 rfl rfl (wl_gV mw_38_20 mw_38_21 mw_38_22 mw_1_5 mw_38_23) rfl 3 rfl hd_X7_see ⟨(Nat.le_of_ble_eq_true rfl), (Nat.le_of_ble_eq_true rfl)⟩ (Nat.le_of_ble_eq_true rfl) rfl dL_law_597 ?_
  refine j_icmp_eq C 724 dL_law_600 rfl (fun _ => ?_) (fun c9 => absurd rfl c9)
  exact kk M' o' hI'
set_option maxRecDepth 100000 in
set_option maxHeartbeats 4000000 in
theorem law_forget {g : Gl} {X : Cxt} (C : CxOk g X code RL (Cond.classLink RL 7 RX6 :: wsL_law) 4 13 500) {b L : Nat} {xs : Nat → Int32} (K : LawOk X b L xs) {I : Nat → (Nat → Ob) → Ob → Prop} {hh : Nat → Nat → Nat} {hm : Nat → Nat} {n i nc ns : Nat} {M : Nat → Ob} {o : Ob} (hi4 : i + 4 ≤ L) (hL : L ≤ 256) (hS : ∃ (r : Int32) (M' : Nat → Ob) (o' : Ob), FX6_forget M = some (r, M') ∧ FX7_forget o = some (r, o') ∧ I (n + 1) M' o') (kk : ∀ (M' : Nat → Ob) (o' : Ob), I (n + 1) M' o' → JC g X nc ns (osX6 hh M' ++ [(shX7, hm, o')]) 724 [(0, .ref b), (1, .ref (hh 0 0)), (2, .ref (hm 0)), (3, .int (nI i))] []) : JC g X nc ns (osX6 hh M ++ [(shX7, hm, o)]) 605 [(0, .ref b), (1, .ref (hh 0 0)), (2, .ref (hm 0)), (3, .int (nI i))] [] := by
  refine j_aload_n C 1 dL_law_605 rfl rfl ?_
  obtain ⟨r, M', o', hF, hG9, hI'⟩ := hS
  refine j_callVi (h := fun a => hh a 0) C (os' := (osX6 hh M' ++ [(shX7, hm, o)])) [] (kX6_forget g hh M hF) [0, 1, 2, 3, 4, 5, 6, 7, 8, 9, 10] rfl rfl rfl rfl 0 rfl rfl (wl_gV mw_39_0 mw_39_1 mw_39_2 mw_1_2 mw_39_3) rfl 0 rfl hd_X6_forget ⟨(Nat.le_of_ble_eq_true rfl), (Nat.le_of_ble_eq_true rfl)⟩ (Nat.le_of_ble_eq_true rfl) rfl dL_law_606 ?_
  refine j_aload_n C 2 dL_law_609 rfl rfl ?_
  refine j_callVi (h := hm) C (os' := (osX6 hh M' ++ [(shX7, hm, o')])) [] (kX7_forget g hm o hG9) [11] rfl rfl rfl rfl 11 rfl rfl (wl_gV mw_39_4 mw_39_5 mw_39_6 mw_1_5 mw_39_7) rfl 0 rfl hd_X7_forget ⟨(Nat.le_of_ble_eq_true rfl), (Nat.le_of_ble_eq_true rfl)⟩ (Nat.le_of_ble_eq_true rfl) rfl dL_law_610 ?_
  refine j_icmp_eq C 724 dL_law_613 rfl (fun _ => ?_) (fun c9 => absurd rfl c9)
  exact kk M' o' hI'
set_option maxRecDepth 100000 in
set_option maxHeartbeats 4000000 in
theorem law_runs {g : Gl} {X : Cxt} (C : CxOk g X code RL (Cond.classLink RL 7 RX6 :: wsL_law) 4 13 500) {b L : Nat} {xs : Nat → Int32} (K : LawOk X b L xs) {I : Nat → (Nat → Ob) → Ob → Prop} {hh : Nat → Nat → Nat} {hm : Nat → Nat} {n i nc ns : Nat} {M : Nat → Ob} {o : Ob} (hi4 : i + 4 ≤ L) (hL : L ≤ 256) (hS : ∀ x1 x2 x3 : Int32, ∃ (r : Int32) (M' : Nat → Ob) (o' : Ob), FX6_runs x1 x2 x3 M = some (r, M') ∧ FX7_runs x1 x2 x3 o = some (r, o') ∧ I (n + 1) M' o') (kk : ∀ (M' : Nat → Ob) (o' : Ob), I (n + 1) M' o' → JC g X nc ns (osX6 hh M' ++ [(shX7, hm, o')]) 724 [(0, .ref b), (1, .ref (hh 0 0)), (2, .ref (hm 0)), (3, .int (nI i))] []) : JC g X nc ns (osX6 hh M ++ [(shX7, hm, o)]) 618 [(0, .ref b), (1, .ref (hh 0 0)), (2, .ref (hm 0)), (3, .int (nI i))] [] := by
  refine j_aload_n C 1 dL_law_618 rfl rfl ?_
  refine j_aload_n C 0 dL_law_619 rfl rfl ?_
  refine j_iload_n C 3 dL_law_620 rfl rfl ?_
  refine j_iconst (v := (1 : Int32)) C dL_law_621 rfl ?_
  refine j_iadd C dL_law_622 ?_
  refine j_sld C K (by rw [show nI i + (1 : Int32) = nI (i + 1) from nI_add i 1]; exact vp_in_nI (by omega) (by omega)) dL_law_623 ?_
  refine j_aload_n C 0 dL_law_624 rfl rfl ?_
  refine j_iload_n C 3 dL_law_625 rfl rfl ?_
  refine j_iconst (v := (2 : Int32)) C dL_law_626 rfl ?_
  refine j_iadd C dL_law_627 ?_
  refine j_sld C K (by rw [show nI i + (2 : Int32) = nI (i + 2) from nI_add i 2]; exact vp_in_nI (by omega) (by omega)) dL_law_628 ?_
  refine j_aload_n C 0 dL_law_629 rfl rfl ?_
  refine j_iload_n C 3 dL_law_630 rfl rfl ?_
  refine j_iconst (v := (3 : Int32)) C dL_law_631 rfl ?_
  refine j_iadd C dL_law_632 ?_
  refine j_sld C K (by rw [show nI i + (3 : Int32) = nI (i + 3) from nI_add i 3]; exact vp_in_nI (by omega) (by omega)) dL_law_633 ?_
  obtain ⟨r, M', o', hF, hG9, hI'⟩ := hS (xs (nI i + (1 : Int32)).toNatClampNeg) (xs (nI i + (2 : Int32)).toNatClampNeg) (xs (nI i + (3 : Int32)).toNatClampNeg)
  refine j_callVi (h := fun a => hh a 0) C (os' := (osX6 hh M' ++ [(shX7, hm, o)])) [.int (xs (nI i + (1 : Int32)).toNatClampNeg), .int (xs (nI i + (2 : Int32)).toNatClampNeg), .int (xs (nI i + (3 : Int32)).toNatClampNeg)] (kX6_runs g hh (xs (nI i + (1 : Int32)).toNatClampNeg) (xs (nI i + (2 : Int32)).toNatClampNeg) (xs (nI i + (3 : Int32)).toNatClampNeg) M hF) [0, 1, 2, 3, 4, 5, 6, 7, 8, 9, 10] rfl rfl rfl rfl 0 rfl rfl (wl_gV mw_39_8 mw_39_9 mw_39_10 mw_1_2 mw_39_11) rfl 3 rfl hd_X6_runs ⟨(Nat.le_of_ble_eq_true rfl), (Nat.le_of_ble_eq_true rfl)⟩ (Nat.le_of_ble_eq_true rfl) rfl dL_law_634 ?_
  refine j_aload_n C 2 dL_law_637 rfl rfl ?_
  refine j_aload_n C 0 dL_law_638 rfl rfl ?_
  refine j_iload_n C 3 dL_law_639 rfl rfl ?_
  refine j_iconst (v := (1 : Int32)) C dL_law_640 rfl ?_
  refine j_iadd C dL_law_641 ?_
  refine j_sld C K (by rw [show nI i + (1 : Int32) = nI (i + 1) from nI_add i 1]; exact vp_in_nI (by omega) (by omega)) dL_law_642 ?_
  refine j_aload_n C 0 dL_law_643 rfl rfl ?_
  refine j_iload_n C 3 dL_law_644 rfl rfl ?_
  refine j_iconst (v := (2 : Int32)) C dL_law_645 rfl ?_
  refine j_iadd C dL_law_646 ?_
  refine j_sld C K (by rw [show nI i + (2 : Int32) = nI (i + 2) from nI_add i 2]; exact vp_in_nI (by omega) (by omega)) dL_law_647 ?_
  refine j_aload_n C 0 dL_law_648 rfl rfl ?_
  refine j_iload_n C 3 dL_law_649 rfl rfl ?_
  refine j_iconst (v := (3 : Int32)) C dL_law_650 rfl ?_
  refine j_iadd C dL_law_651 ?_
  refine j_sld C K (by rw [show nI i + (3 : Int32) = nI (i + 3) from nI_add i 3]; exact vp_in_nI (by omega) (by omega)) dL_law_652 ?_
  refine j_callVi (h := hm) C (os' := (osX6 hh M' ++ [(shX7, hm, o')])) [.int (xs (nI i + (1 : Int32)).toNatClampNeg), .int (xs (nI i + (2 : Int32)).toNatClampNeg), .int (xs (nI i + (3 : Int32)).toNatClampNeg)] (kX7_runs g hm (xs (nI i + (1 : Int32)).toNatClampNeg) (xs (nI i + (2 : Int32)).toNatClampNeg) (xs (nI i + (3 : Int32)).toNatClampNeg) o hG9) [11] rfl rfl rfl rfl 11 rfl rfl (wl_gV mw_39_20 mw_39_21 mw_39_22 mw_1_5 mw_39_23) rfl 3 rfl hd_X7_runs ⟨(Nat.le_of_ble_eq_true rfl), (Nat.le_of_ble_eq_true rfl)⟩ (Nat.le_of_ble_eq_true rfl) rfl dL_law_653 ?_
  refine j_icmp_eq C 724 dL_law_656 rfl (fun _ => ?_) (fun c9 => absurd rfl c9)
  exact kk M' o' hI'
set_option maxRecDepth 100000 in
set_option maxHeartbeats 4000000 in
theorem law_image {g : Gl} {X : Cxt} (C : CxOk g X code RL (Cond.classLink RL 7 RX6 :: wsL_law) 4 13 500) {b L : Nat} {xs : Nat → Int32} (K : LawOk X b L xs) {I : Nat → (Nat → Ob) → Ob → Prop} {hh : Nat → Nat → Nat} {hm : Nat → Nat} {n i nc ns : Nat} {M : Nat → Ob} {o : Ob} (hi4 : i + 4 ≤ L) (hL : L ≤ 256) (hS : ∃ (r : Int32) (M' : Nat → Ob) (o' : Ob), FX6_image M = some (r, M') ∧ FX7_image o = some (r, o') ∧ I (n + 1) M' o') (kk : ∀ (M' : Nat → Ob) (o' : Ob), I (n + 1) M' o' → JC g X nc ns (osX6 hh M' ++ [(shX7, hm, o')]) 724 [(0, .ref b), (1, .ref (hh 0 0)), (2, .ref (hm 0)), (3, .int (nI i))] []) : JC g X nc ns (osX6 hh M ++ [(shX7, hm, o)]) 661 [(0, .ref b), (1, .ref (hh 0 0)), (2, .ref (hm 0)), (3, .int (nI i))] [] := by
  refine j_aload_n C 1 dL_law_661 rfl rfl ?_
  obtain ⟨r, M', o', hF, hG9, hI'⟩ := hS
  refine j_callVi (h := fun a => hh a 0) C (os' := (osX6 hh M' ++ [(shX7, hm, o)])) [] (kX6_image g hh M hF) [0, 1, 2, 3, 4, 5, 6, 7, 8, 9, 10] rfl rfl rfl rfl 0 rfl rfl (wl_gV mw_40_13 mw_40_14 mw_40_15 mw_1_2 mw_40_16) rfl 0 rfl hd_X6_image ⟨(Nat.le_of_ble_eq_true rfl), (Nat.le_of_ble_eq_true rfl)⟩ (Nat.le_of_ble_eq_true rfl) rfl dL_law_662 ?_
  refine j_aload_n C 2 dL_law_665 rfl rfl ?_
  refine j_callVi (h := hm) C (os' := (osX6 hh M' ++ [(shX7, hm, o')])) [] (kX7_image g hm o hG9) [11] rfl rfl rfl rfl 11 rfl rfl (wl_gV mw_40_22 mw_40_23 mw_41_0 mw_1_5 mw_41_1) rfl 0 rfl hd_X7_image ⟨(Nat.le_of_ble_eq_true rfl), (Nat.le_of_ble_eq_true rfl)⟩ (Nat.le_of_ble_eq_true rfl) rfl dL_law_666 ?_
  refine j_icmp_eq C 724 dL_law_669 rfl (fun _ => ?_) (fun c9 => absurd rfl c9)
  exact kk M' o' hI'
set_option maxRecDepth 100000 in
set_option maxHeartbeats 4000000 in
theorem law_restore {g : Gl} {X : Cxt} (C : CxOk g X code RL (Cond.classLink RL 7 RX6 :: wsL_law) 4 13 500) {b L : Nat} {xs : Nat → Int32} (K : LawOk X b L xs) {I : Nat → (Nat → Ob) → Ob → Prop} {hh : Nat → Nat → Nat} {hm : Nat → Nat} {n i nc ns : Nat} {M : Nat → Ob} {o : Ob} (hi4 : i + 4 ≤ L) (hL : L ≤ 256) (hS : ∃ (r : Int32) (M' : Nat → Ob) (o' : Ob), FX6_restore M = some (r, M') ∧ FX7_restore o = some (r, o') ∧ I (n + 1) M' o') (kk : ∀ (M' : Nat → Ob) (o' : Ob), I (n + 1) M' o' → JC g X nc ns (osX6 hh M' ++ [(shX7, hm, o')]) 724 [(0, .ref b), (1, .ref (hh 0 0)), (2, .ref (hm 0)), (3, .int (nI i))] []) : JC g X nc ns (osX6 hh M ++ [(shX7, hm, o)]) 674 [(0, .ref b), (1, .ref (hh 0 0)), (2, .ref (hm 0)), (3, .int (nI i))] [] := by
  refine j_aload_n C 1 dL_law_674 rfl rfl ?_
  obtain ⟨r, M', o', hF, hG9, hI'⟩ := hS
  refine j_callVi (h := fun a => hh a 0) C (os' := (osX6 hh M' ++ [(shX7, hm, o)])) [] (kX6_restore g hh M hF) [0, 1, 2, 3, 4, 5, 6, 7, 8, 9, 10] rfl rfl rfl rfl 0 rfl rfl (wl_gV mw_41_7 mw_41_8 mw_41_9 mw_1_2 mw_41_10) rfl 0 rfl hd_X6_restore ⟨(Nat.le_of_ble_eq_true rfl), (Nat.le_of_ble_eq_true rfl)⟩ (Nat.le_of_ble_eq_true rfl) rfl dL_law_675 ?_
  refine j_aload_n C 2 dL_law_678 rfl rfl ?_
  refine j_callVi (h := hm) C (os' := (osX6 hh M' ++ [(shX7, hm, o')])) [] (kX7_restore g hm o hG9) [11] rfl rfl rfl rfl 11 rfl rfl (wl_gV mw_41_11 mw_41_12 mw_41_13 mw_1_5 mw_41_14) rfl 0 rfl hd_X7_restore ⟨(Nat.le_of_ble_eq_true rfl), (Nat.le_of_ble_eq_true rfl)⟩ (Nat.le_of_ble_eq_true rfl) rfl dL_law_679 ?_
  refine j_icmp_eq C 724 dL_law_682 rfl (fun _ => ?_) (fun c9 => absurd rfl c9)
  exact kk M' o' hI'
set_option maxRecDepth 100000 in
set_option maxHeartbeats 4000000 in
theorem law_count {g : Gl} {X : Cxt} (C : CxOk g X code RL (Cond.classLink RL 7 RX6 :: wsL_law) 4 13 500) {b L : Nat} {xs : Nat → Int32} (K : LawOk X b L xs) {I : Nat → (Nat → Ob) → Ob → Prop} {hh : Nat → Nat → Nat} {hm : Nat → Nat} {n i nc ns : Nat} {M : Nat → Ob} {o : Ob} (hi4 : i + 4 ≤ L) (hL : L ≤ 256) (hS : ∀ x1 : Int32, ∃ (r : Int32) (M' : Nat → Ob) (o' : Ob), FX6_count x1 M = some (r, M') ∧ FX7_count x1 o = some (r, o') ∧ I (n + 1) M' o') (kk : ∀ (M' : Nat → Ob) (o' : Ob), I (n + 1) M' o' → JC g X nc ns (osX6 hh M' ++ [(shX7, hm, o')]) 724 [(0, .ref b), (1, .ref (hh 0 0)), (2, .ref (hm 0)), (3, .int (nI i))] []) : JC g X nc ns (osX6 hh M ++ [(shX7, hm, o)]) 687 [(0, .ref b), (1, .ref (hh 0 0)), (2, .ref (hm 0)), (3, .int (nI i))] [] := by
  refine j_aload_n C 1 dL_law_687 rfl rfl ?_
  refine j_aload_n C 0 dL_law_688 rfl rfl ?_
  refine j_iload_n C 3 dL_law_689 rfl rfl ?_
  refine j_iconst (v := (1 : Int32)) C dL_law_690 rfl ?_
  refine j_iadd C dL_law_691 ?_
  refine j_sld C K (by rw [show nI i + (1 : Int32) = nI (i + 1) from nI_add i 1]; exact vp_in_nI (by omega) (by omega)) dL_law_692 ?_
  obtain ⟨r, M', o', hF, hG9, hI'⟩ := hS (xs (nI i + (1 : Int32)).toNatClampNeg)
  refine j_callVi (h := fun a => hh a 0) C (os' := (osX6 hh M' ++ [(shX7, hm, o)])) [.int (xs (nI i + (1 : Int32)).toNatClampNeg)] (kX6_count g hh (xs (nI i + (1 : Int32)).toNatClampNeg) M hF) [0, 1, 2, 3, 4, 5, 6, 7, 8, 9, 10] rfl rfl rfl rfl 0 rfl rfl (wl_gV mw_41_15 mw_41_16 mw_41_17 mw_1_2 mw_41_18) rfl 1 rfl hd_X6_count ⟨(Nat.le_of_ble_eq_true rfl), (Nat.le_of_ble_eq_true rfl)⟩ (Nat.le_of_ble_eq_true rfl) rfl dL_law_693 ?_
  refine j_aload_n C 2 dL_law_696 rfl rfl ?_
  refine j_aload_n C 0 dL_law_697 rfl rfl ?_
  refine j_iload_n C 3 dL_law_698 rfl rfl ?_
  refine j_iconst (v := (1 : Int32)) C dL_law_699 rfl ?_
  refine j_iadd C dL_law_700 ?_
  refine j_sld C K (by rw [show nI i + (1 : Int32) = nI (i + 1) from nI_add i 1]; exact vp_in_nI (by omega) (by omega)) dL_law_701 ?_
  refine j_callVi (h := hm) C (os' := (osX6 hh M' ++ [(shX7, hm, o')])) [.int (xs (nI i + (1 : Int32)).toNatClampNeg)] (kX7_count g hm (xs (nI i + (1 : Int32)).toNatClampNeg) o hG9) [11] rfl rfl rfl rfl 11 rfl rfl (wl_gV mw_42_3 mw_42_4 mw_42_5 mw_1_5 mw_42_6) rfl 1 rfl hd_X7_count ⟨(Nat.le_of_ble_eq_true rfl), (Nat.le_of_ble_eq_true rfl)⟩ (Nat.le_of_ble_eq_true rfl) rfl dL_law_702 ?_
  refine j_icmp_eq C 724 dL_law_705 rfl (fun _ => ?_) (fun c9 => absurd rfl c9)
  exact kk M' o' hI'
set_option maxRecDepth 100000 in
set_option maxHeartbeats 4000000 in
theorem law_digest {g : Gl} {X : Cxt} (C : CxOk g X code RL (Cond.classLink RL 7 RX6 :: wsL_law) 4 13 500) {b L : Nat} {xs : Nat → Int32} (K : LawOk X b L xs) {I : Nat → (Nat → Ob) → Ob → Prop} {hh : Nat → Nat → Nat} {hm : Nat → Nat} {n i nc ns : Nat} {M : Nat → Ob} {o : Ob} (hi4 : i + 4 ≤ L) (hL : L ≤ 256) (hS : ∃ (r : Int64) (M' : Nat → Ob) (o' : Ob), FX6_digest M = some (r, M') ∧ FX7_digest o = some (r, o') ∧ I (n + 1) M' o') (kk : ∀ (M' : Nat → Ob) (o' : Ob), I (n + 1) M' o' → JC g X nc ns (osX6 hh M' ++ [(shX7, hm, o')]) 724 [(0, .ref b), (1, .ref (hh 0 0)), (2, .ref (hm 0)), (3, .int (nI i))] []) : JC g X nc ns (osX6 hh M ++ [(shX7, hm, o)]) 710 [(0, .ref b), (1, .ref (hh 0 0)), (2, .ref (hm 0)), (3, .int (nI i))] [] := by
  refine j_aload_n C 1 dL_law_710 rfl rfl ?_
  obtain ⟨r, M', o', hF, hG9, hI'⟩ := hS
  refine j_callVl (h := fun a => hh a 0) C (os' := (osX6 hh M' ++ [(shX7, hm, o)])) [] (kX6_digest g hh M hF) [0, 1, 2, 3, 4, 5, 6, 7, 8, 9, 10] rfl rfl rfl rfl 0 rfl rfl (wl_gV mw_42_19 mw_42_20 mw_42_21 mw_1_2 mw_42_22) rfl 0 rfl hd_X6_digest ⟨(Nat.le_of_ble_eq_true rfl), (Nat.le_of_ble_eq_true rfl)⟩ (Nat.le_of_ble_eq_true rfl) rfl dL_law_711 ?_
  refine j_aload_n C 2 dL_law_714 rfl rfl ?_
  refine j_callVl (h := hm) C (os' := (osX6 hh M' ++ [(shX7, hm, o')])) [] (kX7_digest g hm o hG9) [11] rfl rfl rfl rfl 11 rfl rfl (wl_gV mw_44_1 mw_44_2 mw_44_3 mw_1_5 mw_44_4) rfl 0 rfl hd_X7_digest ⟨(Nat.le_of_ble_eq_true rfl), (Nat.le_of_ble_eq_true rfl)⟩ (Nat.le_of_ble_eq_true rfl) rfl dL_law_715 ?_
  refine j_lcmp C dL_law_718 rfl ?_
  refine j_if_eq C 724 dL_law_719 rfl (fun _ => ?_) (fun c9 => absurd rfl c9)
  exact kk M' o' hI'
set_option maxRecDepth 100000 in
set_option maxHeartbeats 4000000 in
theorem law_loop {g : Gl} {X : Cxt} (C : CxOk g X code RL (Cond.classLink RL 7 RX6 :: wsL_law) 4 13 500) {b L : Nat} {xs : Nat → Int32} (K : LawOk X b L xs) {I : Nat → (Nat → Ob) → Ob → Prop} (hst : StepOk I) (hmono : ∀ n M o, I n M o → I (n + 1) M o) {hh : Nat → Nat → Nat} {hm : Nat → Nat} {nc ns : Nat} (hL : L ≤ 256) : ∀ (d n i : Nat) (M : Nat → Ob) (o : Ob), i = 4 * n → L < i + 4 * d → i ≤ 256 → I n M o → JC g X nc ns (osX6 hh M ++ [(shX7, hm, o)]) 18 [(0, .ref b), (1, .ref (hh 0 0)), (2, .ref (hm 0)), (3, .int (nI i))] [] := by
  intro d
  induction d with
  | zero =>
    intro n i M o h1 h2 h3 hI
    refine j_iload_n C 3 dL_law_18 rfl rfl ?_
    refine j_aload_n C 0 dL_law_19 rfl rfl ?_
    refine j_slenL C K dL_law_20 ?_
    refine j_iconst (v := (4 : Int32)) C dL_law_21 rfl ?_
    refine j_isub C dL_law_22 ?_
    refine j_icmp_gt C 730 dL_law_23 rfl (fun _ => ?_) (fun c9 => ?_)
    · refine j_iconst (v := (1 : Int32)) C dL_law_730 rfl ?_
      exact j_lawret C K dL_law_731
    · exact absurd (law_exit hL (by omega) c9) (by omega)
  | succ d ih =>
    intro n i M o h1 h2 h3 hI
    refine j_iload_n C 3 dL_law_18 rfl rfl ?_
    refine j_aload_n C 0 dL_law_19 rfl rfl ?_
    refine j_slenL C K dL_law_20 ?_
    refine j_iconst (v := (4 : Int32)) C dL_law_21 rfl ?_
    refine j_isub C dL_law_22 ?_
    refine j_icmp_gt C 730 dL_law_23 rfl (fun _ => ?_) (fun c9 => ?_)
    · refine j_iconst (v := (1 : Int32)) C dL_law_730 rfl ?_
      exact j_lawret C K dL_law_731
    have hi4 : i + 4 ≤ L := law_exit hL (by omega) c9
    refine j_aload_n C 0 dL_law_26 rfl rfl ?_
    refine j_iload_n C 3 dL_law_27 rfl rfl ?_
    refine j_sld C K (vp_in_nI (by omega) (by omega)) dL_law_28 ?_
    refine j_bipush (v := (31 : Int32)) C dL_law_29 rfl ?_
    refine j_iand C dL_law_31 ?_
    generalize xs (nI i).toNatClampNeg &&& (31 : Int32) = v
    have fin : ∀ (M' : Nat → Ob) (o' : Ob), I (n + 1) M' o' → JC g X nc ns (osX6 hh M' ++ [(shX7, hm, o')]) 724 [(0, .ref b), (1, .ref (hh 0 0)), (2, .ref (hm 0)), (3, .int (nI i))] [] := by
      intro M' o' hI'
      refine j_iinc C 3 [(3, .int (nI (i + 4))), (0, .ref b), (1, .ref (hh 0 0)), (2, .ref (hm 0))] dL_law_724 rfl (nI_add i 4) (Nat.le_of_ble_eq_true rfl) rfl ?_
      refine j_goto C 18 dL_law_727 rfl ?_
      refine j_sub [(0, .ref b), (1, .ref (hh 0 0)), (2, .ref (hm 0)), (3, .int (nI (i + 4)))] [1, 2, 3, 0] rfl ?_
      exact ih (n + 1) (i + 4) M' o' (by omega) (by omega) (by omega) hI'
    have hstep := hst n M o (by omega) hI
    by_cases c0 : v = 0
    · refine j_tableIn (off := 116) C 148 dL_law_32 (by rw [c0]; decide) (by rw [c0]; decide) (by rw [c0]; rfl) rfl ?_
      exact law_letter C K hi4 hL hstep.1 fin
    by_cases c1 : v = 1
    · refine j_tableIn (off := 139) C 171 dL_law_32 (by rw [c1]; decide) (by rw [c1]; decide) (by rw [c1]; rfl) rfl ?_
      exact law_blank C K hi4 hL hstep.2.1 fin
    by_cases c2 : v = 2
    · refine j_tableIn (off := 152) C 184 dL_law_32 (by rw [c2]; decide) (by rw [c2]; decide) (by rw [c2]; rfl) rfl ?_
      exact law_fault C K hi4 hL hstep.2.2.1 fin
    by_cases c3 : v = 3
    · refine j_tableIn (off := 165) C 197 dL_law_32 (by rw [c3]; decide) (by rw [c3]; decide) (by rw [c3]; rfl) rfl ?_
      exact law_net C K hi4 hL hstep.2.2.2.1 fin
    by_cases c4 : v = 4
    · refine j_tableIn (off := 178) C 210 dL_law_32 (by rw [c4]; decide) (by rw [c4]; decide) (by rw [c4]; rfl) rfl ?_
      exact law_node C K hi4 hL hstep.2.2.2.2.1 fin
    by_cases c5 : v = 5
    · refine j_tableIn (off := 211) C 243 dL_law_32 (by rw [c5]; decide) (by rw [c5]; decide) (by rw [c5]; rfl) rfl ?_
      exact law_as C K hi4 hL hstep.2.2.2.2.2.1 fin
    by_cases c6 : v = 6
    · refine j_tableIn (off := 244) C 276 dL_law_32 (by rw [c6]; decide) (by rw [c6]; decide) (by rw [c6]; rfl) rfl ?_
      exact law_open C K hi4 hL hstep.2.2.2.2.2.2.1 fin
    by_cases c7 : v = 7
    · refine j_tableIn (off := 267) C 299 dL_law_32 (by rw [c7]; decide) (by rw [c7]; decide) (by rw [c7]; rfl) rfl ?_
      exact law_meetings C K hi4 hL hstep.2.2.2.2.2.2.2.1 fin
    by_cases c8 : v = 8
    · refine j_tableIn (off := 290) C 322 dL_law_32 (by rw [c8]; decide) (by rw [c8]; decide) (by rw [c8]; rfl) rfl ?_
      exact law_meet C K hi4 hL hstep.2.2.2.2.2.2.2.2.1 fin
    by_cases c9 : v = 9
    · refine j_tableIn (off := 313) C 345 dL_law_32 (by rw [c9]; decide) (by rw [c9]; decide) (by rw [c9]; rfl) rfl ?_
      exact law_run C K hi4 hL hstep.2.2.2.2.2.2.2.2.2.1 fin
    by_cases c10 : v = 10
    · refine j_tableIn (off := 336) C 368 dL_law_32 (by rw [c10]; decide) (by rw [c10]; decide) (by rw [c10]; rfl) rfl ?_
      exact law_join C K hi4 hL hstep.2.2.2.2.2.2.2.2.2.2.1 fin
    by_cases c11 : v = 11
    · refine j_tableIn (off := 369) C 401 dL_law_32 (by rw [c11]; decide) (by rw [c11]; decide) (by rw [c11]; rfl) rfl ?_
      exact law_stop C K hi4 hL hstep.2.2.2.2.2.2.2.2.2.2.2.1 fin
    by_cases c12 : v = 12
    · refine j_tableIn (off := 392) C 424 dL_law_32 (by rw [c12]; decide) (by rw [c12]; decide) (by rw [c12]; rfl) rfl ?_
      exact law_change C K hi4 hL hstep.2.2.2.2.2.2.2.2.2.2.2.2.1 fin
    by_cases c13 : v = 13
    · refine j_tableIn (off := 425) C 457 dL_law_32 (by rw [c13]; decide) (by rw [c13]; decide) (by rw [c13]; rfl) rfl ?_
      exact law_flip C K hi4 hL hstep.2.2.2.2.2.2.2.2.2.2.2.2.2.1 fin
    by_cases c14 : v = 14
    · refine j_tableIn (off := 448) C 480 dL_law_32 (by rw [c14]; decide) (by rw [c14]; decide) (by rw [c14]; rfl) rfl ?_
      exact law_ending C K hi4 hL hstep.2.2.2.2.2.2.2.2.2.2.2.2.2.2.1 fin
    by_cases c15 : v = 15
    · refine j_tableIn (off := 471) C 503 dL_law_32 (by rw [c15]; decide) (by rw [c15]; decide) (by rw [c15]; rfl) rfl ?_
      exact law_reading C K hi4 hL hstep.2.2.2.2.2.2.2.2.2.2.2.2.2.2.2.1 fin
    by_cases c16 : v = 16
    · refine j_tableIn (off := 494) C 526 dL_law_32 (by rw [c16]; decide) (by rw [c16]; decide) (by rw [c16]; rfl) rfl ?_
      exact law_endReading C K hi4 hL hstep.2.2.2.2.2.2.2.2.2.2.2.2.2.2.2.2.1 fin
    by_cases c17 : v = 17
    · refine j_tableIn (off := 517) C 549 dL_law_32 (by rw [c17]; decide) (by rw [c17]; decide) (by rw [c17]; rfl) rfl ?_
      exact law_same C K hi4 hL hstep.2.2.2.2.2.2.2.2.2.2.2.2.2.2.2.2.2.1 fin
    by_cases c18 : v = 18
    · refine j_tableIn (off := 530) C 562 dL_law_32 (by rw [c18]; decide) (by rw [c18]; decide) (by rw [c18]; rfl) rfl ?_
      exact law_see C K hi4 hL hstep.2.2.2.2.2.2.2.2.2.2.2.2.2.2.2.2.2.2.1 fin
    by_cases c19 : v = 19
    · refine j_tableIn (off := 573) C 605 dL_law_32 (by rw [c19]; decide) (by rw [c19]; decide) (by rw [c19]; rfl) rfl ?_
      exact law_forget C K hi4 hL hstep.2.2.2.2.2.2.2.2.2.2.2.2.2.2.2.2.2.2.2.1 fin
    by_cases c20 : v = 20
    · refine j_tableIn (off := 586) C 618 dL_law_32 (by rw [c20]; decide) (by rw [c20]; decide) (by rw [c20]; rfl) rfl ?_
      exact law_runs C K hi4 hL hstep.2.2.2.2.2.2.2.2.2.2.2.2.2.2.2.2.2.2.2.2.1 fin
    by_cases c21 : v = 21
    · refine j_tableIn (off := 629) C 661 dL_law_32 (by rw [c21]; decide) (by rw [c21]; decide) (by rw [c21]; rfl) rfl ?_
      exact law_image C K hi4 hL hstep.2.2.2.2.2.2.2.2.2.2.2.2.2.2.2.2.2.2.2.2.2.1 fin
    by_cases c22 : v = 22
    · refine j_tableIn (off := 642) C 674 dL_law_32 (by rw [c22]; decide) (by rw [c22]; decide) (by rw [c22]; rfl) rfl ?_
      exact law_restore C K hi4 hL hstep.2.2.2.2.2.2.2.2.2.2.2.2.2.2.2.2.2.2.2.2.2.2.1 fin
    by_cases c23 : v = 23
    · refine j_tableIn (off := 655) C 687 dL_law_32 (by rw [c23]; decide) (by rw [c23]; decide) (by rw [c23]; rfl) rfl ?_
      exact law_count C K hi4 hL hstep.2.2.2.2.2.2.2.2.2.2.2.2.2.2.2.2.2.2.2.2.2.2.2.1 fin
    by_cases c24 : v = 24
    · refine j_tableIn (off := 678) C 710 dL_law_32 (by rw [c24]; decide) (by rw [c24]; decide) (by rw [c24]; rfl) rfl ?_
      exact law_digest C K hi4 hL hstep.2.2.2.2.2.2.2.2.2.2.2.2.2.2.2.2.2.2.2.2.2.2.2.2 fin
    refine j_tableOut C 724 dL_law_32 (by have q0 := ne_i c0 (a := 0) rfl; have q1 := ne_i c1 (a := 1) rfl; have q2 := ne_i c2 (a := 2) rfl; have q3 := ne_i c3 (a := 3) rfl; have q4 := ne_i c4 (a := 4) rfl; have q5 := ne_i c5 (a := 5) rfl; have q6 := ne_i c6 (a := 6) rfl; have q7 := ne_i c7 (a := 7) rfl; have q8 := ne_i c8 (a := 8) rfl; have q9 := ne_i c9 (a := 9) rfl; have q10 := ne_i c10 (a := 10) rfl; have q11 := ne_i c11 (a := 11) rfl; have q12 := ne_i c12 (a := 12) rfl; have q13 := ne_i c13 (a := 13) rfl; have q14 := ne_i c14 (a := 14) rfl; have q15 := ne_i c15 (a := 15) rfl; have q16 := ne_i c16 (a := 16) rfl; have q17 := ne_i c17 (a := 17) rfl; have q18 := ne_i c18 (a := 18) rfl; have q19 := ne_i c19 (a := 19) rfl; have q20 := ne_i c20 (a := 20) rfl; have q21 := ne_i c21 (a := 21) rfl; have q22 := ne_i c22 (a := 22) rfl; have q23 := ne_i c23 (a := 23) rfl; have q24 := ne_i c24 (a := 24) rfl; omega) rfl ?_
    exact fin M o (hmono n M o hI)
set_option maxRecDepth 100000 in
set_option maxHeartbeats 4000000 in
theorem law_walk {g : Gl} {X : Cxt} (C : CxOk g X code RL (Cond.classLink RL 7 RX6 :: wsL_law) 4 13 500) (Nw : NewOk X 600000 7302250) {b L : Nat} {xs : Nat → Int32} (K : LawOk X b L xs) {I : Nat → (Nat → Ob) → Ob → Prop} (hst : StepOk I) (hmono : ∀ n M o, I n M o → I (n + 1) M o) {o0 : Ob} (hF0 : FX7_init zOb = some o0) (hI0 : I 0 M0 o0) (hL : L ≤ 256) : JC g X 0 0 [] 0 [(0, .ref b)] [] := by
  refine j_new C Nw tyX6_ok shX6z rfl df_X6 no_X6 in1_X6 (List.mem_cons_of_mem _ mw_1_0) (List.mem_cons_of_mem _ mw_1_1) (List.mem_cons_of_mem _ mw_1_2) (Nat.le_of_ble_eq_true rfl) (Nat.le_of_ble_eq_true rfl) dL_law_0 (fun h1 => ?_)
  refine j_dup C rfl dL_law_3 ?_
  refine j_callI (h := h1) (os := []) C Nw [] (kX6_init g) (List.mem_cons_of_mem _ mw_1_2) (List.mem_cons_of_mem _ mw_1_6) (List.mem_cons_of_mem _ mw_1_7) (wl_g1 mw_1_8) rfl rfl 0 rfl hd_X6_init ⟨(Nat.le_of_ble_eq_true rfl), (Nat.le_of_ble_eq_true rfl)⟩ (Nat.le_of_ble_eq_true rfl) rfl (Nat.le_of_ble_eq_true rfl) (Nat.le_of_ble_eq_true rfl) dL_law_4 (fun os9 hP9 => ?_)
  obtain ⟨hh, e1, rfl⟩ := hP9
  rw [← e1]
  show JC g X _ _ (osX6 hh M0) 7 [(0, .ref b)] [.ref (hh 0 0)]
  refine j_astore_n C [(1, .ref (hh 0 0)), (0, .ref b)] dL_law_7 rfl (Nat.le_of_ble_eq_true rfl) rfl ?_
  refine j_new C Nw tyX7_ok shX7z rfl df_X7 no_X7 in1_X7 (List.mem_cons_of_mem _ mw_1_3) (List.mem_cons_of_mem _ mw_1_4) (List.mem_cons_of_mem _ mw_1_5) (Nat.le_of_ble_eq_true rfl) (Nat.le_of_ble_eq_true rfl) dL_law_8 (fun h2 => ?_)
  refine j_dup C rfl dL_law_11 ?_
  refine j_callI (h := h2) (os := osX6 hh M0) C Nw [] (kX7_init g hF0) (List.mem_cons_of_mem _ mw_1_5) (List.mem_cons_of_mem _ mw_4_6) (List.mem_cons_of_mem _ mw_4_7) (wl_g1 mw_4_8) rfl rfl 0 rfl hd_X7_init ⟨(Nat.le_of_ble_eq_true rfl), (Nat.le_of_ble_eq_true rfl)⟩ (Nat.le_of_ble_eq_true rfl) rfl (Nat.le_of_ble_eq_true rfl) (Nat.le_of_ble_eq_true rfl) dL_law_12 (fun os9 hP9 => ?_)
  obtain ⟨hm, e2, rfl⟩ := hP9
  rw [← e2]
  refine j_astore_n C [(2, .ref (hm 0)), (1, .ref (hh 0 0)), (0, .ref b)] dL_law_15 rfl (Nat.le_of_ble_eq_true rfl) rfl ?_
  refine j_iconst (v := (0 : Int32)) C dL_law_16 rfl ?_
  refine j_istore_n C [(3, .int (nI 0)), (2, .ref (hm 0)), (1, .ref (hh 0 0)), (0, .ref b)] dL_law_17 rfl (Nat.le_of_ble_eq_true rfl) rfl rfl ?_
  refine j_sub [(0, .ref b), (1, .ref (hh 0 0)), (2, .ref (hm 0)), (3, .int (nI 0))] [3, 2, 1, 0] rfl ?_
  exact law_loop C K hst hmono hL 65 0 0 M0 o0 rfl (by omega) (by omega) hI0
