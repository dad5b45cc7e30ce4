/-! HeadsMeet$Draft.isTreeDue -/
def FX1_isTreeDue  (o0 : Ob) : Option (Int32) :=
  if (oV o0 3) ≤ 0 then
    if (oV o0 4) = 0 then
      some (1 : Int32)
    else
      if (oV o0 4) = (2 : Int32) then
        some (1 : Int32)
      else
        some (0 : Int32)
  else
    if (80 : Int32) < (oV o0 3) then
      if (oV o0 4) = 0 then
        some (1 : Int32)
      else
        if (oV o0 4) = (2 : Int32) then
          some (1 : Int32)
        else
          some (0 : Int32)
    else
      if inb ((oV o0 3) - (1 : Int32)) 80 then
      if (2 : Int32) ≤ (oA o0 1 ((oV o0 3) - (1 : Int32)).toNatClampNeg) then
        some (0 : Int32)
      else
        some (1 : Int32)
      else none
set_option maxRecDepth 100000 in
set_option maxHeartbeats 4000000 in
theorem kX1_isTreeDue (g : Gl) (h0 : Nat → Nat)  (o0 : Ob) {r : Int32} (hF : FX1_isTreeDue o0 = some r) : Ctr g yX1_isTreeDue (Cond.code yX1_isTreeDue cX1_isTreeDue 1 (some .boolean) :: wsL_law) 0 0 [(shX1, h0, o0)] [(shX1, h0, o0)] [.ref (h0 0)] (some (.int r)) := by
  refine Ctr.of (cc := cX1_isTreeDue) (maxL := 1) (ret := (some .boolean)) (by decide) rfl (Nat.le_of_ble_eq_true rfl) ?_
  intro X C Rk
  replace C : CxOk g X cX1_isTreeDue RX1 (Cond.code yX1_isTreeDue cX1_isTreeDue 1 (some .boolean) :: wsL_law) 1 0 0 := C
  show J g X [(shX1, h0, o0)] 0 [(0, .ref (h0 0))] []
  unfold FX1_isTreeDue at hF
  refine j_aload_n C 0 dX1_isTreeDue_0 rfl rfl ?_
  refine j_get (v := .int (oV o0 3)) C 0 3 rfl rfl (Nat.le_of_ble_eq_true rfl) rfl rfl in1_X1 (List.mem_cons_of_mem _ mw_7_17) dX1_isTreeDue_1 ?_
  refine j_if_le C 40 dX1_isTreeDue_4 rfl (fun c_8 => ?_) (fun c_8 => ?_)
  · have hF := (if_pos c_8).symm.trans hF
    refine j_aload_n C 0 dX1_isTreeDue_40 rfl rfl ?_
    refine j_get (v := .int (oV o0 4)) C 0 4 rfl rfl (Nat.le_of_ble_eq_true rfl) rfl rfl in1_X1 (List.mem_cons_of_mem _ mw_7_18) dX1_isTreeDue_41 ?_
    refine j_if_eq C 55 dX1_isTreeDue_44 rfl (fun c_7 => ?_) (fun c_7 => ?_)
    · have hF := (if_pos c_7).symm.trans hF
      refine j_iconst (v := (1 : Int32)) C dX1_isTreeDue_55 rfl ?_
      refine j_goto C 60 dX1_isTreeDue_56 rfl ?_
      cases hF
      exact j_zret C rfl Rk dX1_isTreeDue_60
    · have hF := (if_neg c_7).symm.trans hF
      refine j_aload_n C 0 dX1_isTreeDue_47 rfl rfl ?_
      refine j_get (v := .int (oV o0 4)) C 0 4 rfl rfl (Nat.le_of_ble_eq_true rfl) rfl rfl in1_X1 (List.mem_cons_of_mem _ mw_7_18) dX1_isTreeDue_48 ?_
      refine j_iconst (v := (2 : Int32)) C dX1_isTreeDue_51 rfl ?_
      refine j_icmp_ne C 59 dX1_isTreeDue_52 rfl (fun c_6 => ?_) (fun c_6 => ?_)
      · have hF := (if_neg c_6).symm.trans hF
        refine j_iconst (v := (0 : Int32)) C dX1_isTreeDue_59 rfl ?_
        cases hF
        exact j_zret C rfl Rk dX1_isTreeDue_60
      · have hF := (if_pos c_6).symm.trans hF
        refine j_iconst (v := (1 : Int32)) C dX1_isTreeDue_55 rfl ?_
        refine j_goto C 60 dX1_isTreeDue_56 rfl ?_
        cases hF
        exact j_zret C rfl Rk dX1_isTreeDue_60
  · have hF := (if_neg c_8).symm.trans hF
    refine j_aload_n C 0 dX1_isTreeDue_7 rfl rfl ?_
    refine j_get (v := .int (oV o0 3)) C 0 3 rfl rfl (Nat.le_of_ble_eq_true rfl) rfl rfl in1_X1 (List.mem_cons_of_mem _ mw_7_17) dX1_isTreeDue_8 ?_
    refine j_aload_n C 0 dX1_isTreeDue_11 rfl rfl ?_
    refine j_get (v := .ref (h0 2)) C 0 1 rfl rfl (Nat.le_of_ble_eq_true rfl) rfl rfl in1_X1 (List.mem_cons_of_mem _ mw_3_1) dX1_isTreeDue_12 ?_
    refine j_alen (v := (80 : Int32)) C 0 1 rfl rfl rfl dX1_isTreeDue_15 ?_
    refine j_icmp_gt C 40 dX1_isTreeDue_16 rfl (fun c_5 => ?_) (fun c_5 => ?_)
    · have hF := (if_pos c_5).symm.trans hF
      refine j_aload_n C 0 dX1_isTreeDue_40 rfl rfl ?_
      refine j_get (v := .int (oV o0 4)) C 0 4 rfl rfl (Nat.le_of_ble_eq_true rfl) rfl rfl in1_X1 (List.mem_cons_of_mem _ mw_7_18) dX1_isTreeDue_41 ?_
      refine j_if_eq C 55 dX1_isTreeDue_44 rfl (fun c_4 => ?_) (fun c_4 => ?_)
      · have hF := (if_pos c_4).symm.trans hF
        refine j_iconst (v := (1 : Int32)) C dX1_isTreeDue_55 rfl ?_
        refine j_goto C 60 dX1_isTreeDue_56 rfl ?_
        cases hF
        exact j_zret C rfl Rk dX1_isTreeDue_60
      · have hF := (if_neg c_4).symm.trans hF
        refine j_aload_n C 0 dX1_isTreeDue_47 rfl rfl ?_
        refine j_get (v := .int (oV o0 4)) C 0 4 rfl rfl (Nat.le_of_ble_eq_true rfl) rfl rfl in1_X1 (List.mem_cons_of_mem _ mw_7_18) dX1_isTreeDue_48 ?_
        refine j_iconst (v := (2 : Int32)) C dX1_isTreeDue_51 rfl ?_
        refine j_icmp_ne C 59 dX1_isTreeDue_52 rfl (fun c_3 => ?_) (fun c_3 => ?_)
        · have hF := (if_neg c_3).symm.trans hF
          refine j_iconst (v := (0 : Int32)) C dX1_isTreeDue_59 rfl ?_
          cases hF
          exact j_zret C rfl Rk dX1_isTreeDue_60
        · have hF := (if_pos c_3).symm.trans hF
          refine j_iconst (v := (1 : Int32)) C dX1_isTreeDue_55 rfl ?_
          refine j_goto C 60 dX1_isTreeDue_56 rfl ?_
          cases hF
          exact j_zret C rfl Rk dX1_isTreeDue_60
    · have hF := (if_neg c_5).symm.trans hF
      refine j_aload_n C 0 dX1_isTreeDue_19 rfl rfl ?_
      refine j_get (v := .ref (h0 2)) C 0 1 rfl rfl (Nat.le_of_ble_eq_true rfl) rfl rfl in1_X1 (List.mem_cons_of_mem _ mw_3_1) dX1_isTreeDue_20 ?_
      refine j_aload_n C 0 dX1_isTreeDue_23 rfl rfl ?_
      refine j_get (v := .int (oV o0 3)) C 0 3 rfl rfl (Nat.le_of_ble_eq_true rfl) rfl rfl in1_X1 (List.mem_cons_of_mem _ mw_7_17) dX1_isTreeDue_24 ?_
      refine j_iconst (v := (1 : Int32)) C dX1_isTreeDue_27 rfl ?_
      refine j_isub C dX1_isTreeDue_28 ?_
      obtain ⟨z_1, hF⟩ := gi hF
      refine j_iald C 0 1 rfl rfl z_1 dX1_isTreeDue_29 ?_
      refine j_iconst (v := (2 : Int32)) C dX1_isTreeDue_30 rfl ?_
      refine j_icmp_ge C 38 dX1_isTreeDue_31 rfl (fun c_2 => ?_) (fun c_2 => ?_)
      · have hF := (if_pos c_2).symm.trans hF
        refine j_iconst (v := (0 : Int32)) C dX1_isTreeDue_38 rfl ?_
        cases hF
        exact j_zret C rfl Rk dX1_isTreeDue_39
      · have hF := (if_neg c_2).symm.trans hF
        refine j_iconst (v := (1 : Int32)) C dX1_isTreeDue_34 rfl ?_
        refine j_goto C 39 dX1_isTreeDue_35 rfl ?_
        cases hF
        exact j_zret C rfl Rk dX1_isTreeDue_39
/-! HeadsMeet$Draft.place -/
def BX1_place_55 (N1 : Nat) (x1 : Int32) (o0 : Ob) (o1 : Ob) : Option (Ob × Ob) :=
  if (oV o0 4) = 0 then
    lT (sV o0 5 x1) fun o0_11 =>
    lT (sV o0_11 4 (1 : Int32)) fun o0_13 =>
    some (o0_13, o1)
  else
    b1 (FX2_link N1 (oV o0 5) x1 o1) fun o1_14 =>
    lT (sV o0 4 (3 : Int32)) fun o0_17 =>
    some (o0_17, o1_14)
def FX1_place (N1 : Nat) (x1 : Int32) (o0 : Ob) (o1 : Ob) : Option (Ob × Ob) :=
  lT ((oV o0 3) - (1 : Int32)) fun x3_1 =>
  if x3_1 < 0 then
    BX1_place_55 N1 x1 o0 o1
  else
    if (80 : Int32) ≤ x3_1 then
      BX1_place_55 N1 x1 o0 o1
    else
      if inb x3_1 80 then
      b1 (FX2_port (oA o0 0 x3_1.toNatClampNeg) ((1 : Int32) + (oA o0 1 x3_1.toNatClampNeg))) fun r_4 =>
      b1 (FX2_link N1 r_4 x1 o1) fun o1_6 =>
      lT (sA o0 1 x3_1.toNatClampNeg ((oA o0 1 x3_1.toNatClampNeg) + (1 : Int32))) fun o0_9 =>
      some (o0_9, o1_6)
      else none
set_option maxRecDepth 100000 in
set_option maxHeartbeats 4000000 in
theorem bX1_place_55 {g : Gl} {X : Cxt} (C : CxOk g X cX1_place RX1 (Cond.code yX1_place cX1_place 4 none :: wsL_law) 4 1 22) {o0' : Ob} {o1' : Ob} (N1 : Nat) (h0 : Nat → Nat) (h1 : Nat → Nat) (x1 : Int32) (o0 : Ob) (o1 : Ob)  (Rk : RetOk g X [(shX1, h0, o0'), ((shX2 N1), h1, o1')] none none)  (hF : BX1_place_55 N1  x1 o0 o1 = some (o0', o1')) : J g X [(shX1, h0, o0), ((shX2 N1), h1, o1)] 55 [(0, .ref (h0 0)), (1, .int x1), (2, .ref (h1 0))] [] := by
  unfold BX1_place_55 at hF
  refine j_aload_n C 0 dX1_place_55 rfl rfl ?_
  refine j_get (v := .int (oV o0 4)) C 0 4 rfl rfl (Nat.le_of_ble_eq_true rfl) rfl rfl in1_X1 (List.mem_cons_of_mem _ mw_7_18) dX1_place_56 ?_
  refine j_if_ne C 75 dX1_place_59 rfl (fun c_18 => ?_) (fun c_18 => ?_)
  · have hF := (if_neg c_18).symm.trans hF
    refine j_aload_n C 2 dX1_place_75 rfl rfl ?_
    refine j_aload_n C 0 dX1_place_76 rfl rfl ?_
    refine j_get (v := .int (oV o0 5)) C 0 5 rfl rfl (Nat.le_of_ble_eq_true rfl) rfl rfl in1_X1 (List.mem_cons_of_mem _ mw_9_5) dX1_place_77 ?_
    refine j_iload_n C 1 dX1_place_80 rfl rfl ?_
    obtain ⟨o1_14, k_15, hF⟩ := gb1 hF
    refine j_callVv C (os' := [(shX1, h0, o0), ((shX2 N1), h1, o1_14)]) [.int (oV o0 5), .int x1] (kX2_link g N1 h1 (oV o0 5) x1 o1 k_15) [1] rfl rfl rfl rfl 1 rfl rfl (wl_gV mw_9_9 mw_9_10 mw_9_11 mw_1_22 mw_9_12) rfl 2 rfl hd_X2_link ⟨Nat.le_of_ble_eq_true rfl, Nat.le_of_ble_eq_true rfl⟩ (Nat.le_of_ble_eq_true rfl) rfl dX1_place_81 ?_
    refine j_aload_n C 0 dX1_place_84 rfl rfl ?_
    refine j_iconst (v := (3 : Int32)) C dX1_place_85 rfl ?_
    obtain ⟨o0_17, e_16, hF⟩ := glT hF
    refine j_putV C tyX1_ok nmX1 0 4 rfl rfl (Nat.le_of_ble_eq_true rfl) rfl in1_X1 (List.mem_cons_of_mem _ mw_7_18) rfl fd_X1_4 rfl rfl [(shX1, h0, o0_17), ((shX2 N1), h1, o1_14)] (by rw [e_16]; rfl) dX1_place_86 ?_
    cases hF
    exact j_vret C Rk dX1_place_89
  · have hF := (if_pos c_18).symm.trans hF
    refine j_aload_n C 0 dX1_place_62 rfl rfl ?_
    refine j_iload_n C 1 dX1_place_63 rfl rfl ?_
    obtain ⟨o0_11, e_10, hF⟩ := glT hF
    refine j_putV C tyX1_ok nmX1 0 5 rfl rfl (Nat.le_of_ble_eq_true rfl) rfl in1_X1 (List.mem_cons_of_mem _ mw_9_5) rfl fd_X1_5 rfl rfl [(shX1, h0, o0_11), ((shX2 N1), h1, o1)] (by rw [e_10]; rfl) dX1_place_64 ?_
    refine j_aload_n C 0 dX1_place_67 rfl rfl ?_
    refine j_iconst (v := (1 : Int32)) C dX1_place_68 rfl ?_
    obtain ⟨o0_13, e_12, hF⟩ := glT hF
    refine j_putV C tyX1_ok nmX1 0 4 rfl rfl (Nat.le_of_ble_eq_true rfl) rfl in1_X1 (List.mem_cons_of_mem _ mw_7_18) rfl fd_X1_4 rfl rfl [(shX1, h0, o0_13), ((shX2 N1), h1, o1)] (by rw [e_12]; rfl) dX1_place_69 ?_
    refine j_goto C 89 dX1_place_72 rfl ?_
    cases hF
    exact j_vret C Rk dX1_place_89
set_option maxRecDepth 100000 in
set_option maxHeartbeats 4000000 in
theorem kX1_place (g : Gl) (N1 : Nat) (h0 : Nat → Nat) (h1 : Nat → Nat) (x1 : Int32) (o0 : Ob) (o1 : Ob) {o0' : Ob} {o1' : Ob} (hF : FX1_place N1 x1 o0 o1 = some (o0', o1')) : Ctr g yX1_place (Cond.code yX1_place cX1_place 4 none :: wsL_law) 1 22 [(shX1, h0, o0), ((shX2 N1), h1, o1)] [(shX1, h0, o0'), ((shX2 N1), h1, o1')] [.ref (h0 0), .int x1, .ref (h1 0)] none := by
  refine Ctr.of (cc := cX1_place) (maxL := 4) (ret := none) (by decide) rfl (Nat.le_of_ble_eq_true rfl) ?_
  intro X C Rk
  replace C : CxOk g X cX1_place RX1 (Cond.code yX1_place cX1_place 4 none :: wsL_law) 4 1 22 := C
  show J g X [(shX1, h0, o0), ((shX2 N1), h1, o1)] 0 [(0, .ref (h0 0)), (1, .int x1), (2, .ref (h1 0))] []
  unfold FX1_place at hF
  refine j_aload_n C 0 dX1_place_0 rfl rfl ?_
  refine j_get (v := .int (oV o0 3)) C 0 3 rfl rfl (Nat.le_of_ble_eq_true rfl) rfl rfl in1_X1 (List.mem_cons_of_mem _ mw_7_17) dX1_place_1 ?_
  refine j_iconst (v := (1 : Int32)) C dX1_place_4 rfl ?_
  refine j_isub C dX1_place_5 ?_
  obtain ⟨x3_1, e_2, hF⟩ := glT hF
  refine j_istore_n C [(3, .int x3_1), (0, .ref (h0 0)), (1, .int x1), (2, .ref (h1 0))] dX1_place_6 rfl (Nat.le_of_ble_eq_true rfl) e_2 rfl ?_
  refine j_iload_n C 0 dX1_place_7 rfl rfl ?_
  refine j_if_lt C 55 dX1_place_8 rfl (fun c_20 => ?_) (fun c_20 => ?_)
  · have hF := (if_pos c_20).symm.trans hF
    refine j_sub [(0, .ref (h0 0)), (1, .int x1), (2, .ref (h1 0))] [1, 2, 3] rfl ?_
    exact bX1_place_55 C N1 h0 h1 _ _ _ Rk  hF
  · have hF := (if_neg c_20).symm.trans hF
    refine j_iload_n C 0 dX1_place_11 rfl rfl ?_
    refine j_aload_n C 1 dX1_place_12 rfl rfl ?_
    refine j_get (v := .ref (h0 1)) C 0 0 rfl rfl (Nat.le_of_ble_eq_true rfl) rfl rfl in1_X1 (List.mem_cons_of_mem _ mw_3_0) dX1_place_13 ?_
    refine j_alen (v := (80 : Int32)) C 0 0 rfl rfl rfl dX1_place_16 ?_
    refine j_icmp_ge C 55 dX1_place_17 rfl (fun c_19 => ?_) (fun c_19 => ?_)
    · have hF := (if_pos c_19).symm.trans hF
      refine j_sub [(0, .ref (h0 0)), (1, .int x1), (2, .ref (h1 0))] [1, 2, 3] rfl ?_
      exact bX1_place_55 C N1 h0 h1 _ _ _ Rk  hF
    · have hF := (if_neg c_19).symm.trans hF
      refine j_aload_n C 3 dX1_place_20 rfl rfl ?_
      refine j_aload_n C 1 dX1_place_21 rfl rfl ?_
      refine j_get (v := .ref (h0 1)) C 0 0 rfl rfl (Nat.le_of_ble_eq_true rfl) rfl rfl in1_X1 (List.mem_cons_of_mem _ mw_3_0) dX1_place_22 ?_
      refine j_iload_n C 0 dX1_place_25 rfl rfl ?_
      obtain ⟨z_3, hF⟩ := gi hF
      refine j_iald C 0 0 rfl rfl z_3 dX1_place_26 ?_
      refine j_iconst (v := (1 : Int32)) C dX1_place_27 rfl ?_
      refine j_aload_n C 1 dX1_place_28 rfl rfl ?_
      refine j_get (v := .ref (h0 2)) C 0 1 rfl rfl (Nat.le_of_ble_eq_true rfl) rfl rfl in1_X1 (List.mem_cons_of_mem _ mw_3_1) dX1_place_29 ?_
      refine j_iload_n C 0 dX1_place_32 rfl rfl ?_
      refine j_iald C 0 1 rfl rfl z_3 dX1_place_33 ?_
      refine j_iadd C dX1_place_34 ?_
      obtain ⟨r_4, k_5, hF⟩ := gb1 hF
      refine j_callSi C (os' := [(shX1, h0, o0), ((shX2 N1), h1, o1)]) [.int (oA o0 0 x3_1.toNatClampNeg), .int ((1 : Int32) + (oA o0 1 x3_1.toNatClampNeg))] (kX2_port g (oA o0 0 x3_1.toNatClampNeg) ((1 : Int32) + (oA o0 1 x3_1.toNatClampNeg)) k_5) [] rfl rfl rfl rfl (wl_gS mw_9_6 mw_9_7 mw_1_22 mw_9_8) rfl 2 rfl hd_X2_port ⟨Nat.le_of_ble_eq_true rfl, Nat.le_of_ble_eq_true rfl⟩ (Nat.le_of_ble_eq_true rfl) rfl dX1_place_35 ?_
      refine j_iload_n C 2 dX1_place_38 rfl rfl ?_
      obtain ⟨o1_6, k_7, hF⟩ := gb1 hF
      refine j_callVv C (os' := [(shX1, h0, o0), ((shX2 N1), h1, o1_6)]) [.int r_4, .int x1] (kX2_link g N1 h1 r_4 x1 o1 k_7) [1] rfl rfl rfl rfl 1 rfl rfl (wl_gV mw_9_9 mw_9_10 mw_9_11 mw_1_22 mw_9_12) rfl 2 rfl hd_X2_link ⟨Nat.le_of_ble_eq_true rfl, Nat.le_of_ble_eq_true rfl⟩ (Nat.le_of_ble_eq_true rfl) rfl dX1_place_39 ?_
      refine j_aload_n C 1 dX1_place_42 rfl rfl ?_
      refine j_get (v := .ref (h0 2)) C 0 1 rfl rfl (Nat.le_of_ble_eq_true rfl) rfl rfl in1_X1 (List.mem_cons_of_mem _ mw_3_1) dX1_place_43 ?_
      refine j_iload_n C 0 dX1_place_46 rfl rfl ?_
      refine j_dup2 C rfl rfl dX1_place_47 ?_
      refine j_iald C 0 1 rfl rfl z_3 dX1_place_48 ?_
      refine j_iconst (v := (1 : Int32)) C dX1_place_49 rfl ?_
      refine j_iadd C dX1_place_50 ?_
      obtain ⟨o0_9, e_8, hF⟩ := glT hF
      refine j_iast C 0 1 rfl rfl z_3 [(shX1, h0, o0_9), ((shX2 N1), h1, o1_6)] (by rw [e_8]; rfl) dX1_place_51 ?_
      refine j_goto C 89 dX1_place_52 rfl ?_
      cases hF
      exact j_vret C Rk dX1_place_89
/-! HeadsMeet$Draft.takeWire -/
def FX1_takeWire (N1 : Nat) (x1 : Int32) (o0 : Ob) (o1 : Ob) : Option (Int32 × Ob × Ob) :=
  if x1 < 0 then
    some ((0 : Int32), o0, o1)
  else
    if (8 : Int32) ≤ x1 then
      some ((0 : Int32), o0, o1)
    else
      if inb x1 8 then
      if (oA o0 2 x1.toNatClampNeg) < (2 : Int32) then
        if (oA o0 2 x1.toNatClampNeg) = 0 then
          b2 (FX1_place N1 x1 o0 o1) fun o0_2 o1_3 =>
          lT (sA o0_2 2 x1.toNatClampNeg ((oA o0_2 2 x1.toNatClampNeg) + (1 : Int32))) fun o0_6 =>
          some ((1 : Int32), o0_6, o1_3)
        else
          b2 (FX1_place N1 ((8 : Int32) + x1) o0 o1) fun o0_7 o1_8 =>
          lT (sA o0_7 2 x1.toNatClampNeg ((oA o0_7 2 x1.toNatClampNeg) + (1 : Int32))) fun o0_11 =>
          some ((1 : Int32), o0_11, o1_8)
      else
        some ((0 : Int32), o0, o1)
      else none
set_option maxRecDepth 100000 in
set_option maxHeartbeats 4000000 in
theorem kX1_takeWire (g : Gl) (N1 : Nat) (h0 : Nat → Nat) (h1 : Nat → Nat) (x1 : Int32) (o0 : Ob) (o1 : Ob) {r : Int32} {o0' : Ob} {o1' : Ob} (hF : FX1_takeWire N1 x1 o0 o1 = some (r, o0', o1')) : Ctr g yX1_takeWire (Cond.code yX1_takeWire cX1_takeWire 3 (some .boolean) :: wsL_law) 2 45 [(shX1, h0, o0), ((shX2 N1), h1, o1)] [(shX1, h0, o0'), ((shX2 N1), h1, o1')] [.ref (h0 0), .int x1, .ref (h1 0)] (some (.int r)) := by
  refine Ctr.of (cc := cX1_takeWire) (maxL := 3) (ret := (some .boolean)) (by decide) rfl (Nat.le_of_ble_eq_true rfl) ?_
  intro X C Rk
  replace C : CxOk g X cX1_takeWire RX1 (Cond.code yX1_takeWire cX1_takeWire 3 (some .boolean) :: wsL_law) 3 2 45 := C
  show J g X [(shX1, h0, o0), ((shX2 N1), h1, o1)] 0 [(0, .ref (h0 0)), (1, .int x1), (2, .ref (h1 0))] []
  unfold FX1_takeWire at hF
  refine j_iload_n C 1 dX1_takeWire_0 rfl rfl ?_
  refine j_if_lt C 23 dX1_takeWire_1 rfl (fun c_15 => ?_) (fun c_15 => ?_)
  · have hF := (if_pos c_15).symm.trans hF
    refine j_iconst (v := (0 : Int32)) C dX1_takeWire_23 rfl ?_
    cases hF
    exact j_zret C rfl Rk dX1_takeWire_24
  · have hF := (if_neg c_15).symm.trans hF
    refine j_iload_n C 1 dX1_takeWire_4 rfl rfl ?_
    refine j_aload_n C 0 dX1_takeWire_5 rfl rfl ?_
    refine j_get (v := .ref (h0 3)) C 0 2 rfl rfl (Nat.le_of_ble_eq_true rfl) rfl rfl in1_X1 (List.mem_cons_of_mem _ mw_3_2) dX1_takeWire_6 ?_
    refine j_alen (v := (8 : Int32)) C 0 2 rfl rfl rfl dX1_takeWire_9 ?_
    refine j_icmp_ge C 23 dX1_takeWire_10 rfl (fun c_14 => ?_) (fun c_14 => ?_)
    · have hF := (if_pos c_14).symm.trans hF
      refine j_iconst (v := (0 : Int32)) C dX1_takeWire_23 rfl ?_
      cases hF
      exact j_zret C rfl Rk dX1_takeWire_24
    · have hF := (if_neg c_14).symm.trans hF
      refine j_aload_n C 0 dX1_takeWire_13 rfl rfl ?_
      refine j_get (v := .ref (h0 3)) C 0 2 rfl rfl (Nat.le_of_ble_eq_true rfl) rfl rfl in1_X1 (List.mem_cons_of_mem _ mw_3_2) dX1_takeWire_14 ?_
      refine j_iload_n C 1 dX1_takeWire_17 rfl rfl ?_
      obtain ⟨z_1, hF⟩ := gi hF
      refine j_iald C 0 2 rfl rfl z_1 dX1_takeWire_18 ?_
      refine j_iconst (v := (2 : Int32)) C dX1_takeWire_19 rfl ?_
      refine j_icmp_lt C 25 dX1_takeWire_20 rfl (fun c_13 => ?_) (fun c_13 => ?_)
      · have hF := (if_pos c_13).symm.trans hF
        refine j_aload_n C 0 dX1_takeWire_25 rfl rfl ?_
        refine j_aload_n C 0 dX1_takeWire_26 rfl rfl ?_
        refine j_get (v := .ref (h0 3)) C 0 2 rfl rfl (Nat.le_of_ble_eq_true rfl) rfl rfl in1_X1 (List.mem_cons_of_mem _ mw_3_2) dX1_takeWire_27 ?_
        refine j_iload_n C 1 dX1_takeWire_30 rfl rfl ?_
        refine j_iald C 0 2 rfl rfl z_1 dX1_takeWire_31 ?_
        refine j_if_ne C 39 dX1_takeWire_32 rfl (fun c_12 => ?_) (fun c_12 => ?_)
        · have hF := (if_neg c_12).symm.trans hF
          refine j_bipush (v := (8 : Int32)) C dX1_takeWire_39 rfl ?_
          refine j_iload_n C 1 dX1_takeWire_41 rfl rfl ?_
          refine j_iadd C dX1_takeWire_42 ?_
          refine j_aload_n C 2 dX1_takeWire_43 rfl rfl ?_
          obtain ⟨o0_7, o1_8, k_9, hF⟩ := gb2 hF
          refine j_callVv C (os' := [(shX1, h0, o0_7), ((shX2 N1), h1, o1_8)]) [.int ((8 : Int32) + x1), .ref (h1 0)] (kX1_place g N1 h0 h1 ((8 : Int32) + x1) o0 o1 k_9) [0, 1] rfl rfl rfl rfl 0 rfl rfl (wl_gV mw_9_1 mw_9_2 mw_9_3 mw_1_18 mw_9_4) rfl 2 rfl hd_X1_place ⟨Nat.le_of_ble_eq_true rfl, Nat.le_of_ble_eq_true rfl⟩ (Nat.le_of_ble_eq_true rfl) rfl dX1_takeWire_44 ?_
          refine j_aload_n C 0 dX1_takeWire_47 rfl rfl ?_
          refine j_get (v := .ref (h0 3)) C 0 2 rfl rfl (Nat.le_of_ble_eq_true rfl) rfl rfl in1_X1 (List.mem_cons_of_mem _ mw_3_2) dX1_takeWire_48 ?_
          refine j_iload_n C 1 dX1_takeWire_51 rfl rfl ?_
          refine j_dup2 C rfl rfl dX1_takeWire_52 ?_
          refine j_iald C 0 2 rfl rfl z_1 dX1_takeWire_53 ?_
          refine j_iconst (v := (1 : Int32)) C dX1_takeWire_54 rfl ?_
          refine j_iadd C dX1_takeWire_55 ?_
          obtain ⟨o0_11, e_10, hF⟩ := glT hF
          refine j_iast C 0 2 rfl rfl z_1 [(shX1, h0, o0_11), ((shX2 N1), h1, o1_8)] (by rw [e_10]; rfl) dX1_takeWire_56 ?_
          refine j_iconst (v := (1 : Int32)) C dX1_takeWire_57 rfl ?_
          cases hF
          exact j_zret C rfl Rk dX1_takeWire_58
        · have hF := (if_pos c_12).symm.trans hF
          refine j_iload_n C 1 dX1_takeWire_35 rfl rfl ?_
          refine j_goto C 43 dX1_takeWire_36 rfl ?_
          refine j_aload_n C 2 dX1_takeWire_43 rfl rfl ?_
          obtain ⟨o0_2, o1_3, k_4, hF⟩ := gb2 hF
          refine j_callVv C (os' := [(shX1, h0, o0_2), ((shX2 N1), h1, o1_3)]) [.int x1, .ref (h1 0)] (kX1_place g N1 h0 h1 x1 o0 o1 k_4) [0, 1] rfl rfl rfl rfl 0 rfl rfl (wl_gV mw_9_1 mw_9_2 mw_9_3 mw_1_18 mw_9_4) rfl 2 rfl hd_X1_place ⟨Nat.le_of_ble_eq_true rfl, Nat.le_of_ble_eq_true rfl⟩ (Nat.le_of_ble_eq_true rfl) rfl dX1_takeWire_44 ?_
          refine j_aload_n C 0 dX1_takeWire_47 rfl rfl ?_
          refine j_get (v := .ref (h0 3)) C 0 2 rfl rfl (Nat.le_of_ble_eq_true rfl) rfl rfl in1_X1 (List.mem_cons_of_mem _ mw_3_2) dX1_takeWire_48 ?_
          refine j_iload_n C 1 dX1_takeWire_51 rfl rfl ?_
          refine j_dup2 C rfl rfl dX1_takeWire_52 ?_
          refine j_iald C 0 2 rfl rfl z_1 dX1_takeWire_53 ?_
          refine j_iconst (v := (1 : Int32)) C dX1_takeWire_54 rfl ?_
          refine j_iadd C dX1_takeWire_55 ?_
          obtain ⟨o0_6, e_5, hF⟩ := glT hF
          refine j_iast C 0 2 rfl rfl z_1 [(shX1, h0, o0_6), ((shX2 N1), h1, o1_3)] (by rw [e_5]; rfl) dX1_takeWire_56 ?_
          refine j_iconst (v := (1 : Int32)) C dX1_takeWire_57 rfl ?_
          cases hF
          exact j_zret C rfl Rk dX1_takeWire_58
      · have hF := (if_neg c_13).symm.trans hF
        refine j_iconst (v := (0 : Int32)) C dX1_takeWire_23 rfl ?_
        cases hF
        exact j_zret C rfl Rk dX1_takeWire_24
/-! HeadsMeet$Draft.takeTree -/
def BX1_takeTree_22 (N1 : Nat) (x1 : Int32) (o0 : Ob) (o1 : Ob) : Option (Int32 × Ob × Ob) :=
  lT (ixL 0 ((x1.toUInt32 % 65536).toInt32)) fun x4_8 =>
  if x4_8 < 0 then
    some ((0 : Int32), o0, o1)
  else
    if (oV o0 3) < (80 : Int32) then
      b2 (FX2_addNode N1 x4_8 o1) fun r_10 o1_11 =>
      b1 (FX2_port r_10 (0 : Int32)) fun r_13 =>
      b2 (FX1_place N1 r_13 o0 o1_11) fun o0_15 o1_16 =>
      if x4_8 = 0 then
        some ((1 : Int32), o0_15, o1_16)
      else
        if inb (oV o0_15 3) 80 then
        lT (sA o0_15 0 (oV o0_15 3).toNatClampNeg r_10) fun o0_20 =>
        if inb (oV o0_20 3) 80 then
        lT (sA o0_20 1 (oV o0_20 3).toNatClampNeg (0 : Int32)) fun o0_23 =>
        lT (sV o0_23 3 ((oV o0_23 3) + (1 : Int32))) fun o0_25 =>
        some ((1 : Int32), o0_25, o1_16)
        else none
        else none
    else
      some ((0 : Int32), o0, o1)
def FX1_takeTree (N1 : Nat) (x1 : Int32) (o0 : Ob) (o1 : Ob) : Option (Int32 × Ob × Ob) :=
  lT (x1 - (97 : Int32)) fun x3_1 =>
  if x3_1 < 0 then
    BX1_takeTree_22 N1 x1 o0 o1
  else
    if (8 : Int32) ≤ x3_1 then
      BX1_takeTree_22 N1 x1 o0 o1
    else
      b3 (FX1_takeWire N1 x3_1 o0 o1) fun r_3 o0_4 o1_5 =>
      if isb r_3 then
      some (r_3, o0_4, o1_5)
      else none
set_option maxRecDepth 100000 in
set_option maxHeartbeats 4000000 in
theorem bX1_takeTree_22 {g : Gl} {X : Cxt} (C : CxOk g X cX1_takeTree RX1 (Cond.code yX1_takeTree cX1_takeTree 6 (some .boolean) :: wsL_law) 6 4 91) {r : Int32} {o0' : Ob} {o1' : Ob} (N1 : Nat) (h0 : Nat → Nat) (h1 : Nat → Nat) (x1 : Int32) (o0 : Ob) (o1 : Ob)  (Rk : RetOk g X [(shX1, h0, o0'), ((shX2 N1), h1, o1')] (some (.int r)) (some .boolean))  (hF : BX1_takeTree_22 N1  x1 o0 o1 = some (r, o0', o1')) : J g X [(shX1, h0, o0), ((shX2 N1), h1, o1)] 22 [(0, .ref (h0 0)), (1, .int x1), (2, .ref (h1 0))] [] := by
  unfold BX1_takeTree_22 at hF
  refine j_ldcS (i := 0) C (fun _ _ h => h.2.1) dX1_takeTree_22 ?_
  refine j_iload_n C 1 dX1_takeTree_24 rfl rfl ?_
  refine j_i2c C dX1_takeTree_25 ?_
  refine j_callTi C (os' := [(shX1, h0, o0), ((shX2 N1), h1, o1)]) [.int ((x1.toUInt32 % 65536).toInt32)] (c_indexOf g 0 (by decide) ((x1.toUInt32 % 65536).toInt32) rfl) [] rfl rfl rfl rfl (by decide) (wl_gV mw_9_13 mw_9_14 mw_9_15 mw_9_16 mw_9_17) rfl 1 rfl hd_J0_indexOf_0f7a4 ⟨Nat.le_of_ble_eq_true rfl, Nat.le_of_ble_eq_true rfl⟩ (Nat.le_of_ble_eq_true rfl) rfl dX1_takeTree_26 ?_
  obtain ⟨x4_8, e_9, hF⟩ := glT hF
  refine j_istore C [(4, .int x4_8), (0, .ref (h0 0)), (1, .int x1), (2, .ref (h1 0))] dX1_takeTree_29 (Nat.le_of_ble_eq_true rfl) e_9 rfl ?_
  refine j_iload C 0 dX1_takeTree_31 rfl ?_
  refine j_if_lt C 48 dX1_takeTree_33 rfl (fun c_28 => ?_) (fun c_28 => ?_)
  · have hF := (if_pos c_28).symm.trans hF
    refine j_iconst (v := (0 : Int32)) C dX1_takeTree_48 rfl ?_
    cases hF
    exact j_zret C rfl Rk dX1_takeTree_49
  · have hF := (if_neg c_28).symm.trans hF
    refine j_aload_n C 1 dX1_takeTree_36 rfl rfl ?_
    refine j_get (v := .int (oV o0 3)) C 0 3 rfl rfl (Nat.le_of_ble_eq_true rfl) rfl rfl in1_X1 (List.mem_cons_of_mem _ mw_7_17) dX1_takeTree_37 ?_
    refine j_aload_n C 1 dX1_takeTree_40 rfl rfl ?_
    refine j_get (v := .ref (h0 1)) C 0 0 rfl rfl (Nat.le_of_ble_eq_true rfl) rfl rfl in1_X1 (List.mem_cons_of_mem _ mw_3_0) dX1_takeTree_41 ?_
    refine j_alen (v := (80 : Int32)) C 0 0 rfl rfl rfl dX1_takeTree_44 ?_
    refine j_icmp_lt C 50 dX1_takeTree_45 rfl (fun c_27 => ?_) (fun c_27 => ?_)
    · have hF := (if_pos c_27).symm.trans hF
      refine j_aload_n C 3 dX1_takeTree_50 rfl rfl ?_
      refine j_iload C 0 dX1_takeTree_51 rfl ?_
      obtain ⟨r_10, o1_11, k_12, hF⟩ := gb2 hF
      refine j_callVi C (os' := [(shX1, h0, o0), ((shX2 N1), h1, o1_11)]) [.int x4_8] (kX2_addNode g N1 h1 x4_8 o1 k_12) [1] rfl rfl rfl rfl 1 rfl rfl (wl_gV mw_13_6 mw_13_7 mw_13_8 mw_1_22 mw_13_9) rfl 1 rfl hd_X2_addNode ⟨Nat.le_of_ble_eq_true rfl, Nat.le_of_ble_eq_true rfl⟩ (Nat.le_of_ble_eq_true rfl) rfl dX1_takeTree_53 ?_
      refine j_istore C [(5, .int r_10), (4, .int x4_8), (0, .ref (h0 0)), (1, .int x1), (2, .ref (h1 0))] dX1_takeTree_56 (Nat.le_of_ble_eq_true rfl) rfl rfl ?_
      refine j_aload_n C 2 dX1_takeTree_58 rfl rfl ?_
      refine j_iload C 0 dX1_takeTree_59 rfl ?_
      refine j_iconst (v := (0 : Int32)) C dX1_takeTree_61 rfl ?_
      obtain ⟨r_13, k_14, hF⟩ := gb1 hF
      refine j_callSi C (os' := [(shX1, h0, o0), ((shX2 N1), h1, o1_11)]) [.int r_10, .int (0 : Int32)] (kX2_port g r_10 (0 : Int32) k_14) [] rfl rfl rfl rfl (wl_gS mw_9_6 mw_9_7 mw_1_22 mw_9_8) rfl 2 rfl hd_X2_port ⟨Nat.le_of_ble_eq_true rfl, Nat.le_of_ble_eq_true rfl⟩ (Nat.le_of_ble_eq_true rfl) rfl dX1_takeTree_62 ?_
      refine j_aload_n C 4 dX1_takeTree_65 rfl rfl ?_
      obtain ⟨o0_15, o1_16, k_17, hF⟩ := gb2 hF
      refine j_callVv C (os' := [(shX1, h0, o0_15), ((shX2 N1), h1, o1_16)]) [.int r_13, .ref (h1 0)] (kX1_place g N1 h0 h1 r_13 o0 o1_11 k_17) [0, 1] rfl rfl rfl rfl 0 rfl rfl (wl_gV mw_9_1 mw_9_2 mw_9_3 mw_1_18 mw_9_4) rfl 2 rfl hd_X1_place ⟨Nat.le_of_ble_eq_true rfl, Nat.le_of_ble_eq_true rfl⟩ (Nat.le_of_ble_eq_true rfl) rfl dX1_takeTree_66 ?_
      refine j_iload C 1 dX1_takeTree_69 rfl ?_
      refine j_if_eq C 105 dX1_takeTree_71 rfl (fun c_26 => ?_) (fun c_26 => ?_)
      · have hF := (if_pos c_26).symm.trans hF
        refine j_iconst (v := (1 : Int32)) C dX1_takeTree_105 rfl ?_
        cases hF
        exact j_zret C rfl Rk dX1_takeTree_106
      · have hF := (if_neg c_26).symm.trans hF
        refine j_aload_n C 2 dX1_takeTree_74 rfl rfl ?_
        refine j_get (v := .ref (h0 1)) C 0 0 rfl rfl (Nat.le_of_ble_eq_true rfl) rfl rfl in1_X1 (List.mem_cons_of_mem _ mw_3_0) dX1_takeTree_75 ?_
        refine j_aload_n C 2 dX1_takeTree_78 rfl rfl ?_
        refine j_get (v := .int (oV o0_15 3)) C 0 3 rfl rfl (Nat.le_of_ble_eq_true rfl) rfl rfl in1_X1 (List.mem_cons_of_mem _ mw_7_17) dX1_takeTree_79 ?_
        refine j_iload C 0 dX1_takeTree_82 rfl ?_
        obtain ⟨z_18, hF⟩ := gi hF
        obtain ⟨o0_20, e_19, hF⟩ := glT hF
        refine j_iast C 0 0 rfl rfl z_18 [(shX1, h0, o0_20), ((shX2 N1), h1, o1_16)] (by rw [e_19]; rfl) dX1_takeTree_84 ?_
        refine j_aload_n C 2 dX1_takeTree_85 rfl rfl ?_
        refine j_get (v := .ref (h0 2)) C 0 1 rfl rfl (Nat.le_of_ble_eq_true rfl) rfl rfl in1_X1 (List.mem_cons_of_mem _ mw_3_1) dX1_takeTree_86 ?_
        refine j_aload_n C 2 dX1_takeTree_89 rfl rfl ?_
        refine j_get (v := .int (oV o0_20 3)) C 0 3 rfl rfl (Nat.le_of_ble_eq_true rfl) rfl rfl in1_X1 (List.mem_cons_of_mem _ mw_7_17) dX1_takeTree_90 ?_
        refine j_iconst (v := (0 : Int32)) C dX1_takeTree_93 rfl ?_
        obtain ⟨z_21, hF⟩ := gi hF
        obtain ⟨o0_23, e_22, hF⟩ := glT hF
        refine j_iast C 0 1 rfl rfl z_21 [(shX1, h0, o0_23), ((shX2 N1), h1, o1_16)] (by rw [e_22]; rfl) dX1_takeTree_94 ?_
        refine j_aload_n C 2 dX1_takeTree_95 rfl rfl ?_
        refine j_dup C rfl dX1_takeTree_96 ?_
        refine j_get (v := .int (oV o0_23 3)) C 0 3 rfl rfl (Nat.le_of_ble_eq_true rfl) rfl rfl in1_X1 (List.mem_cons_of_mem _ mw_7_17) dX1_takeTree_97 ?_
        refine j_iconst (v := (1 : Int32)) C dX1_takeTree_100 rfl ?_
        refine j_iadd C dX1_takeTree_101 ?_
        obtain ⟨o0_25, e_24, hF⟩ := glT hF
        refine j_putV C tyX1_ok nmX1 0 3 rfl rfl (Nat.le_of_ble_eq_true rfl) rfl in1_X1 (List.mem_cons_of_mem _ mw_7_17) rfl fd_X1_3 rfl rfl [(shX1, h0, o0_25), ((shX2 N1), h1, o1_16)] (by rw [e_24]; rfl) dX1_takeTree_102 ?_
        refine j_iconst (v := (1 : Int32)) C dX1_takeTree_105 rfl ?_
        cases hF
        exact j_zret C rfl Rk dX1_takeTree_106
    · have hF := (if_neg c_27).symm.trans hF
      refine j_iconst (v := (0 : Int32)) C dX1_takeTree_48 rfl ?_
      cases hF
      exact j_zret C rfl Rk dX1_takeTree_49
set_option maxRecDepth 100000 in
set_option maxHeartbeats 4000000 in
theorem kX1_takeTree (g : Gl) (N1 : Nat) (h0 : Nat → Nat) (h1 : Nat → Nat) (x1 : Int32) (o0 : Ob) (o1 : Ob) {r : Int32} {o0' : Ob} {o1' : Ob} (hF : FX1_takeTree N1 x1 o0 o1 = some (r, o0', o1')) : Ctr g yX1_takeTree (Cond.code yX1_takeTree cX1_takeTree 6 (some .boolean) :: wsL_law) 4 91 [(shX1, h0, o0), ((shX2 N1), h1, o1)] [(shX1, h0, o0'), ((shX2 N1), h1, o1')] [.ref (h0 0), .int x1, .ref (h1 0)] (some (.int r)) := by
  refine Ctr.of (cc := cX1_takeTree) (maxL := 6) (ret := (some .boolean)) (by decide) rfl (Nat.le_of_ble_eq_true rfl) ?_
  intro X C Rk
  replace C : CxOk g X cX1_takeTree RX1 (Cond.code yX1_takeTree cX1_takeTree 6 (some .boolean) :: wsL_law) 6 4 91 := C
  show J g X [(shX1, h0, o0), ((shX2 N1), h1, o1)] 0 [(0, .ref (h0 0)), (1, .int x1), (2, .ref (h1 0))] []
  unfold FX1_takeTree at hF
  refine j_iload_n C 1 dX1_takeTree_0 rfl rfl ?_
  refine j_bipush (v := (97 : Int32)) C dX1_takeTree_1 rfl ?_
  refine j_isub C dX1_takeTree_3 ?_
  obtain ⟨x3_1, e_2, hF⟩ := glT hF
  refine j_istore_n C [(3, .int x3_1), (0, .ref (h0 0)), (1, .int x1), (2, .ref (h1 0))] dX1_takeTree_4 rfl (Nat.le_of_ble_eq_true rfl) e_2 rfl ?_
  refine j_iload_n C 0 dX1_takeTree_5 rfl rfl ?_
  refine j_if_lt C 22 dX1_takeTree_6 rfl (fun c_30 => ?_) (fun c_30 => ?_)
  · have hF := (if_pos c_30).symm.trans hF
    refine j_sub [(0, .ref (h0 0)), (1, .int x1), (2, .ref (h1 0))] [1, 2, 3] rfl ?_
    exact bX1_takeTree_22 C N1 h0 h1 _ _ _ Rk  hF
  · have hF := (if_neg c_30).symm.trans hF
    refine j_iload_n C 0 dX1_takeTree_9 rfl rfl ?_
    refine j_bipush (v := (8 : Int32)) C dX1_takeTree_10 rfl ?_
    refine j_icmp_ge C 22 dX1_takeTree_12 rfl (fun c_29 => ?_) (fun c_29 => ?_)
    · have hF := (if_pos c_29).symm.trans hF
      refine j_sub [(0, .ref (h0 0)), (1, .int x1), (2, .ref (h1 0))] [1, 2, 3] rfl ?_
      exact bX1_takeTree_22 C N1 h0 h1 _ _ _ Rk  hF
    · have hF := (if_neg c_29).symm.trans hF
      refine j_aload_n C 1 dX1_takeTree_15 rfl rfl ?_
      refine j_iload_n C 0 dX1_takeTree_16 rfl rfl ?_
      refine j_aload_n C 3 dX1_takeTree_17 rfl rfl ?_
      obtain ⟨r_3, o0_4, o1_5, k_6, hF⟩ := gb3 hF
      refine j_callVi C (os' := [(shX1, h0, o0_4), ((shX2 N1), h1, o1_5)]) [.int x3_1, .ref (h1 0)] (kX1_takeWire g N1 h0 h1 x3_1 o0 o1 k_6) [0, 1] rfl rfl rfl rfl 0 rfl rfl (wl_gV mw_8_21 mw_8_22 mw_8_23 mw_1_18 mw_9_0) rfl 2 rfl hd_X1_takeWire ⟨Nat.le_of_ble_eq_true rfl, Nat.le_of_ble_eq_true rfl⟩ (Nat.le_of_ble_eq_true rfl) rfl dX1_takeTree_18 ?_
      obtain ⟨z_7, hF⟩ := gi hF
      cases hF
      exact j_zret C (nb_of z_7) Rk dX1_takeTree_21
/-! HeadsMeet$Draft.takeClosing -/
def FX1_takeClosing (N1 : Nat) (x1 : Int32) (o0 : Ob) (o1 : Ob) : Option (Int32 × Ob) :=
  lT ((oV o0 3) - (1 : Int32)) fun x3_1 =>
  if x3_1 < 0 then
    some ((0 : Int32), o0)
  else
    if x3_1 < (80 : Int32) then
      if inb x3_1 80 then
      b1 (FX2_kindOf N1 (oA o0 0 x3_1.toNatClampNeg) o1) fun r_4 =>
      if r_4 < (1 : Int32) then
        some ((0 : Int32), o0)
      else
        if (4 : Int32) ≤ r_4 then
          some ((0 : Int32), o0)
        else
          if inb r_4 4 then
          if x1 = (chA 1 r_4) then
            lT (sV o0 3 x3_1) fun o0_8 =>
            some ((1 : Int32), o0_8)
          else
            some ((0 : Int32), o0)
          else none
      else none
    else
      some ((0 : Int32), o0)
set_option maxRecDepth 100000 in
set_option maxHeartbeats 4000000 in
theorem kX1_takeClosing (g : Gl) (N1 : Nat) (h0 : Nat → Nat) (h1 : Nat → Nat) (x1 : Int32) (o0 : Ob) (o1 : Ob) {r : Int32} {o0' : Ob} (hF : FX1_takeClosing N1 x1 o0 o1 = some (r, o0')) : Ctr g yX1_takeClosing (Cond.code yX1_takeClosing cX1_takeClosing 5 (some .boolean) :: wsL_law) 4 85 [(shX1, h0, o0), ((shX2 N1), h1, o1)] [(shX1, h0, o0'), ((shX2 N1), h1, o1)] [.ref (h0 0), .int x1, .ref (h1 0)] (some (.int r)) := by
  refine Ctr.of (cc := cX1_takeClosing) (maxL := 5) (ret := (some .boolean)) (by decide) rfl (Nat.le_of_ble_eq_true rfl) ?_
  intro X C Rk
  replace C : CxOk g X cX1_takeClosing RX1 (Cond.code yX1_takeClosing cX1_takeClosing 5 (some .boolean) :: wsL_law) 5 4 85 := C
  show J g X [(shX1, h0, o0), ((shX2 N1), h1, o1)] 0 [(0, .ref (h0 0)), (1, .int x1), (2, .ref (h1 0))] []
  unfold FX1_takeClosing at hF
  refine j_aload_n C 0 dX1_takeClosing_0 rfl rfl ?_
  refine j_get (v := .int (oV o0 3)) C 0 3 rfl rfl (Nat.le_of_ble_eq_true rfl) rfl rfl in1_X1 (List.mem_cons_of_mem _ mw_7_17) dX1_takeClosing_1 ?_
  refine j_iconst (v := (1 : Int32)) C dX1_takeClosing_4 rfl ?_
  refine j_isub C dX1_takeClosing_5 ?_
  obtain ⟨x3_1, e_2, hF⟩ := glT hF
  refine j_istore_n C [(3, .int x3_1), (0, .ref (h0 0)), (1, .int x1), (2, .ref (h1 0))] dX1_takeClosing_6 rfl (Nat.le_of_ble_eq_true rfl) e_2 rfl ?_
  refine j_iload_n C 0 dX1_takeClosing_7 rfl rfl ?_
  refine j_if_lt C 20 dX1_takeClosing_8 rfl (fun c_13 => ?_) (fun c_13 => ?_)
  · have hF := (if_pos c_13).symm.trans hF
    refine j_iconst (v := (0 : Int32)) C dX1_takeClosing_20 rfl ?_
    cases hF
    exact j_zret C rfl Rk dX1_takeClosing_21
  · have hF := (if_neg c_13).symm.trans hF
    refine j_iload_n C 0 dX1_takeClosing_11 rfl rfl ?_
    refine j_aload_n C 1 dX1_takeClosing_12 rfl rfl ?_
    refine j_get (v := .ref (h0 1)) C 0 0 rfl rfl (Nat.le_of_ble_eq_true rfl) rfl rfl in1_X1 (List.mem_cons_of_mem _ mw_3_0) dX1_takeClosing_13 ?_
    refine j_alen (v := (80 : Int32)) C 0 0 rfl rfl rfl dX1_takeClosing_16 ?_
    refine j_icmp_lt C 22 dX1_takeClosing_17 rfl (fun c_12 => ?_) (fun c_12 => ?_)
    · have hF := (if_pos c_12).symm.trans hF
      refine j_aload_n C 3 dX1_takeClosing_22 rfl rfl ?_
      refine j_aload_n C 1 dX1_takeClosing_23 rfl rfl ?_
      refine j_get (v := .ref (h0 1)) C 0 0 rfl rfl (Nat.le_of_ble_eq_true rfl) rfl rfl in1_X1 (List.mem_cons_of_mem _ mw_3_0) dX1_takeClosing_24 ?_
      refine j_iload_n C 0 dX1_takeClosing_27 rfl rfl ?_
      obtain ⟨z_3, hF⟩ := gi hF
      refine j_iald C 0 0 rfl rfl z_3 dX1_takeClosing_28 ?_
      obtain ⟨r_4, k_5, hF⟩ := gb1 hF
      refine j_callVi C (os' := [(shX1, h0, o0), ((shX2 N1), h1, o1)]) [.int (oA o0 0 x3_1.toNatClampNeg)] (kX2_kindOf g N1 h1 (oA o0 0 x3_1.toNatClampNeg) o1 k_5) [1] rfl rfl rfl rfl 1 rfl rfl (wl_gV mw_13_19 mw_13_12 mw_13_13 mw_1_22 mw_13_14) rfl 1 rfl hd_X2_kindOf ⟨Nat.le_of_ble_eq_true rfl, Nat.le_of_ble_eq_true rfl⟩ (Nat.le_of_ble_eq_true rfl) rfl dX1_takeClosing_29 ?_
      refine j_istore C [(4, .int r_4), (3, .int x3_1), (0, .ref (h0 0)), (1, .int x1), (2, .ref (h1 0))] dX1_takeClosing_32 (Nat.le_of_ble_eq_true rfl) rfl rfl ?_
      refine j_iload C 0 dX1_takeClosing_34 rfl ?_
      refine j_iconst (v := (1 : Int32)) C dX1_takeClosing_36 rfl ?_
      refine j_icmp_lt C 61 dX1_takeClosing_37 rfl (fun c_11 => ?_) (fun c_11 => ?_)
      · have hF := (if_pos c_11).symm.trans hF
        refine j_iconst (v := (0 : Int32)) C dX1_takeClosing_61 rfl ?_
        cases hF
        exact j_zret C rfl Rk dX1_takeClosing_62
      · have hF := (if_neg c_11).symm.trans hF
        refine j_iload C 0 dX1_takeClosing_40 rfl ?_
        refine j_ldcS (i := 1) C (fun _ _ h => h.2.2.1) dX1_takeClosing_42 ?_
        refine j_callTi C (os' := [(shX1, h0, o0), ((shX2 N1), h1, o1)]) [] (c_length g 1 (by decide)) [] rfl rfl rfl rfl (by decide) (wl_gV mw_13_20 mw_10_6 mw_10_7 mw_9_16 mw_10_8) rfl 0 rfl hd_J0_length_8abf5 ⟨Nat.le_of_ble_eq_true rfl, Nat.le_of_ble_eq_true rfl⟩ (Nat.le_of_ble_eq_true rfl) rfl dX1_takeClosing_44 ?_
        refine j_icmp_ge C 61 dX1_takeClosing_47 rfl (fun c_10 => ?_) (fun c_10 => ?_)
        · have hF := (if_pos c_10).symm.trans hF
          refine j_iconst (v := (0 : Int32)) C dX1_takeClosing_61 rfl ?_
          cases hF
          exact j_zret C rfl Rk dX1_takeClosing_62
        · have hF := (if_neg c_10).symm.trans hF
          refine j_iload_n C 3 dX1_takeClosing_50 rfl rfl ?_
          refine j_ldcS (i := 1) C (fun _ _ h => h.2.2.1) dX1_takeClosing_51 ?_
          refine j_iload C 0 dX1_takeClosing_53 rfl ?_
          obtain ⟨z_6, hF⟩ := gi hF
          refine j_callTi C (os' := [(shX1, h0, o0), ((shX2 N1), h1, o1)]) [.int r_4] (c_charAt g 1 (by decide) r_4 z_6) [] rfl rfl rfl rfl (by decide) (wl_gV mw_13_21 mw_13_22 mw_13_23 mw_9_16 mw_14_0) rfl 1 rfl hd_J0_charAt_5068e ⟨Nat.le_of_ble_eq_true rfl, Nat.le_of_ble_eq_true rfl⟩ (Nat.le_of_ble_eq_true rfl) rfl dX1_takeClosing_55 ?_
          refine j_icmp_eq C 63 dX1_takeClosing_58 rfl (fun c_9 => ?_) (fun c_9 => ?_)
          · have hF := (if_pos c_9).symm.trans hF
            refine j_aload_n C 2 dX1_takeClosing_63 rfl rfl ?_
            refine j_iload_n C 1 dX1_takeClosing_64 rfl rfl ?_
            obtain ⟨o0_8, e_7, hF⟩ := glT hF
            refine j_putV C tyX1_ok nmX1 0 3 rfl rfl (Nat.le_of_ble_eq_true rfl) rfl in1_X1 (List.mem_cons_of_mem _ mw_7_17) rfl fd_X1_3 rfl rfl [(shX1, h0, o0_8), ((shX2 N1), h1, o1)] (by rw [e_7]; rfl) dX1_takeClosing_65 ?_
            refine j_iconst (v := (1 : Int32)) C dX1_takeClosing_68 rfl ?_
            cases hF
            exact j_zret C rfl Rk dX1_takeClosing_69
          · have hF := (if_neg c_9).symm.trans hF
            refine j_iconst (v := (0 : Int32)) C dX1_takeClosing_61 rfl ?_
            cases hF
            exact j_zret C rfl Rk dX1_takeClosing_62
    · have hF := (if_neg c_12).symm.trans hF
      refine j_iconst (v := (0 : Int32)) C dX1_takeClosing_20 rfl ?_
      cases hF
      exact j_zret C rfl Rk dX1_takeClosing_21
/-! HeadsMeet$Draft.take -/
def BX1_take_44 (N1 : Nat) (y0 : Int32) (y1 : Int32) (o0 : Ob) (o1 : Ob) : Option (Int32 × Ob × Ob) :=
  if y0 = y1 then
    if (oV o0 4) = (1 : Int32) then
      lT (sV o0 4 (2 : Int32)) fun o0_13 =>
      some ((1 : Int32), o0_13, o1)
    else
      lT (sV o0 4 (0 : Int32)) fun o0_15 =>
      some ((1 : Int32), o0_15, o1)
  else
    some ((0 : Int32), o0, o1)
def FX1_take (N1 : Nat) (x1 : Int32) (o0 : Ob) (o1 : Ob) : Option (Int32 × Ob × Ob) :=
  b1 (FX1_isTreeDue o0) fun r_1 =>
  if r_1 = 0 then
    if (oV o0 3) ≤ 0 then
      if (oV o0 4) = (1 : Int32) then
        BX1_take_44 N1 x1 (61 : Int32) o0 o1
      else
        BX1_take_44 N1 x1 (44 : Int32) o0 o1
    else
      b2 (FX1_takeClosing N1 x1 o0 o1) fun r_8 o0_9 =>
      if isb r_8 then
      some (r_8, o0_9, o1)
      else none
  else
    b3 (FX1_takeTree N1 x1 o0 o1) fun r_3 o0_4 o1_5 =>
    if isb r_3 then
    some (r_3, o0_4, o1_5)
    else none
set_option maxRecDepth 100000 in
set_option maxHeartbeats 4000000 in
theorem bX1_take_44 {g : Gl} {X : Cxt} (C : CxOk g X cX1_take RX1 (Cond.code yX1_take cX1_take 3 (some .boolean) :: wsL_law) 3 5 116) {r : Int32} {o0' : Ob} {o1' : Ob} (N1 : Nat) (h0 : Nat → Nat) (h1 : Nat → Nat) (y0 : Int32) (y1 : Int32) (o0 : Ob) (o1 : Ob)  (Rk : RetOk g X [(shX1, h0, o0'), ((shX2 N1), h1, o1')] (some (.int r)) (some .boolean))  (hF : BX1_take_44 N1  y0 y1 o0 o1 = some (r, o0', o1')) : J g X [(shX1, h0, o0), ((shX2 N1), h1, o1)] 44 [(0, .ref (h0 0))] [.int y1, .int y0] := by
  unfold BX1_take_44 at hF
  refine j_icmp_eq C 49 dX1_take_44 rfl (fun c_17 => ?_) (fun c_17 => ?_)
  · have hF := (if_pos c_17).symm.trans hF
    refine j_aload_n C 0 dX1_take_49 rfl rfl ?_
    refine j_aload_n C 0 dX1_take_50 rfl rfl ?_
    refine j_get (v := .int (oV o0 4)) C 0 4 rfl rfl (Nat.le_of_ble_eq_true rfl) rfl rfl in1_X1 (List.mem_cons_of_mem _ mw_7_18) dX1_take_51 ?_
    refine j_iconst (v := (1 : Int32)) C dX1_take_54 rfl ?_
    refine j_icmp_ne C 62 dX1_take_55 rfl (fun c_16 => ?_) (fun c_16 => ?_)
    · have hF := (if_neg c_16).symm.trans hF
      refine j_iconst (v := (0 : Int32)) C dX1_take_62 rfl ?_
      obtain ⟨o0_15, e_14, hF⟩ := glT hF
      refine j_putV C tyX1_ok nmX1 0 4 rfl rfl (Nat.le_of_ble_eq_true rfl) rfl in1_X1 (List.mem_cons_of_mem _ mw_7_18) rfl fd_X1_4 rfl rfl [(shX1, h0, o0_15), ((shX2 N1), h1, o1)] (by rw [e_14]; rfl) dX1_take_63 ?_
      refine j_iconst (v := (1 : Int32)) C dX1_take_66 rfl ?_
      cases hF
      exact j_zret C rfl Rk dX1_take_67
    · have hF := (if_pos c_16).symm.trans hF
      refine j_iconst (v := (2 : Int32)) C dX1_take_58 rfl ?_
      refine j_goto C 63 dX1_take_59 rfl ?_
      obtain ⟨o0_13, e_12, hF⟩ := glT hF
      refine j_putV C tyX1_ok nmX1 0 4 rfl rfl (Nat.le_of_ble_eq_true rfl) rfl in1_X1 (List.mem_cons_of_mem _ mw_7_18) rfl fd_X1_4 rfl rfl [(shX1, h0, o0_13), ((shX2 N1), h1, o1)] (by rw [e_12]; rfl) dX1_take_63 ?_
      refine j_iconst (v := (1 : Int32)) C dX1_take_66 rfl ?_
      cases hF
      exact j_zret C rfl Rk dX1_take_67
  · have hF := (if_neg c_17).symm.trans hF
    refine j_iconst (v := (0 : Int32)) C dX1_take_47 rfl ?_
    cases hF
    exact j_zret C rfl Rk dX1_take_48
set_option maxRecDepth 100000 in
set_option maxHeartbeats 4000000 in
theorem kX1_take (g : Gl) (N1 : Nat) (h0 : Nat → Nat) (h1 : Nat → Nat) (x1 : Int32) (o0 : Ob) (o1 : Ob) {r : Int32} {o0' : Ob} {o1' : Ob} (hF : FX1_take N1 x1 o0 o1 = some (r, o0', o1')) : Ctr g yX1_take (Cond.code yX1_take cX1_take 3 (some .boolean) :: wsL_law) 5 116 [(shX1, h0, o0), ((shX2 N1), h1, o1)] [(shX1, h0, o0'), ((shX2 N1), h1, o1')] [.ref (h0 0), .int x1, .ref (h1 0)] (some (.int r)) := by
  refine Ctr.of (cc := cX1_take) (maxL := 3) (ret := (some .boolean)) (by decide) rfl (Nat.le_of_ble_eq_true rfl) ?_
  intro X C Rk
  replace C : CxOk g X cX1_take RX1 (Cond.code yX1_take cX1_take 3 (some .boolean) :: wsL_law) 3 5 116 := C
  show J g X [(shX1, h0, o0), ((shX2 N1), h1, o1)] 0 [(0, .ref (h0 0)), (1, .int x1), (2, .ref (h1 0))] []
  unfold FX1_take at hF
  refine j_aload_n C 0 dX1_take_0 rfl rfl ?_
  obtain ⟨r_1, k_2, hF⟩ := gb1 hF
  refine j_callVi C (os' := [(shX1, h0, o0), ((shX2 N1), h1, o1)]) [] (kX1_isTreeDue g h0 o0 k_2) [0] rfl rfl rfl rfl 0 rfl rfl (wl_gV mw_8_13 mw_8_14 mw_8_15 mw_1_18 mw_8_16) rfl 0 rfl hd_X1_isTreeDue ⟨Nat.le_of_ble_eq_true rfl, Nat.le_of_ble_eq_true rfl⟩ (Nat.le_of_ble_eq_true rfl) rfl dX1_take_1 ?_
  refine j_if_eq C 14 dX1_take_4 rfl (fun c_20 => ?_) (fun c_20 => ?_)
  · have hF := (if_pos c_20).symm.trans hF
    refine j_aload_n C 0 dX1_take_14 rfl rfl ?_
    refine j_get (v := .int (oV o0 3)) C 0 3 rfl rfl (Nat.le_of_ble_eq_true rfl) rfl rfl in1_X1 (List.mem_cons_of_mem _ mw_7_17) dX1_take_15 ?_
    refine j_if_le C 28 dX1_take_18 rfl (fun c_19 => ?_) (fun c_19 => ?_)
    · have hF := (if_pos c_19).symm.trans hF
      refine j_iload_n C 1 dX1_take_28 rfl rfl ?_
      refine j_aload_n C 0 dX1_take_29 rfl rfl ?_
      refine j_get (v := .int (oV o0 4)) C 0 4 rfl rfl (Nat.le_of_ble_eq_true rfl) rfl rfl in1_X1 (List.mem_cons_of_mem _ mw_7_18) dX1_take_30 ?_
      refine j_iconst (v := (1 : Int32)) C dX1_take_33 rfl ?_
      refine j_icmp_ne C 42 dX1_take_34 rfl (fun c_18 => ?_) (fun c_18 => ?_)
      · have hF := (if_neg c_18).symm.trans hF
        refine j_bipush (v := (44 : Int32)) C dX1_take_42 rfl ?_
        refine j_sub [(0, .ref (h0 0))] [0] rfl ?_
        exact bX1_take_44 C N1 h0 h1 _ _ _ _ Rk  hF
      · have hF := (if_pos c_18).symm.trans hF
        refine j_bipush (v := (61 : Int32)) C dX1_take_37 rfl ?_
        refine j_goto C 44 dX1_take_39 rfl ?_
        refine j_sub [(0, .ref (h0 0))] [0] rfl ?_
        exact bX1_take_44 C N1 h0 h1 _ _ _ _ Rk  hF
    · have hF := (if_neg c_19).symm.trans hF
      refine j_aload_n C 0 dX1_take_21 rfl rfl ?_
      refine j_iload_n C 1 dX1_take_22 rfl rfl ?_
      refine j_aload_n C 2 dX1_take_23 rfl rfl ?_
      obtain ⟨r_8, o0_9, k_10, hF⟩ := gb2 hF
      refine j_callVi C (os' := [(shX1, h0, o0_9), ((shX2 N1), h1, o1)]) [.int x1, .ref (h1 0)] (kX1_takeClosing g N1 h0 h1 x1 o0 o1 k_10) [0, 1] rfl rfl rfl rfl 0 rfl rfl (wl_gV mw_13_15 mw_13_16 mw_13_17 mw_1_18 mw_13_18) rfl 2 rfl hd_X1_takeClosing ⟨Nat.le_of_ble_eq_true rfl, Nat.le_of_ble_eq_true rfl⟩ (Nat.le_of_ble_eq_true rfl) rfl dX1_take_24 ?_
      obtain ⟨z_11, hF⟩ := gi hF
      cases hF
      exact j_zret C (nb_of z_11) Rk dX1_take_27
  · have hF := (if_neg c_20).symm.trans hF
    refine j_aload_n C 0 dX1_take_7 rfl rfl ?_
    refine j_iload_n C 1 dX1_take_8 rfl rfl ?_
    refine j_aload_n C 2 dX1_take_9 rfl rfl ?_
    obtain ⟨r_3, o0_4, o1_5, k_6, hF⟩ := gb3 hF
    refine j_callVi C (os' := [(shX1, h0, o0_4), ((shX2 N1), h1, o1_5)]) [.int x1, .ref (h1 0)] (kX1_takeTree g N1 h0 h1 x1 o0 o1 k_6) [0, 1] rfl rfl rfl rfl 0 rfl rfl (wl_gV mw_8_17 mw_8_18 mw_8_19 mw_1_18 mw_8_20) rfl 2 rfl hd_X1_takeTree ⟨Nat.le_of_ble_eq_true rfl, Nat.le_of_ble_eq_true rfl⟩ (Nat.le_of_ble_eq_true rfl) rfl dX1_take_10 ?_
    obtain ⟨z_7, hF⟩ := gi hF
    cases hF
    exact j_zret C (nb_of z_7) Rk dX1_take_13
/-! HeadsMeet$Draft.drawFrom -/
def LX1_drawFrom_24 (N2 : Nat) (o1 : Ob) (E53 : Ob → Ob → Option (Int32 × Ob × Ob)) : Nat → Int32 → Ob → Ob → Option (Int32 × Ob × Ob)
  | 0, _, _, _ => none
  | n + 1, x3, o0, o2 =>
    b1 (FX3_size o1) fun r_10 =>
    if r_10 ≤ x3 then
      E53 o0 o2
    else
      b1 (FX3_at x3 o1) fun r_12 =>
      b3 (FX1_take N2 r_12 o0 o2) fun r_14 o0_15 o2_16 =>
      if r_14 = 0 then
        some (x3, o0_15, o2_16)
      else
        lT (x3 + (1 : Int32)) fun x3_18 =>
        LX1_drawFrom_24 N2 o1 E53 n x3_18 o0_15 o2_16
def FX1_drawFrom (N2 : Nat)  (o0 : Ob) (o1 : Ob) (o2 : Ob) : Option (Int32 × Ob × Ob) :=
  b1 (FX2_clear N2 o2) fun o2_1 =>
  if 8 < 2147483648 then
  lT (sR o0 2 (fl o0 2 8 (0 : Int32))) fun o0_5 =>
  lT (sV o0_5 3 (0 : Int32)) fun o0_7 =>
  lT (sV o0_7 4 (0 : Int32)) fun o0_9 =>
  LX1_drawFrom_24 N2 o1 (fun o0_22 o2_23 =>
   b1 (FX3_size o1) fun r_24 =>
   some (r_24, o0_22, o2_23)) fu (0 : Int32) o0_9 o2_1
  else none
set_option maxRecDepth 100000 in
set_option maxHeartbeats 4000000 in
theorem lX1_drawFrom_24 {g : Gl} {X : Cxt} (C : CxOk g X cX1_drawFrom RX1 (Cond.code yX1_drawFrom cX1_drawFrom 4 (some .int) :: wsL_law) 4 6 138) {r : Int32} {o0' : Ob} {o2' : Ob} (N2 : Nat) (h0 : Nat → Nat) (h1 : Nat → Nat) (h2 : Nat → Nat) (o1 : Ob) (E53 : Ob → Ob → Option (Int32 × Ob × Ob)) (Rk : RetOk g X [(shX1, h0, o0'), (shX3, h1, o1), ((shX2 N2), h2, o2')] (some (.int r)) (some .int)) (hE53 : ∀ (o0 : Ob) (o2 : Ob), E53 o0 o2 = some (r, o0', o2') → J g X [(shX1, h0, o0), (shX3, h1, o1), ((shX2 N2), h2, o2)] 53 [(1, .ref (h1 0))] []) : ∀ (n : Nat) (x3 : Int32) (o0 : Ob) (o2 : Ob), LX1_drawFrom_24 N2 o1 E53 n x3 o0 o2 = some (r, o0', o2') → J g X [(shX1, h0, o0), (shX3, h1, o1), ((shX2 N2), h2, o2)] 24 [(0, .ref (h0 0)), (1, .ref (h1 0)), (2, .ref (h2 0)), (3, .int x3)] [] := by
  intro n
  induction n with
  | zero =>
    intro x3 o0 o2 hF
    cases hF
  | succ n ih =>
    intro x3 o0 o2 hF
    rw [LX1_drawFrom_24.eq_2] at hF
    refine j_iload_n C 3 dX1_drawFrom_24 rfl rfl ?_
    refine j_aload_n C 1 dX1_drawFrom_25 rfl rfl ?_
    obtain ⟨r_10, k_11, hF⟩ := gb1 hF
    refine j_callVi C (os' := [(shX1, h0, o0), (shX3, h1, o1), ((shX2 N2), h2, o2)]) [] (kX3_size g h1 o1 k_11) [1] rfl rfl rfl rfl 1 rfl rfl (wl_gV mw_8_4 mw_6_10 mw_6_11 mw_1_14 mw_6_12) rfl 0 rfl hd_X3_size ⟨Nat.le_of_ble_eq_true rfl, Nat.le_of_ble_eq_true rfl⟩ (Nat.le_of_ble_eq_true rfl) rfl dX1_drawFrom_26 ?_
    refine j_icmp_ge C 53 dX1_drawFrom_29 rfl (fun c_21 => ?_) (fun c_21 => ?_)
    · have hF := (if_pos c_21).symm.trans hF
      refine j_sub [(1, .ref (h1 0))] [1] rfl ?_
      exact hE53 _ _ hF
    · have hF := (if_neg c_21).symm.trans hF
      refine j_aload_n C 0 dX1_drawFrom_32 rfl rfl ?_
      refine j_aload_n C 1 dX1_drawFrom_33 rfl rfl ?_
      refine j_iload_n C 3 dX1_drawFrom_34 rfl rfl ?_
      obtain ⟨r_12, k_13, hF⟩ := gb1 hF
      refine j_callVi C (os' := [(shX1, h0, o0), (shX3, h1, o1), ((shX2 N2), h2, o2)]) [.int x3] (kX3_at g h1 x3 o1 k_13) [1] rfl rfl rfl rfl 1 rfl rfl (wl_gV mw_8_5 mw_8_6 mw_8_7 mw_1_14 mw_8_8) rfl 1 rfl hd_X3_at ⟨Nat.le_of_ble_eq_true rfl, Nat.le_of_ble_eq_true rfl⟩ (Nat.le_of_ble_eq_true rfl) rfl dX1_drawFrom_35 ?_
      refine j_aload_n C 2 dX1_drawFrom_38 rfl rfl ?_
      obtain ⟨r_14, o0_15, o2_16, k_17, hF⟩ := gb3 hF
      refine j_callVi C (os' := [(shX1, h0, o0_15), (shX3, h1, o1), ((shX2 N2), h2, o2_16)]) [.int r_12, .ref (h2 0)] (kX1_take g N2 h0 h2 r_12 o0 o2 k_17) [0, 2] rfl rfl rfl rfl 0 rfl rfl (wl_gV mw_8_9 mw_8_10 mw_8_11 mw_1_18 mw_8_12) rfl 2 rfl hd_X1_take ⟨Nat.le_of_ble_eq_true rfl, Nat.le_of_ble_eq_true rfl⟩ (Nat.le_of_ble_eq_true rfl) rfl dX1_drawFrom_39 ?_
      refine j_if_ne C 47 dX1_drawFrom_42 rfl (fun c_20 => ?_) (fun c_20 => ?_)
      · have hF := (if_neg c_20).symm.trans hF
        obtain ⟨x3_18, e_19, hF⟩ := glT hF
        refine j_iinc C 3 [(3, .int x3_18), (0, .ref (h0 0)), (1, .ref (h1 0)), (2, .ref (h2 0))] dX1_drawFrom_47 rfl e_19.symm (Nat.le_of_ble_eq_true rfl) rfl ?_
        refine j_goto C 24 dX1_drawFrom_50 rfl ?_
        refine j_sub [(0, .ref (h0 0)), (1, .ref (h1 0)), (2, .ref (h2 0)), (3, .int x3_18)] [1, 2, 3, 0] rfl ?_
        exact ih _ _ _ hF
      · have hF := (if_pos c_20).symm.trans hF
        refine j_iload_n C 3 dX1_drawFrom_45 rfl rfl ?_
        cases hF
        exact j_iret C Rk dX1_drawFrom_46
set_option maxRecDepth 100000 in
set_option maxHeartbeats 4000000 in
theorem kX1_drawFrom (g : Gl) (N2 : Nat) (h0 : Nat → Nat) (h1 : Nat → Nat) (h2 : Nat → Nat)  (o0 : Ob) (o1 : Ob) (o2 : Ob) {r : Int32} {o0' : Ob} {o2' : Ob} (hF : FX1_drawFrom N2 o0 o1 o2 = some (r, o0', o2')) : Ctr g yX1_drawFrom (Cond.code yX1_drawFrom cX1_drawFrom 4 (some .int) :: wsL_law) 6 138 [(shX1, h0, o0), (shX3, h1, o1), ((shX2 N2), h2, o2)] [(shX1, h0, o0'), (shX3, h1, o1), ((shX2 N2), h2, o2')] [.ref (h0 0), .ref (h1 0), .ref (h2 0)] (some (.int r)) := by
  refine Ctr.of (cc := cX1_drawFrom) (maxL := 4) (ret := (some .int)) (by decide) rfl (Nat.le_of_ble_eq_true rfl) ?_
  intro X C Rk
  replace C : CxOk g X cX1_drawFrom RX1 (Cond.code yX1_drawFrom cX1_drawFrom 4 (some .int) :: wsL_law) 4 6 138 := C
  show J g X [(shX1, h0, o0), (shX3, h1, o1), ((shX2 N2), h2, o2)] 0 [(0, .ref (h0 0)), (1, .ref (h1 0)), (2, .ref (h2 0))] []
  unfold FX1_drawFrom at hF
  refine j_aload_n C 2 dX1_drawFrom_0 rfl rfl ?_
  obtain ⟨o2_1, k_2, hF⟩ := gb1 hF
  refine j_callVv C (os' := [(shX1, h0, o0), (shX3, h1, o1), ((shX2 N2), h2, o2_1)]) [] (kX2_clear g N2 h2 o2 k_2) [2] rfl rfl rfl rfl 2 rfl rfl (wl_gV mw_7_19 mw_7_20 mw_7_21 mw_1_22 mw_7_22) rfl 0 rfl hd_X2_clear ⟨Nat.le_of_ble_eq_true rfl, Nat.le_of_ble_eq_true rfl⟩ (Nat.le_of_ble_eq_true rfl) rfl dX1_drawFrom_1 ?_
  refine j_aload_n C 0 dX1_drawFrom_4 rfl rfl ?_
  refine j_get (v := .ref (h0 3)) C 0 2 rfl rfl (Nat.le_of_ble_eq_true rfl) rfl rfl in1_X1 (List.mem_cons_of_mem _ mw_3_2) dX1_drawFrom_5 ?_
  refine j_iconst (v := (0 : Int32)) C dX1_drawFrom_8 rfl ?_
  obtain ⟨z_3, hF⟩ := gi hF
  obtain ⟨o0_5, e_4, hF⟩ := glT hF
  refine j_callSv C (oc := [(shX1, h0, o0)]) (os' := [(shX1, h0, o0_5), (shX3, h1, o1), ((shX2 N2), h2, o2_1)]) [.ref (h0 3), .int (0 : Int32)] (c_fill g shX1 h0 o0 2 8 rfl z_3 (0 : Int32)) [0] rfl rfl rfl (by rw [e_4]; rfl) (wl_gS mw_8_3 mw_3_12 mw_3_13 mw_3_14) rfl 2 rfl hd_fill ⟨Nat.le_of_ble_eq_true rfl, Nat.le_of_ble_eq_true rfl⟩ (Nat.le_of_ble_eq_true rfl) rfl dX1_drawFrom_9 ?_
  refine j_aload_n C 0 dX1_drawFrom_12 rfl rfl ?_
  refine j_iconst (v := (0 : Int32)) C dX1_drawFrom_13 rfl ?_
  obtain ⟨o0_7, e_6, hF⟩ := glT hF
  refine j_putV C tyX1_ok nmX1 0 3 rfl rfl (Nat.le_of_ble_eq_true rfl) rfl in1_X1 (List.mem_cons_of_mem _ mw_7_17) rfl fd_X1_3 rfl rfl [(shX1, h0, o0_7), (shX3, h1, o1), ((shX2 N2), h2, o2_1)] (by rw [e_6]; rfl) dX1_drawFrom_14 ?_
  refine j_aload_n C 0 dX1_drawFrom_17 rfl rfl ?_
  refine j_iconst (v := (0 : Int32)) C dX1_drawFrom_18 rfl ?_
  obtain ⟨o0_9, e_8, hF⟩ := glT hF
  refine j_putV C tyX1_ok nmX1 0 4 rfl rfl (Nat.le_of_ble_eq_true rfl) rfl in1_X1 (List.mem_cons_of_mem _ mw_7_18) rfl fd_X1_4 rfl rfl [(shX1, h0, o0_9), (shX3, h1, o1), ((shX2 N2), h2, o2_1)] (by rw [e_8]; rfl) dX1_drawFrom_19 ?_
  refine j_iconst (v := (0 : Int32)) C dX1_drawFrom_22 rfl ?_
  refine j_istore_n C [(3, .int (0 : Int32)), (0, .ref (h0 0)), (1, .ref (h1 0)), (2, .ref (h2 0))] dX1_drawFrom_23 rfl (Nat.le_of_ble_eq_true rfl) rfl rfl ?_
  refine j_sub [(0, .ref (h0 0)), (1, .ref (h1 0)), (2, .ref (h2 0)), (3, .int (0 : Int32))] [1, 2, 3, 0] rfl ?_
  refine lX1_drawFrom_24 C N2 h0 h1 h2 o1 _ Rk (fun o0_22 o2_23 hF => ?_) _ _ _ _ hF
  refine j_aload_n C 0 dX1_drawFrom_53 rfl rfl ?_
  obtain ⟨r_24, k_25, hF⟩ := gb1 hF
  refine j_callVi C (os' := [(shX1, h0, o0_22), (shX3, h1, o1), ((shX2 N2), h2, o2_23)]) [] (kX3_size g h1 o1 k_25) [1] rfl rfl rfl rfl 1 rfl rfl (wl_gV mw_8_4 mw_6_10 mw_6_11 mw_1_14 mw_6_12) rfl 0 rfl hd_X3_size ⟨Nat.le_of_ble_eq_true rfl, Nat.le_of_ble_eq_true rfl⟩ (Nat.le_of_ble_eq_true rfl) rfl dX1_drawFrom_54 ?_
  cases hF
  exact j_iret C Rk dX1_drawFrom_57
/-! HeadsMeet$Draft.isWhole -/
def FX1_isWhole  (o0 : Ob) : Option (Int32) :=
  if (oV o0 4) = (3 : Int32) then
    if (oV o0 3) = 0 then
      some (1 : Int32)
    else
      some (0 : Int32)
  else
    some (0 : Int32)
set_option maxRecDepth 100000 in
set_option maxHeartbeats 4000000 in
theorem kX1_isWhole (g : Gl) (h0 : Nat → Nat)  (o0 : Ob) {r : Int32} (hF : FX1_isWhole o0 = some r) : Ctr g yX1_isWhole (Cond.code yX1_isWhole cX1_isWhole 1 (some .boolean) :: wsL_law) 0 0 [(shX1, h0, o0)] [(shX1, h0, o0)] [.ref (h0 0)] (some (.int r)) := by
  refine Ctr.of (cc := cX1_isWhole) (maxL := 1) (ret := (some .boolean)) (by decide) rfl (Nat.le_of_ble_eq_true rfl) ?_
  intro X C Rk
  replace C : CxOk g X cX1_isWhole RX1 (Cond.code yX1_isWhole cX1_isWhole 1 (some .boolean) :: wsL_law) 1 0 0 := C
  show J g X [(shX1, h0, o0)] 0 [(0, .ref (h0 0))] []
  unfold FX1_isWhole at hF
  refine j_aload_n C 0 dX1_isWhole_0 rfl rfl ?_
  refine j_get (v := .int (oV o0 4)) C 0 4 rfl rfl (Nat.le_of_ble_eq_true rfl) rfl rfl in1_X1 (List.mem_cons_of_mem _ mw_7_18) dX1_isWhole_1 ?_
  refine j_iconst (v := (3 : Int32)) C dX1_isWhole_4 rfl ?_
  refine j_icmp_ne C 19 dX1_isWhole_5 rfl (fun c_2 => ?_) (fun c_2 => ?_)
  · have hF := (if_neg c_2).symm.trans hF
    refine j_iconst (v := (0 : Int32)) C dX1_isWhole_19 rfl ?_
    cases hF
    exact j_zret C rfl Rk dX1_isWhole_20
  · have hF := (if_pos c_2).symm.trans hF
    refine j_aload_n C 0 dX1_isWhole_8 rfl rfl ?_
    refine j_get (v := .int (oV o0 3)) C 0 3 rfl rfl (Nat.le_of_ble_eq_true rfl) rfl rfl in1_X1 (List.mem_cons_of_mem _ mw_7_17) dX1_isWhole_9 ?_
    refine j_if_ne C 19 dX1_isWhole_12 rfl (fun c_1 => ?_) (fun c_1 => ?_)
    · have hF := (if_neg c_1).symm.trans hF
      refine j_iconst (v := (0 : Int32)) C dX1_isWhole_19 rfl ?_
      cases hF
      exact j_zret C rfl Rk dX1_isWhole_20
    · have hF := (if_pos c_1).symm.trans hF
      refine j_iconst (v := (1 : Int32)) C dX1_isWhole_15 rfl ?_
      refine j_goto C 20 dX1_isWhole_16 rfl ?_
      cases hF
      exact j_zret C rfl Rk dX1_isWhole_20
/-! HeadsMeet$Draft.closeWires -/
def LX1_closeWires_2 (N1 : Nat) (o0 : Ob) : Nat → Int32 → Ob → Option (Ob)
  | 0, _, _ => none
  | n + 1, x2, o1 =>
    if (8 : Int32) ≤ x2 then
      some o1
    else
      if inb x2 8 then
      if (oA o0 2 x2.toNatClampNeg) = (2 : Int32) then
        b1 (FX2_fuse N1 x2 ((8 : Int32) + x2) o1) fun o1_2 =>
        lT (x2 + (1 : Int32)) fun x2_4 =>
        LX1_closeWires_2 N1 o0 n x2_4 o1_2
      else
        lT (x2 + (1 : Int32)) fun x2_6 =>
        LX1_closeWires_2 N1 o0 n x2_6 o1
      else none
def FX1_closeWires (N1 : Nat)  (o0 : Ob) (o1 : Ob) : Option (Ob) :=
  LX1_closeWires_2 N1 o0 fu (0 : Int32) o1
set_option maxRecDepth 100000 in
set_option maxHeartbeats 4000000 in
theorem lX1_closeWires_2 {g : Gl} {X : Cxt} (C : CxOk g X cX1_closeWires RX1 (Cond.code yX1_closeWires cX1_closeWires 3 none :: wsL_law) 3 2 44) {o1' : Ob} (N1 : Nat) (h0 : Nat → Nat) (h1 : Nat → Nat) (o0 : Ob)  (Rk : RetOk g X [(shX1, h0, o0), ((shX2 N1), h1, o1')] none none)  : ∀ (n : Nat) (x2 : Int32) (o1 : Ob), LX1_closeWires_2 N1 o0 n x2 o1 = some o1' → J g X [(shX1, h0, o0), ((shX2 N1), h1, o1)] 2 [(0, .ref (h0 0)), (1, .ref (h1 0)), (2, .int x2)] [] := by
  intro n
  induction n with
  | zero =>
    intro x2 o1 hF
    cases hF
  | succ n ih =>
    intro x2 o1 hF
    rw [LX1_closeWires_2.eq_2] at hF
    refine j_iload_n C 2 dX1_closeWires_2 rfl rfl ?_
    refine j_bipush (v := (8 : Int32)) C dX1_closeWires_3 rfl ?_
    refine j_icmp_ge C 33 dX1_closeWires_5 rfl (fun c_9 => ?_) (fun c_9 => ?_)
    · have hF := (if_pos c_9).symm.trans hF
      cases hF
      exact j_vret C Rk dX1_closeWires_33
    · have hF := (if_neg c_9).symm.trans hF
      refine j_aload_n C 0 dX1_closeWires_8 rfl rfl ?_
      refine j_get (v := .ref (h0 3)) C 0 2 rfl rfl (Nat.le_of_ble_eq_true rfl) rfl rfl in1_X1 (List.mem_cons_of_mem _ mw_3_2) dX1_closeWires_9 ?_
      refine j_iload_n C 2 dX1_closeWires_12 rfl rfl ?_
      obtain ⟨z_1, hF⟩ := gi hF
      refine j_iald C 0 2 rfl rfl z_1 dX1_closeWires_13 ?_
      refine j_iconst (v := (2 : Int32)) C dX1_closeWires_14 rfl ?_
      refine j_icmp_ne C 27 dX1_closeWires_15 rfl (fun c_8 => ?_) (fun c_8 => ?_)
      · have hF := (if_neg c_8).symm.trans hF
        obtain ⟨x2_6, e_7, hF⟩ := glT hF
        refine j_iinc C 2 [(2, .int x2_6), (0, .ref (h0 0)), (1, .ref (h1 0))] dX1_closeWires_27 rfl e_7.symm (Nat.le_of_ble_eq_true rfl) rfl ?_
        refine j_goto C 2 dX1_closeWires_30 rfl ?_
        refine j_sub [(0, .ref (h0 0)), (1, .ref (h1 0)), (2, .int x2_6)] [1, 2, 0] rfl ?_
        exact ih _ _ hF
      · have hF := (if_pos c_8).symm.trans hF
        refine j_aload_n C 1 dX1_closeWires_18 rfl rfl ?_
        refine j_iload_n C 2 dX1_closeWires_19 rfl rfl ?_
        refine j_bipush (v := (8 : Int32)) C dX1_closeWires_20 rfl ?_
        refine j_iload_n C 2 dX1_closeWires_22 rfl rfl ?_
        refine j_iadd C dX1_closeWires_23 ?_
        obtain ⟨o1_2, k_3, hF⟩ := gb1 hF
        refine j_callVv C (os' := [(shX1, h0, o0), ((shX2 N1), h1, o1_2)]) [.int x2, .int ((8 : Int32) + x2)] (kX2_fuse g N1 h1 x2 ((8 : Int32) + x2) o1 k_3) [1] rfl rfl rfl rfl 1 rfl rfl (wl_gV mw_17_0 mw_17_1 mw_17_2 mw_1_22 mw_17_3) rfl 2 rfl hd_X2_fuse ⟨Nat.le_of_ble_eq_true rfl, Nat.le_of_ble_eq_true rfl⟩ (Nat.le_of_ble_eq_true rfl) rfl dX1_closeWires_24 ?_
        obtain ⟨x2_4, e_5, hF⟩ := glT hF
        refine j_iinc C 2 [(2, .int x2_4), (0, .ref (h0 0)), (1, .ref (h1 0))] dX1_closeWires_27 rfl e_5.symm (Nat.le_of_ble_eq_true rfl) rfl ?_
        refine j_goto C 2 dX1_closeWires_30 rfl ?_
        refine j_sub [(0, .ref (h0 0)), (1, .ref (h1 0)), (2, .int x2_4)] [1, 2, 0] rfl ?_
        exact ih _ _ hF
set_option maxRecDepth 100000 in
set_option maxHeartbeats 4000000 in
theorem kX1_closeWires (g : Gl) (N1 : Nat) (h0 : Nat → Nat) (h1 : Nat → Nat)  (o0 : Ob) (o1 : Ob) {o1' : Ob} (hF : FX1_closeWires N1 o0 o1 = some o1') : Ctr g yX1_closeWires (Cond.code yX1_closeWires cX1_closeWires 3 none :: wsL_law) 2 44 [(shX1, h0, o0), ((shX2 N1), h1, o1)] [(shX1, h0, o0), ((shX2 N1), h1, o1')] [.ref (h0 0), .ref (h1 0)] none := by
  refine Ctr.of (cc := cX1_closeWires) (maxL := 3) (ret := none) (by decide) rfl (Nat.le_of_ble_eq_true rfl) ?_
  intro X C Rk
  replace C : CxOk g X cX1_closeWires RX1 (Cond.code yX1_closeWires cX1_closeWires 3 none :: wsL_law) 3 2 44 := C
  show J g X [(shX1, h0, o0), ((shX2 N1), h1, o1)] 0 [(0, .ref (h0 0)), (1, .ref (h1 0))] []
  unfold FX1_closeWires at hF
  refine j_iconst (v := (0 : Int32)) C dX1_closeWires_0 rfl ?_
  refine j_istore_n C [(2, .int (0 : Int32)), (0, .ref (h0 0)), (1, .ref (h1 0))] dX1_closeWires_1 rfl (Nat.le_of_ble_eq_true rfl) rfl rfl ?_
  refine j_sub [(0, .ref (h0 0)), (1, .ref (h1 0)), (2, .int (0 : Int32))] [1, 2, 0] rfl ?_
  refine lX1_closeWires_2 C N1 h0 h1 o0 Rk  _ _ _ hF
