/-! HeadsMeet$Signs.write -/
def FX5_write (x1 : Int32) (o0 : Ob) : Option (Ob) :=
  if (556 : Int32) ≤ (oV o0 2) then
    some o0
  else
    if inb (oV o0 2) 556 then
    lT (sA o0 0 (oV o0 2).toNatClampNeg x1) fun o0_3 =>
    lT (sV o0_3 2 ((oV o0_3 2) + (1 : Int32))) fun o0_5 =>
    some o0_5
    else none
set_option maxRecDepth 100000 in
set_option maxHeartbeats 4000000 in
theorem kX5_write (g : Gl) (h0 : Nat → Nat) (x1 : Int32) (o0 : Ob) {o0' : Ob} (hF : FX5_write x1 o0 = some o0') : Ctr g yX5_write (Cond.code yX5_write cX5_write 2 none :: wsL_law) 0 0 [(shX5, h0, o0)] [(shX5, h0, o0')] [.ref (h0 0), .int x1] none := by
  refine Ctr.of (cc := cX5_write) (maxL := 2) (ret := none) (by decide) rfl (Nat.le_of_ble_eq_true rfl) ?_
  intro X C Rk
  replace C : CxOk g X cX5_write RX5 (Cond.code yX5_write cX5_write 2 none :: wsL_law) 2 0 0 := C
  show J g X [(shX5, h0, o0)] 0 [(0, .ref (h0 0)), (1, .int x1)] []
  unfold FX5_write at hF
  refine j_aload_n C 0 dX5_write_0 rfl rfl ?_
  refine j_get (v := .int (oV o0 2)) C 0 2 rfl rfl (Nat.le_of_ble_eq_true rfl) rfl rfl in1_X5 (List.mem_cons_of_mem _ mw_34_17) dX5_write_1 ?_
  refine j_aload_n C 0 dX5_write_4 rfl rfl ?_
  refine j_get (v := .ref (h0 1)) C 0 0 rfl rfl (Nat.le_of_ble_eq_true rfl) rfl rfl in1_X5 (List.mem_cons_of_mem _ mw_4_0) dX5_write_5 ?_
  refine j_alen (v := (556 : Int32)) C 0 0 rfl rfl rfl dX5_write_8 ?_
  refine j_icmp_ge C 32 dX5_write_9 rfl (fun c_6 => ?_) (fun c_6 => ?_)
  · have hF := (if_pos c_6).symm.trans hF
    cases hF
    exact j_vret C Rk dX5_write_32
  · have hF := (if_neg c_6).symm.trans hF
    refine j_aload_n C 0 dX5_write_12 rfl rfl ?_
    refine j_get (v := .ref (h0 1)) C 0 0 rfl rfl (Nat.le_of_ble_eq_true rfl) rfl rfl in1_X5 (List.mem_cons_of_mem _ mw_4_0) dX5_write_13 ?_
    refine j_aload_n C 0 dX5_write_16 rfl rfl ?_
    refine j_get (v := .int (oV o0 2)) C 0 2 rfl rfl (Nat.le_of_ble_eq_true rfl) rfl rfl in1_X5 (List.mem_cons_of_mem _ mw_34_17) dX5_write_17 ?_
    refine j_iload_n C 1 dX5_write_20 rfl rfl ?_
    obtain ⟨z_1, hF⟩ := gi hF
    obtain ⟨o0_3, e_2, hF⟩ := glT hF
    refine j_iast C 0 0 rfl rfl z_1 [(shX5, h0, o0_3)] (by rw [e_2]; rfl) dX5_write_21 ?_
    refine j_aload_n C 0 dX5_write_22 rfl rfl ?_
    refine j_dup C rfl dX5_write_23 ?_
    refine j_get (v := .int (oV o0_3 2)) C 0 2 rfl rfl (Nat.le_of_ble_eq_true rfl) rfl rfl in1_X5 (List.mem_cons_of_mem _ mw_34_17) dX5_write_24 ?_
    refine j_iconst (v := (1 : Int32)) C dX5_write_27 rfl ?_
    refine j_iadd C dX5_write_28 ?_
    obtain ⟨o0_5, e_4, hF⟩ := glT hF
    refine j_putV C tyX5_ok nmX5 0 2 rfl rfl (Nat.le_of_ble_eq_true rfl) rfl in1_X5 (List.mem_cons_of_mem _ mw_34_17) rfl fd_X5_2 rfl rfl [(shX5, h0, o0_5)] (by rw [e_4]; rfl) dX5_write_29 ?_
    cases hF
    exact j_vret C Rk dX5_write_32
/-! HeadsMeet$Signs.nameOf -/
def FX5_nameOf (x1 : Int32) (x2 : Int32) (o0 : Ob) : Option (Int32 × Ob) :=
  if x1 < 0 then
    some ((-1 : Int32), o0)
  else
    if (556 : Int32) ≤ x1 then
      some ((-1 : Int32), o0)
    else
      if x2 < 0 then
        some ((-1 : Int32), o0)
      else
        if x2 < (556 : Int32) then
          if inb x1 556 then
          if (oA o0 1 x1.toNatClampNeg) = (-1 : Int32) then
            lT (sA o0 1 x1.toNatClampNeg (oV o0 3)) fun o0_3 =>
            if inb x2 556 then
            lT (sA o0_3 1 x2.toNatClampNeg (oV o0_3 3)) fun o0_6 =>
            lT (sV o0_6 3 ((oV o0_6 3) + (1 : Int32))) fun o0_8 =>
            some (oA o0_8 1 x1.toNatClampNeg, o0_8)
            else none
          else
            some (oA o0 1 x1.toNatClampNeg, o0)
          else none
        else
          some ((-1 : Int32), o0)
set_option maxRecDepth 100000 in
set_option maxHeartbeats 4000000 in
theorem kX5_nameOf (g : Gl) (h0 : Nat → Nat) (x1 : Int32) (x2 : Int32) (o0 : Ob) {r : Int32} {o0' : Ob} (hF : FX5_nameOf x1 x2 o0 = some (r, o0')) : Ctr g yX5_nameOf (Cond.code yX5_nameOf cX5_nameOf 3 (some .int) :: wsL_law) 0 0 [(shX5, h0, o0)] [(shX5, h0, o0')] [.ref (h0 0), .int x1, .int x2] (some (.int r)) := by
  refine Ctr.of (cc := cX5_nameOf) (maxL := 3) (ret := (some .int)) (by decide) rfl (Nat.le_of_ble_eq_true rfl) ?_
  intro X C Rk
  replace C : CxOk g X cX5_nameOf RX5 (Cond.code yX5_nameOf cX5_nameOf 3 (some .int) :: wsL_law) 3 0 0 := C
  show J g X [(shX5, h0, o0)] 0 [(0, .ref (h0 0)), (1, .int x1), (2, .int x2)] []
  unfold FX5_nameOf at hF
  refine j_iload_n C 1 dX5_nameOf_0 rfl rfl ?_
  refine j_if_lt C 26 dX5_nameOf_1 rfl (fun c_13 => ?_) (fun c_13 => ?_)
  · have hF := (if_pos c_13).symm.trans hF
    refine j_iconst (v := (-1 : Int32)) C dX5_nameOf_26 rfl ?_
    cases hF
    exact j_iret C Rk dX5_nameOf_27
  · have hF := (if_neg c_13).symm.trans hF
    refine j_iload_n C 1 dX5_nameOf_4 rfl rfl ?_
    refine j_aload_n C 0 dX5_nameOf_5 rfl rfl ?_
    refine j_get (v := .ref (h0 2)) C 0 1 rfl rfl (Nat.le_of_ble_eq_true rfl) rfl rfl in1_X5 (List.mem_cons_of_mem _ mw_4_1) dX5_nameOf_6 ?_
    refine j_alen (v := (556 : Int32)) C 0 1 rfl rfl rfl dX5_nameOf_9 ?_
    refine j_icmp_ge C 26 dX5_nameOf_10 rfl (fun c_12 => ?_) (fun c_12 => ?_)
    · have hF := (if_pos c_12).symm.trans hF
      refine j_iconst (v := (-1 : Int32)) C dX5_nameOf_26 rfl ?_
      cases hF
      exact j_iret C Rk dX5_nameOf_27
    · have hF := (if_neg c_12).symm.trans hF
      refine j_iload_n C 2 dX5_nameOf_13 rfl rfl ?_
      refine j_if_lt C 26 dX5_nameOf_14 rfl (fun c_11 => ?_) (fun c_11 => ?_)
      · have hF := (if_pos c_11).symm.trans hF
        refine j_iconst (v := (-1 : Int32)) C dX5_nameOf_26 rfl ?_
        cases hF
        exact j_iret C Rk dX5_nameOf_27
      · have hF := (if_neg c_11).symm.trans hF
        refine j_iload_n C 2 dX5_nameOf_17 rfl rfl ?_
        refine j_aload_n C 0 dX5_nameOf_18 rfl rfl ?_
        refine j_get (v := .ref (h0 2)) C 0 1 rfl rfl (Nat.le_of_ble_eq_true rfl) rfl rfl in1_X5 (List.mem_cons_of_mem _ mw_4_1) dX5_nameOf_19 ?_
        refine j_alen (v := (556 : Int32)) C 0 1 rfl rfl rfl dX5_nameOf_22 ?_
        refine j_icmp_lt C 28 dX5_nameOf_23 rfl (fun c_10 => ?_) (fun c_10 => ?_)
        · have hF := (if_pos c_10).symm.trans hF
          refine j_aload_n C 0 dX5_nameOf_28 rfl rfl ?_
          refine j_get (v := .ref (h0 2)) C 0 1 rfl rfl (Nat.le_of_ble_eq_true rfl) rfl rfl in1_X5 (List.mem_cons_of_mem _ mw_4_1) dX5_nameOf_29 ?_
          refine j_iload_n C 1 dX5_nameOf_32 rfl rfl ?_
          obtain ⟨z_1, hF⟩ := gi hF
          refine j_iald C 0 1 rfl rfl z_1 dX5_nameOf_33 ?_
          refine j_iconst (v := (-1 : Int32)) C dX5_nameOf_34 rfl ?_
          refine j_icmp_ne C 68 dX5_nameOf_35 rfl (fun c_9 => ?_) (fun c_9 => ?_)
          · have hF := (if_neg c_9).symm.trans hF
            refine j_aload_n C 0 dX5_nameOf_68 rfl rfl ?_
            refine j_get (v := .ref (h0 2)) C 0 1 rfl rfl (Nat.le_of_ble_eq_true rfl) rfl rfl in1_X5 (List.mem_cons_of_mem _ mw_4_1) dX5_nameOf_69 ?_
            refine j_iload_n C 1 dX5_nameOf_72 rfl rfl ?_
            refine j_iald C 0 1 rfl rfl z_1 dX5_nameOf_73 ?_
            cases hF
            exact j_iret C Rk dX5_nameOf_74
          · have hF := (if_pos c_9).symm.trans hF
            refine j_aload_n C 0 dX5_nameOf_38 rfl rfl ?_
            refine j_get (v := .ref (h0 2)) C 0 1 rfl rfl (Nat.le_of_ble_eq_true rfl) rfl rfl in1_X5 (List.mem_cons_of_mem _ mw_4_1) dX5_nameOf_39 ?_
            refine j_iload_n C 1 dX5_nameOf_42 rfl rfl ?_
            refine j_aload_n C 0 dX5_nameOf_43 rfl rfl ?_
            refine j_get (v := .int (oV o0 3)) C 0 3 rfl rfl (Nat.le_of_ble_eq_true rfl) rfl rfl in1_X5 (List.mem_cons_of_mem _ mw_34_18) dX5_nameOf_44 ?_
            obtain ⟨o0_3, e_2, hF⟩ := glT hF
            refine j_iast C 0 1 rfl rfl z_1 [(shX5, h0, o0_3)] (by rw [e_2]; rfl) dX5_nameOf_47 ?_
            refine j_aload_n C 0 dX5_nameOf_48 rfl rfl ?_
            refine j_get (v := .ref (h0 2)) C 0 1 rfl rfl (Nat.le_of_ble_eq_true rfl) rfl rfl in1_X5 (List.mem_cons_of_mem _ mw_4_1) dX5_nameOf_49 ?_
            refine j_iload_n C 2 dX5_nameOf_52 rfl rfl ?_
            refine j_aload_n C 0 dX5_nameOf_53 rfl rfl ?_
            refine j_get (v := .int (oV o0_3 3)) C 0 3 rfl rfl (Nat.le_of_ble_eq_true rfl) rfl rfl in1_X5 (List.mem_cons_of_mem _ mw_34_18) dX5_nameOf_54 ?_
            obtain ⟨z_4, hF⟩ := gi hF
            obtain ⟨o0_6, e_5, hF⟩ := glT hF
            refine j_iast C 0 1 rfl rfl z_4 [(shX5, h0, o0_6)] (by rw [e_5]; rfl) dX5_nameOf_57 ?_
            refine j_aload_n C 0 dX5_nameOf_58 rfl rfl ?_
            refine j_dup C rfl dX5_nameOf_59 ?_
            refine j_get (v := .int (oV o0_6 3)) C 0 3 rfl rfl (Nat.le_of_ble_eq_true rfl) rfl rfl in1_X5 (List.mem_cons_of_mem _ mw_34_18) dX5_nameOf_60 ?_
            refine j_iconst (v := (1 : Int32)) C dX5_nameOf_63 rfl ?_
            refine j_iadd C dX5_nameOf_64 ?_
            obtain ⟨o0_8, e_7, hF⟩ := glT hF
            refine j_putV C tyX5_ok nmX5 0 3 rfl rfl (Nat.le_of_ble_eq_true rfl) rfl in1_X5 (List.mem_cons_of_mem _ mw_34_18) rfl fd_X5_3 rfl rfl [(shX5, h0, o0_8)] (by rw [e_7]; rfl) dX5_nameOf_65 ?_
            refine j_aload_n C 0 dX5_nameOf_68 rfl rfl ?_
            refine j_get (v := .ref (h0 2)) C 0 1 rfl rfl (Nat.le_of_ble_eq_true rfl) rfl rfl in1_X5 (List.mem_cons_of_mem _ mw_4_1) dX5_nameOf_69 ?_
            refine j_iload_n C 1 dX5_nameOf_72 rfl rfl ?_
            refine j_iald C 0 1 rfl rfl z_1 dX5_nameOf_73 ?_
            cases hF
            exact j_iret C Rk dX5_nameOf_74
        · have hF := (if_neg c_10).symm.trans hF
          refine j_iconst (v := (-1 : Int32)) C dX5_nameOf_26 rfl ?_
          cases hF
          exact j_iret C Rk dX5_nameOf_27
/-! HeadsMeet$Signs.writeFirst -/
def BX5_writeFirst_26 (N1 : Nat) (x3 : Int32) (o0 : Ob) (o1 : Ob) : Option (Ob) :=
  b1 (FX2_across N1 x3 o1) fun r_4 =>
  b2 (FX5_nameOf x3 r_4 o0) fun r_6 o0_7 =>
  b1 (FX5_write r_6 o0_7) fun o0_9 =>
  some o0_9
def FX5_writeFirst (N1 : Nat) (x2 : Int32) (x3 : Int32) (o0 : Ob) (o1 : Ob) : Option (Ob) :=
  if x2 < 0 then
    BX5_writeFirst_26 N1 x3 o0 o1
  else
    if (4 : Int32) ≤ x2 then
      BX5_writeFirst_26 N1 x3 o0 o1
    else
      if inb x2 4 then
      b1 (FX5_write (chA 0 x2) o0) fun o0_2 =>
      some o0_2
      else none
set_option maxRecDepth 100000 in
set_option maxHeartbeats 4000000 in
theorem bX5_writeFirst_26 {g : Gl} {X : Cxt} (C : CxOk g X cX5_writeFirst RX5 (Cond.code yX5_writeFirst cX5_writeFirst 4 none :: wsL_law) 4 4 85) {o0' : Ob} (N1 : Nat) (h0 : Nat → Nat) (h1 : Nat → Nat) (x3 : Int32) (o0 : Ob) (o1 : Ob)  (Rk : RetOk g X [(shX5, h0, o0'), ((shX2 N1), h1, o1)] none none)  (hF : BX5_writeFirst_26 N1  x3 o0 o1 = some o0') : J g X [(shX5, h0, o0), ((shX2 N1), h1, o1)] 26 [(0, .ref (h0 0)), (1, .ref (h1 0)), (3, .int x3)] [] := by
  unfold BX5_writeFirst_26 at hF
  refine j_aload_n C 0 dX5_writeFirst_26 rfl rfl ?_
  refine j_aload_n C 0 dX5_writeFirst_27 rfl rfl ?_
  refine j_iload_n C 2 dX5_writeFirst_28 rfl rfl ?_
  refine j_aload_n C 1 dX5_writeFirst_29 rfl rfl ?_
  refine j_iload_n C 2 dX5_writeFirst_30 rfl rfl ?_
  obtain ⟨r_4, k_5, hF⟩ := gb1 hF
  refine j_callVi C (os' := [(shX5, h0, o0), ((shX2 N1), h1, o1)]) [.int x3] (kX2_across g N1 h1 x3 o1 k_5) [1] rfl rfl rfl rfl 1 rfl rfl (wl_gV mw_35_1 mw_17_5 mw_17_6 mw_1_22 mw_17_7) rfl 1 rfl hd_X2_across ⟨Nat.le_of_ble_eq_true rfl, Nat.le_of_ble_eq_true rfl⟩ (Nat.le_of_ble_eq_true rfl) rfl dX5_writeFirst_31 ?_
  obtain ⟨r_6, o0_7, k_8, hF⟩ := gb2 hF
  refine j_callVi C (os' := [(shX5, h0, o0_7), ((shX2 N1), h1, o1)]) [.int x3, .int r_4] (kX5_nameOf g h0 x3 r_4 o0 k_8) [0] rfl rfl rfl rfl 0 rfl rfl (wl_gV mw_35_14 mw_35_15 mw_35_16 mw_2_9 mw_35_17) rfl 2 rfl hd_X5_nameOf ⟨Nat.le_of_ble_eq_true rfl, Nat.le_of_ble_eq_true rfl⟩ (Nat.le_of_ble_eq_true rfl) rfl dX5_writeFirst_34 ?_
  obtain ⟨o0_9, k_10, hF⟩ := gb1 hF
  refine j_callVv C (os' := [(shX5, h0, o0_9), ((shX2 N1), h1, o1)]) [.int r_6] (kX5_write g h0 r_6 o0_7 k_10) [0] rfl rfl rfl rfl 0 rfl rfl (wl_gV mw_35_10 mw_35_11 mw_35_12 mw_2_9 mw_35_13) rfl 1 rfl hd_X5_write ⟨Nat.le_of_ble_eq_true rfl, Nat.le_of_ble_eq_true rfl⟩ (Nat.le_of_ble_eq_true rfl) rfl dX5_writeFirst_37 ?_
  cases hF
  exact j_vret C Rk dX5_writeFirst_40
set_option maxRecDepth 100000 in
set_option maxHeartbeats 4000000 in
theorem kX5_writeFirst (g : Gl) (N1 : Nat) (h0 : Nat → Nat) (h1 : Nat → Nat) (x2 : Int32) (x3 : Int32) (o0 : Ob) (o1 : Ob) {o0' : Ob} (hF : FX5_writeFirst N1 x2 x3 o0 o1 = some o0') : Ctr g yX5_writeFirst (Cond.code yX5_writeFirst cX5_writeFirst 4 none :: wsL_law) 4 85 [(shX5, h0, o0), ((shX2 N1), h1, o1)] [(shX5, h0, o0'), ((shX2 N1), h1, o1)] [.ref (h0 0), .ref (h1 0), .int x2, .int x3] none := by
  refine Ctr.of (cc := cX5_writeFirst) (maxL := 4) (ret := none) (by decide) rfl (Nat.le_of_ble_eq_true rfl) ?_
  intro X C Rk
  replace C : CxOk g X cX5_writeFirst RX5 (Cond.code yX5_writeFirst cX5_writeFirst 4 none :: wsL_law) 4 4 85 := C
  show J g X [(shX5, h0, o0), ((shX2 N1), h1, o1)] 0 [(0, .ref (h0 0)), (1, .ref (h1 0)), (2, .int x2), (3, .int x3)] []
  unfold FX5_writeFirst at hF
  refine j_iload_n C 2 dX5_writeFirst_0 rfl rfl ?_
  refine j_if_lt C 26 dX5_writeFirst_1 rfl (fun c_12 => ?_) (fun c_12 => ?_)
  · have hF := (if_pos c_12).symm.trans hF
    refine j_sub [(0, .ref (h0 0)), (1, .ref (h1 0)), (3, .int x3)] [0, 1, 3] rfl ?_
    exact bX5_writeFirst_26 C N1 h0 h1 _ _ _ Rk  hF
  · have hF := (if_neg c_12).symm.trans hF
    refine j_iload_n C 2 dX5_writeFirst_4 rfl rfl ?_
    refine j_ldcS (i := 0) C (fun _ _ h => h.2.2.2.1) dX5_writeFirst_5 ?_
    refine j_callTi C (os' := [(shX5, h0, o0), ((shX2 N1), h1, o1)]) [] (c_length g 0 (by decide)) [] rfl rfl rfl rfl (by decide) (wl_gV mw_35_8 mw_10_6 mw_10_7 mw_9_16 mw_10_8) rfl 0 rfl hd_J0_length_8abf5 ⟨Nat.le_of_ble_eq_true rfl, Nat.le_of_ble_eq_true rfl⟩ (Nat.le_of_ble_eq_true rfl) rfl dX5_writeFirst_7 ?_
    refine j_icmp_ge C 26 dX5_writeFirst_10 rfl (fun c_11 => ?_) (fun c_11 => ?_)
    · have hF := (if_pos c_11).symm.trans hF
      refine j_sub [(0, .ref (h0 0)), (1, .ref (h1 0)), (3, .int x3)] [0, 1, 3] rfl ?_
      exact bX5_writeFirst_26 C N1 h0 h1 _ _ _ Rk  hF
    · have hF := (if_neg c_11).symm.trans hF
      refine j_aload_n C 0 dX5_writeFirst_13 rfl rfl ?_
      refine j_ldcS (i := 0) C (fun _ _ h => h.2.2.2.1) dX5_writeFirst_14 ?_
      refine j_iload_n C 2 dX5_writeFirst_16 rfl rfl ?_
      obtain ⟨z_1, hF⟩ := gi hF
      refine j_callTi C (os' := [(shX5, h0, o0), ((shX2 N1), h1, o1)]) [.int x2] (c_charAt g 0 (by decide) x2 z_1) [] rfl rfl rfl rfl (by decide) (wl_gV mw_35_9 mw_13_22 mw_13_23 mw_9_16 mw_14_0) rfl 1 rfl hd_J0_charAt_5068e ⟨Nat.le_of_ble_eq_true rfl, Nat.le_of_ble_eq_true rfl⟩ (Nat.le_of_ble_eq_true rfl) rfl dX5_writeFirst_17 ?_
      obtain ⟨o0_2, k_3, hF⟩ := gb1 hF
      refine j_callVv C (os' := [(shX5, h0, o0_2), ((shX2 N1), h1, o1)]) [.int (chA 0 x2)] (kX5_write g h0 (chA 0 x2) o0 k_3) [0] rfl rfl rfl rfl 0 rfl rfl (wl_gV mw_35_10 mw_35_11 mw_35_12 mw_2_9 mw_35_13) rfl 1 rfl hd_X5_write ⟨Nat.le_of_ble_eq_true rfl, Nat.le_of_ble_eq_true rfl⟩ (Nat.le_of_ble_eq_true rfl) rfl dX5_writeFirst_20 ?_
      refine j_goto C 40 dX5_writeFirst_23 rfl ?_
      cases hF
      exact j_vret C Rk dX5_writeFirst_40
/-! HeadsMeet$Signs.nextAfter -/
def BX5_nextAfter_62 (N1 : Nat) (E5 : Int32 → Int32 → Ob → Option (Int32 × Ob)) (x4 : Int32) (x5 : Int32) (o0 : Ob) (o1 : Ob) : Option (Int32 × Ob) :=
  b1 (FX2_port x5 (0 : Int32)) fun r_10 =>
  b1 (FX2_across N1 r_10 o1) fun r_12 =>
  lT (x4 + (1 : Int32)) fun x4_14 =>
  E5 r_12 x4_14 o0
def LX5_nextAfter_5 (N1 : Nat) (o1 : Ob) (E79 : Int32 → Ob → Option (Int32 × Ob)) : Nat → Int32 → Int32 → Ob → Option (Int32 × Ob)
  | 0, _, _, _ => none
  | n + 1, x3, x4, o0 =>
    if (2000 : Int32) ≤ x4 then
      E79 x3 o0
    else
      b1 (FX2_sideOf x3) fun r_1 =>
      if r_1 = (2 : Int32) then
        b1 (FX2_ownerOf x3) fun r_3 =>
        b1 (FX2_kindOf N1 r_3 o1) fun r_5 =>
        if r_5 < (1 : Int32) then
          BX5_nextAfter_62 N1 (LX5_nextAfter_5 N1 o1 E79 n) x4 r_3 o0 o1
        else
          if (4 : Int32) ≤ r_5 then
            BX5_nextAfter_62 N1 (LX5_nextAfter_5 N1 o1 E79 n) x4 r_3 o0 o1
          else
            if inb r_5 4 then
            b1 (FX5_write (chA 1 r_5) o0) fun o0_8 =>
            BX5_nextAfter_62 N1 (LX5_nextAfter_5 N1 o1 E79 n) x4 r_3 o0_8 o1
            else none
      else
        E79 x3 o0
def BX5_nextAfter_79 (N1 : Nat) (x3 : Int32) (o0 : Ob) (o1 : Ob) : Option (Int32 × Ob) :=
  b1 (FX2_sideOf x3) fun r_22 =>
  if r_22 = (1 : Int32) then
    b1 (FX2_ownerOf x3) fun r_24 =>
    b1 (FX2_port r_24 (2 : Int32)) fun r_26 =>
    some (r_26, o0)
  else
    some ((-1 : Int32), o0)
def FX5_nextAfter (N1 : Nat) (x2 : Int32) (o0 : Ob) (o1 : Ob) : Option (Int32 × Ob) :=
  LX5_nextAfter_5 N1 o1 (fun x3_20 o0_21 =>
   BX5_nextAfter_79 N1 x3_20 o0_21 o1) fu x2 (0 : Int32) o0
set_option maxRecDepth 100000 in
set_option maxHeartbeats 4000000 in
theorem bX5_nextAfter_62 {g : Gl} {X : Cxt} (C : CxOk g X cX5_nextAfter RX5 (Cond.code yX5_nextAfter cX5_nextAfter 7 (some .int) :: wsL_law) 7 4 85) {r : Int32} {o0' : Ob} (N1 : Nat) (h0 : Nat → Nat) (h1 : Nat → Nat) (x4 : Int32) (x5 : Int32) (o0 : Ob) (o1 : Ob) (E5 : Int32 → Int32 → Ob → Option (Int32 × Ob)) (Rk : RetOk g X [(shX5, h0, o0'), ((shX2 N1), h1, o1)] (some (.int r)) (some .int)) (hE5 : ∀ (x3 : Int32) (x4 : Int32) (o0 : Ob), E5 x3 x4 o0 = some (r, o0') → J g X [(shX5, h0, o0), ((shX2 N1), h1, o1)] 5 [(0, .ref (h0 0)), (1, .ref (h1 0)), (3, .int x3), (4, .int x4)] []) (hF : BX5_nextAfter_62 N1 E5 x4 x5 o0 o1 = some (r, o0')) : J g X [(shX5, h0, o0), ((shX2 N1), h1, o1)] 62 [(0, .ref (h0 0)), (1, .ref (h1 0)), (4, .int x4), (5, .int x5)] [] := by
  unfold BX5_nextAfter_62 at hF
  refine j_aload_n C 1 dX5_nextAfter_62 rfl rfl ?_
  refine j_iload C 3 dX5_nextAfter_63 rfl ?_
  refine j_iconst (v := (0 : Int32)) C dX5_nextAfter_65 rfl ?_
  obtain ⟨r_10, k_11, hF⟩ := gb1 hF
  refine j_callSi C (os' := [(shX5, h0, o0), ((shX2 N1), h1, o1)]) [.int x5, .int (0 : Int32)] (kX2_port g x5 (0 : Int32) k_11) [] rfl rfl rfl rfl (wl_gS mw_35_18 mw_9_7 mw_1_22 mw_9_8) rfl 2 rfl hd_X2_port ⟨Nat.le_of_ble_eq_true rfl, Nat.le_of_ble_eq_true rfl⟩ (Nat.le_of_ble_eq_true rfl) rfl dX5_nextAfter_66 ?_
  obtain ⟨r_12, k_13, hF⟩ := gb1 hF
  refine j_callVi C (os' := [(shX5, h0, o0), ((shX2 N1), h1, o1)]) [.int r_10] (kX2_across g N1 h1 r_10 o1 k_13) [1] rfl rfl rfl rfl 1 rfl rfl (wl_gV mw_35_1 mw_17_5 mw_17_6 mw_1_22 mw_17_7) rfl 1 rfl hd_X2_across ⟨Nat.le_of_ble_eq_true rfl, Nat.le_of_ble_eq_true rfl⟩ (Nat.le_of_ble_eq_true rfl) rfl dX5_nextAfter_69 ?_
  refine j_istore_n C [(3, .int r_12), (0, .ref (h0 0)), (1, .ref (h1 0)), (4, .int x4), (5, .int x5)] dX5_nextAfter_72 rfl (Nat.le_of_ble_eq_true rfl) rfl rfl ?_
  obtain ⟨x4_14, e_15, hF⟩ := glT hF
  refine j_iinc C 3 [(4, .int x4_14), (3, .int r_12), (0, .ref (h0 0)), (1, .ref (h1 0)), (5, .int x5)] dX5_nextAfter_73 rfl e_15.symm (Nat.le_of_ble_eq_true rfl) rfl ?_
  refine j_goto C 5 dX5_nextAfter_76 rfl ?_
  refine j_sub [(0, .ref (h0 0)), (1, .ref (h1 0)), (3, .int r_12), (4, .int x4_14)] [2, 3, 1, 0] rfl ?_
  exact hE5 _ _ _ hF
set_option maxRecDepth 100000 in
set_option maxHeartbeats 4000000 in
theorem lX5_nextAfter_5 {g : Gl} {X : Cxt} (C : CxOk g X cX5_nextAfter RX5 (Cond.code yX5_nextAfter cX5_nextAfter 7 (some .int) :: wsL_law) 7 4 85) {r : Int32} {o0' : Ob} (N1 : Nat) (h0 : Nat → Nat) (h1 : Nat → Nat) (o1 : Ob) (E79 : Int32 → Ob → Option (Int32 × Ob)) (Rk : RetOk g X [(shX5, h0, o0'), ((shX2 N1), h1, o1)] (some (.int r)) (some .int)) (hE79 : ∀ (x3 : Int32) (o0 : Ob), E79 x3 o0 = some (r, o0') → J g X [(shX5, h0, o0), ((shX2 N1), h1, o1)] 79 [(3, .int x3)] []) : ∀ (n : Nat) (x3 : Int32) (x4 : Int32) (o0 : Ob), LX5_nextAfter_5 N1 o1 E79 n x3 x4 o0 = some (r, o0') → J g X [(shX5, h0, o0), ((shX2 N1), h1, o1)] 5 [(0, .ref (h0 0)), (1, .ref (h1 0)), (3, .int x3), (4, .int x4)] [] := by
  intro n
  induction n with
  | zero =>
    intro x3 x4 o0 hF
    cases hF
  | succ n ih =>
    intro x3 x4 o0 hF
    rw [LX5_nextAfter_5.eq_2] at hF
    refine j_iload C 3 dX5_nextAfter_5 rfl ?_
    refine j_sipush (v := (2000 : Int32)) C dX5_nextAfter_7 rfl ?_
    refine j_icmp_ge C 79 dX5_nextAfter_10 rfl (fun c_19 => ?_) (fun c_19 => ?_)
    · have hF := (if_pos c_19).symm.trans hF
      refine j_sub [(3, .int x3)] [2] rfl ?_
      exact hE79 _ _ hF
    · have hF := (if_neg c_19).symm.trans hF
      refine j_iload_n C 2 dX5_nextAfter_13 rfl rfl ?_
      obtain ⟨r_1, k_2, hF⟩ := gb1 hF
      refine j_callSi C (os' := [(shX5, h0, o0), ((shX2 N1), h1, o1)]) [.int x3] (kX2_sideOf g x3 k_2) [] rfl rfl rfl rfl (wl_gS mw_35_23 mw_19_16 mw_1_22 mw_19_17) rfl 1 rfl hd_X2_sideOf ⟨Nat.le_of_ble_eq_true rfl, Nat.le_of_ble_eq_true rfl⟩ (Nat.le_of_ble_eq_true rfl) rfl dX5_nextAfter_14 ?_
      refine j_iconst (v := (2 : Int32)) C dX5_nextAfter_17 rfl ?_
      refine j_icmp_ne C 79 dX5_nextAfter_18 rfl (fun c_18 => ?_) (fun c_18 => ?_)
      · have hF := (if_neg c_18).symm.trans hF
        refine j_sub [(3, .int x3)] [2] rfl ?_
        exact hE79 _ _ hF
      · have hF := (if_pos c_18).symm.trans hF
        refine j_iload_n C 2 dX5_nextAfter_21 rfl rfl ?_
        obtain ⟨r_3, k_4, hF⟩ := gb1 hF
        refine j_callSi C (os' := [(shX5, h0, o0), ((shX2 N1), h1, o1)]) [.int x3] (kX2_ownerOf g x3 k_4) [] rfl rfl rfl rfl (wl_gS mw_36_0 mw_19_19 mw_1_22 mw_19_20) rfl 1 rfl hd_X2_ownerOf ⟨Nat.le_of_ble_eq_true rfl, Nat.le_of_ble_eq_true rfl⟩ (Nat.le_of_ble_eq_true rfl) rfl dX5_nextAfter_22 ?_
        refine j_istore C [(5, .int r_3), (0, .ref (h0 0)), (1, .ref (h1 0)), (3, .int x3), (4, .int x4)] dX5_nextAfter_25 (Nat.le_of_ble_eq_true rfl) rfl rfl ?_
        refine j_aload_n C 2 dX5_nextAfter_27 rfl rfl ?_
        refine j_iload C 0 dX5_nextAfter_28 rfl ?_
        obtain ⟨r_5, k_6, hF⟩ := gb1 hF
        refine j_callVi C (os' := [(shX5, h0, o0), ((shX2 N1), h1, o1)]) [.int r_3] (kX2_kindOf g N1 h1 r_3 o1 k_6) [1] rfl rfl rfl rfl 1 rfl rfl (wl_gV mw_35_3 mw_13_12 mw_13_13 mw_1_22 mw_13_14) rfl 1 rfl hd_X2_kindOf ⟨Nat.le_of_ble_eq_true rfl, Nat.le_of_ble_eq_true rfl⟩ (Nat.le_of_ble_eq_true rfl) rfl dX5_nextAfter_30 ?_
        refine j_istore C [(6, .int r_5), (5, .int r_3), (0, .ref (h0 0)), (1, .ref (h1 0)), (3, .int x3), (4, .int x4)] dX5_nextAfter_33 (Nat.le_of_ble_eq_true rfl) rfl rfl ?_
        refine j_iload C 0 dX5_nextAfter_35 rfl ?_
        refine j_iconst (v := (1 : Int32)) C dX5_nextAfter_37 rfl ?_
        refine j_icmp_lt C 62 dX5_nextAfter_38 rfl (fun c_17 => ?_) (fun c_17 => ?_)
        · have hF := (if_pos c_17).symm.trans hF
          refine j_sub [(0, .ref (h0 0)), (1, .ref (h1 0)), (4, .int x4), (5, .int r_3)] [2, 3, 5, 1] rfl ?_
          exact bX5_nextAfter_62 C N1 h0 h1 _ _ _ _ _ Rk ih hF
        · have hF := (if_neg c_17).symm.trans hF
          refine j_iload C 0 dX5_nextAfter_41 rfl ?_
          refine j_ldcS (i := 1) C (fun _ _ h => h.2.2.2.2.1) dX5_nextAfter_43 ?_
          refine j_callTi C (os' := [(shX5, h0, o0), ((shX2 N1), h1, o1)]) [] (c_length g 1 (by decide)) [] rfl rfl rfl rfl (by decide) (wl_gV mw_35_8 mw_10_6 mw_10_7 mw_9_16 mw_10_8) rfl 0 rfl hd_J0_length_8abf5 ⟨Nat.le_of_ble_eq_true rfl, Nat.le_of_ble_eq_true rfl⟩ (Nat.le_of_ble_eq_true rfl) rfl dX5_nextAfter_45 ?_
          refine j_icmp_ge C 62 dX5_nextAfter_48 rfl (fun c_16 => ?_) (fun c_16 => ?_)
          · have hF := (if_pos c_16).symm.trans hF
            refine j_sub [(0, .ref (h0 0)), (1, .ref (h1 0)), (4, .int x4), (5, .int r_3)] [2, 3, 5, 1] rfl ?_
            exact bX5_nextAfter_62 C N1 h0 h1 _ _ _ _ _ Rk ih hF
          · have hF := (if_neg c_16).symm.trans hF
            refine j_aload_n C 2 dX5_nextAfter_51 rfl rfl ?_
            refine j_ldcS (i := 1) C (fun _ _ h => h.2.2.2.2.1) dX5_nextAfter_52 ?_
            refine j_iload C 0 dX5_nextAfter_54 rfl ?_
            obtain ⟨z_7, hF⟩ := gi hF
            refine j_callTi C (os' := [(shX5, h0, o0), ((shX2 N1), h1, o1)]) [.int r_5] (c_charAt g 1 (by decide) r_5 z_7) [] rfl rfl rfl rfl (by decide) (wl_gV mw_35_9 mw_13_22 mw_13_23 mw_9_16 mw_14_0) rfl 1 rfl hd_J0_charAt_5068e ⟨Nat.le_of_ble_eq_true rfl, Nat.le_of_ble_eq_true rfl⟩ (Nat.le_of_ble_eq_true rfl) rfl dX5_nextAfter_56 ?_
            obtain ⟨o0_8, k_9, hF⟩ := gb1 hF
            refine j_callVv C (os' := [(shX5, h0, o0_8), ((shX2 N1), h1, o1)]) [.int (chA 1 r_5)] (kX5_write g h0 (chA 1 r_5) o0 k_9) [0] rfl rfl rfl rfl 0 rfl rfl (wl_gV mw_35_10 mw_35_11 mw_35_12 mw_2_9 mw_35_13) rfl 1 rfl hd_X5_write ⟨Nat.le_of_ble_eq_true rfl, Nat.le_of_ble_eq_true rfl⟩ (Nat.le_of_ble_eq_true rfl) rfl dX5_nextAfter_59 ?_
            refine j_sub [(0, .ref (h0 0)), (1, .ref (h1 0)), (4, .int x4), (5, .int r_3)] [2, 3, 5, 1] rfl ?_
            exact bX5_nextAfter_62 C N1 h0 h1 _ _ _ _ _ Rk ih hF
set_option maxRecDepth 100000 in
set_option maxHeartbeats 4000000 in
theorem bX5_nextAfter_79 {g : Gl} {X : Cxt} (C : CxOk g X cX5_nextAfter RX5 (Cond.code yX5_nextAfter cX5_nextAfter 7 (some .int) :: wsL_law) 7 4 85) {r : Int32} {o0' : Ob} (N1 : Nat) (h0 : Nat → Nat) (h1 : Nat → Nat) (x3 : Int32) (o0 : Ob) (o1 : Ob)  (Rk : RetOk g X [(shX5, h0, o0'), ((shX2 N1), h1, o1)] (some (.int r)) (some .int))  (hF : BX5_nextAfter_79 N1  x3 o0 o1 = some (r, o0')) : J g X [(shX5, h0, o0), ((shX2 N1), h1, o1)] 79 [(3, .int x3)] [] := by
  unfold BX5_nextAfter_79 at hF
  refine j_iload_n C 0 dX5_nextAfter_79 rfl rfl ?_
  obtain ⟨r_22, k_23, hF⟩ := gb1 hF
  refine j_callSi C (os' := [(shX5, h0, o0), ((shX2 N1), h1, o1)]) [.int x3] (kX2_sideOf g x3 k_23) [] rfl rfl rfl rfl (wl_gS mw_35_23 mw_19_16 mw_1_22 mw_19_17) rfl 1 rfl hd_X2_sideOf ⟨Nat.le_of_ble_eq_true rfl, Nat.le_of_ble_eq_true rfl⟩ (Nat.le_of_ble_eq_true rfl) rfl dX5_nextAfter_80 ?_
  refine j_iconst (v := (1 : Int32)) C dX5_nextAfter_83 rfl ?_
  refine j_icmp_ne C 98 dX5_nextAfter_84 rfl (fun c_28 => ?_) (fun c_28 => ?_)
  · have hF := (if_neg c_28).symm.trans hF
    refine j_iconst (v := (-1 : Int32)) C dX5_nextAfter_98 rfl ?_
    cases hF
    exact j_iret C Rk dX5_nextAfter_99
  · have hF := (if_pos c_28).symm.trans hF
    refine j_iload_n C 0 dX5_nextAfter_87 rfl rfl ?_
    obtain ⟨r_24, k_25, hF⟩ := gb1 hF
    refine j_callSi C (os' := [(shX5, h0, o0), ((shX2 N1), h1, o1)]) [.int x3] (kX2_ownerOf g x3 k_25) [] rfl rfl rfl rfl (wl_gS mw_36_0 mw_19_19 mw_1_22 mw_19_20) rfl 1 rfl hd_X2_ownerOf ⟨Nat.le_of_ble_eq_true rfl, Nat.le_of_ble_eq_true rfl⟩ (Nat.le_of_ble_eq_true rfl) rfl dX5_nextAfter_88 ?_
    refine j_iconst (v := (2 : Int32)) C dX5_nextAfter_91 rfl ?_
    obtain ⟨r_26, k_27, hF⟩ := gb1 hF
    refine j_callSi C (os' := [(shX5, h0, o0), ((shX2 N1), h1, o1)]) [.int r_24, .int (2 : Int32)] (kX2_port g r_24 (2 : Int32) k_27) [] rfl rfl rfl rfl (wl_gS mw_35_18 mw_9_7 mw_1_22 mw_9_8) rfl 2 rfl hd_X2_port ⟨Nat.le_of_ble_eq_true rfl, Nat.le_of_ble_eq_true rfl⟩ (Nat.le_of_ble_eq_true rfl) rfl dX5_nextAfter_92 ?_
    refine j_goto C 99 dX5_nextAfter_95 rfl ?_
    cases hF
    exact j_iret C Rk dX5_nextAfter_99
set_option maxRecDepth 100000 in
set_option maxHeartbeats 4000000 in
theorem kX5_nextAfter (g : Gl) (N1 : Nat) (h0 : Nat → Nat) (h1 : Nat → Nat) (x2 : Int32) (o0 : Ob) (o1 : Ob) {r : Int32} {o0' : Ob} (hF : FX5_nextAfter N1 x2 o0 o1 = some (r, o0')) : Ctr g yX5_nextAfter (Cond.code yX5_nextAfter cX5_nextAfter 7 (some .int) :: wsL_law) 4 85 [(shX5, h0, o0), ((shX2 N1), h1, o1)] [(shX5, h0, o0'), ((shX2 N1), h1, o1)] [.ref (h0 0), .ref (h1 0), .int x2] (some (.int r)) := by
  refine Ctr.of (cc := cX5_nextAfter) (maxL := 7) (ret := (some .int)) (by decide) rfl (Nat.le_of_ble_eq_true rfl) ?_
  intro X C Rk
  replace C : CxOk g X cX5_nextAfter RX5 (Cond.code yX5_nextAfter cX5_nextAfter 7 (some .int) :: wsL_law) 7 4 85 := C
  show J g X [(shX5, h0, o0), ((shX2 N1), h1, o1)] 0 [(0, .ref (h0 0)), (1, .ref (h1 0)), (2, .int x2)] []
  unfold FX5_nextAfter at hF
  refine j_iload_n C 2 dX5_nextAfter_0 rfl rfl ?_
  refine j_istore_n C [(3, .int x2), (0, .ref (h0 0)), (1, .ref (h1 0)), (2, .int x2)] dX5_nextAfter_1 rfl (Nat.le_of_ble_eq_true rfl) rfl rfl ?_
  refine j_iconst (v := (0 : Int32)) C dX5_nextAfter_2 rfl ?_
  refine j_istore C [(4, .int (0 : Int32)), (3, .int x2), (0, .ref (h0 0)), (1, .ref (h1 0)), (2, .int x2)] dX5_nextAfter_3 (Nat.le_of_ble_eq_true rfl) rfl rfl ?_
  refine j_sub [(0, .ref (h0 0)), (1, .ref (h1 0)), (3, .int x2), (4, .int (0 : Int32))] [2, 3, 1, 0] rfl ?_
  refine lX5_nextAfter_5 C N1 h0 h1 o1 _ Rk (fun x3_20 o0_21 hF => ?_) _ _ _ _ hF
  exact bX5_nextAfter_79 C N1 h0 h1 _ _ _ Rk  hF
/-! HeadsMeet$Signs.tellTree -/
def LX5_tellTree_5 (N1 : Nat) (o1 : Ob) : Nat → Int32 → Int32 → Ob → Option (Ob)
  | 0, _, _, _ => none
  | n + 1, x3, x4, o0 =>
    if (2000 : Int32) ≤ x4 then
      some o0
    else
      if x3 = (-1 : Int32) then
        some o0
      else
        b1 (FX2_across N1 x3 o1) fun r_1 =>
        b1 (FX2_headAt N1 r_1 o1) fun r_3 =>
        b1 (FX2_kindOf N1 r_3 o1) fun r_5 =>
        b1 (FX5_writeFirst N1 r_5 x3 o0 o1) fun o0_7 =>
        if r_5 ≤ 0 then
          b2 (FX5_nextAfter N1 x3 o0_7 o1) fun r_13 o0_14 =>
          lT (x4 + (1 : Int32)) fun x4_16 =>
          LX5_tellTree_5 N1 o1 n r_13 x4_16 o0_14
        else
          b1 (FX2_port r_3 (1 : Int32)) fun r_9 =>
          lT (x4 + (1 : Int32)) fun x4_11 =>
          LX5_tellTree_5 N1 o1 n r_9 x4_11 o0_7
def FX5_tellTree (N1 : Nat) (x2 : Int32) (o0 : Ob) (o1 : Ob) : Option (Ob) :=
  LX5_tellTree_5 N1 o1 fu x2 (0 : Int32) o0
set_option maxRecDepth 100000 in
set_option maxHeartbeats 4000000 in
theorem lX5_tellTree_5 {g : Gl} {X : Cxt} (C : CxOk g X cX5_tellTree RX5 (Cond.code yX5_tellTree cX5_tellTree 7 none :: wsL_law) 7 5 111) {o0' : Ob} (N1 : Nat) (h0 : Nat → Nat) (h1 : Nat → Nat) (o1 : Ob)  (Rk : RetOk g X [(shX5, h0, o0'), ((shX2 N1), h1, o1)] none none)  : ∀ (n : Nat) (x3 : Int32) (x4 : Int32) (o0 : Ob), LX5_tellTree_5 N1 o1 n x3 x4 o0 = some o0' → J g X [(shX5, h0, o0), ((shX2 N1), h1, o1)] 5 [(0, .ref (h0 0)), (1, .ref (h1 0)), (3, .int x3), (4, .int x4)] [] := by
  intro n
  induction n with
  | zero =>
    intro x3 x4 o0 hF
    cases hF
  | succ n ih =>
    intro x3 x4 o0 hF
    rw [LX5_tellTree_5.eq_2] at hF
    refine j_iload C 3 dX5_tellTree_5 rfl ?_
    refine j_sipush (v := (2000 : Int32)) C dX5_tellTree_7 rfl ?_
    refine j_icmp_ge C 72 dX5_tellTree_10 rfl (fun c_20 => ?_) (fun c_20 => ?_)
    · have hF := (if_pos c_20).symm.trans hF
      cases hF
      exact j_vret C Rk dX5_tellTree_72
    · have hF := (if_neg c_20).symm.trans hF
      refine j_iload_n C 2 dX5_tellTree_13 rfl rfl ?_
      refine j_iconst (v := (-1 : Int32)) C dX5_tellTree_14 rfl ?_
      refine j_icmp_eq C 72 dX5_tellTree_15 rfl (fun c_19 => ?_) (fun c_19 => ?_)
      · have hF := (if_pos c_19).symm.trans hF
        cases hF
        exact j_vret C Rk dX5_tellTree_72
      · have hF := (if_neg c_19).symm.trans hF
        refine j_aload_n C 1 dX5_tellTree_18 rfl rfl ?_
        refine j_aload_n C 1 dX5_tellTree_19 rfl rfl ?_
        refine j_iload_n C 2 dX5_tellTree_20 rfl rfl ?_
        obtain ⟨r_1, k_2, hF⟩ := gb1 hF
        refine j_callVi C (os' := [(shX5, h0, o0), ((shX2 N1), h1, o1)]) [.int x3] (kX2_across g N1 h1 x3 o1 k_2) [1] rfl rfl rfl rfl 1 rfl rfl (wl_gV mw_35_1 mw_17_5 mw_17_6 mw_1_22 mw_17_7) rfl 1 rfl hd_X2_across ⟨Nat.le_of_ble_eq_true rfl, Nat.le_of_ble_eq_true rfl⟩ (Nat.le_of_ble_eq_true rfl) rfl dX5_tellTree_21 ?_
        obtain ⟨r_3, k_4, hF⟩ := gb1 hF
        refine j_callVi C (os' := [(shX5, h0, o0), ((shX2 N1), h1, o1)]) [.int r_1] (kX2_headAt g N1 h1 r_1 o1 k_4) [1] rfl rfl rfl rfl 1 rfl rfl (wl_gV mw_35_2 mw_19_12 mw_19_13 mw_1_22 mw_19_14) rfl 1 rfl hd_X2_headAt ⟨Nat.le_of_ble_eq_true rfl, Nat.le_of_ble_eq_true rfl⟩ (Nat.le_of_ble_eq_true rfl) rfl dX5_tellTree_24 ?_
        refine j_istore C [(5, .int r_3), (0, .ref (h0 0)), (1, .ref (h1 0)), (3, .int x3), (4, .int x4)] dX5_tellTree_27 (Nat.le_of_ble_eq_true rfl) rfl rfl ?_
        refine j_aload_n C 2 dX5_tellTree_29 rfl rfl ?_
        refine j_iload C 0 dX5_tellTree_30 rfl ?_
        obtain ⟨r_5, k_6, hF⟩ := gb1 hF
        refine j_callVi C (os' := [(shX5, h0, o0), ((shX2 N1), h1, o1)]) [.int r_3] (kX2_kindOf g N1 h1 r_3 o1 k_6) [1] rfl rfl rfl rfl 1 rfl rfl (wl_gV mw_35_3 mw_13_12 mw_13_13 mw_1_22 mw_13_14) rfl 1 rfl hd_X2_kindOf ⟨Nat.le_of_ble_eq_true rfl, Nat.le_of_ble_eq_true rfl⟩ (Nat.le_of_ble_eq_true rfl) rfl dX5_tellTree_32 ?_
        refine j_istore C [(6, .int r_5), (5, .int r_3), (0, .ref (h0 0)), (1, .ref (h1 0)), (3, .int x3), (4, .int x4)] dX5_tellTree_35 (Nat.le_of_ble_eq_true rfl) rfl rfl ?_
        refine j_aload_n C 2 dX5_tellTree_37 rfl rfl ?_
        refine j_aload_n C 3 dX5_tellTree_38 rfl rfl ?_
        refine j_iload C 0 dX5_tellTree_39 rfl ?_
        refine j_iload_n C 4 dX5_tellTree_41 rfl rfl ?_
        obtain ⟨o0_7, k_8, hF⟩ := gb1 hF
        refine j_callVv C (os' := [(shX5, h0, o0_7), ((shX2 N1), h1, o1)]) [.ref (h1 0), .int r_5, .int x3] (kX5_writeFirst g N1 h0 h1 r_5 x3 o0 o1 k_8) [0, 1] rfl rfl rfl rfl 0 rfl rfl (wl_gV mw_35_4 mw_35_5 mw_35_6 mw_2_9 mw_35_7) rfl 3 rfl hd_X5_writeFirst ⟨Nat.le_of_ble_eq_true rfl, Nat.le_of_ble_eq_true rfl⟩ (Nat.le_of_ble_eq_true rfl) rfl dX5_tellTree_42 ?_
        refine j_iload C 0 dX5_tellTree_45 rfl ?_
        refine j_if_le C 59 dX5_tellTree_47 rfl (fun c_18 => ?_) (fun c_18 => ?_)
        · have hF := (if_pos c_18).symm.trans hF
          refine j_aload_n C 2 dX5_tellTree_59 rfl rfl ?_
          refine j_aload_n C 3 dX5_tellTree_60 rfl rfl ?_
          refine j_iload_n C 4 dX5_tellTree_61 rfl rfl ?_
          obtain ⟨r_13, o0_14, k_15, hF⟩ := gb2 hF
          refine j_callVi C (os' := [(shX5, h0, o0_14), ((shX2 N1), h1, o1)]) [.ref (h1 0), .int x3] (kX5_nextAfter g N1 h0 h1 x3 o0_7 o1 k_15) [0, 1] rfl rfl rfl rfl 0 rfl rfl (wl_gV mw_35_19 mw_35_20 mw_35_21 mw_2_9 mw_35_22) rfl 2 rfl hd_X5_nextAfter ⟨Nat.le_of_ble_eq_true rfl, Nat.le_of_ble_eq_true rfl⟩ (Nat.le_of_ble_eq_true rfl) rfl dX5_tellTree_62 ?_
          refine j_istore_n C [(3, .int r_13), (6, .int r_5), (5, .int r_3), (0, .ref (h0 0)), (1, .ref (h1 0)), (4, .int x4)] dX5_tellTree_65 rfl (Nat.le_of_ble_eq_true rfl) rfl rfl ?_
          obtain ⟨x4_16, e_17, hF⟩ := glT hF
          refine j_iinc C 5 [(4, .int x4_16), (3, .int r_13), (6, .int r_5), (5, .int r_3), (0, .ref (h0 0)), (1, .ref (h1 0))] dX5_tellTree_66 rfl e_17.symm (Nat.le_of_ble_eq_true rfl) rfl ?_
          refine j_goto C 5 dX5_tellTree_69 rfl ?_
          refine j_sub [(0, .ref (h0 0)), (1, .ref (h1 0)), (3, .int r_13), (4, .int x4_16)] [4, 5, 1, 0] rfl ?_
          exact ih _ _ _ hF
        · have hF := (if_neg c_18).symm.trans hF
          refine j_iload C 1 dX5_tellTree_50 rfl ?_
          refine j_iconst (v := (1 : Int32)) C dX5_tellTree_52 rfl ?_
          obtain ⟨r_9, k_10, hF⟩ := gb1 hF
          refine j_callSi C (os' := [(shX5, h0, o0_7), ((shX2 N1), h1, o1)]) [.int r_3, .int (1 : Int32)] (kX2_port g r_3 (1 : Int32) k_10) [] rfl rfl rfl rfl (wl_gS mw_35_18 mw_9_7 mw_1_22 mw_9_8) rfl 2 rfl hd_X2_port ⟨Nat.le_of_ble_eq_true rfl, Nat.le_of_ble_eq_true rfl⟩ (Nat.le_of_ble_eq_true rfl) rfl dX5_tellTree_53 ?_
          refine j_goto C 65 dX5_tellTree_56 rfl ?_
          refine j_istore_n C [(3, .int r_9), (6, .int r_5), (5, .int r_3), (0, .ref (h0 0)), (1, .ref (h1 0)), (4, .int x4)] dX5_tellTree_65 rfl (Nat.le_of_ble_eq_true rfl) rfl rfl ?_
          obtain ⟨x4_11, e_12, hF⟩ := glT hF
          refine j_iinc C 5 [(4, .int x4_11), (3, .int r_9), (6, .int r_5), (5, .int r_3), (0, .ref (h0 0)), (1, .ref (h1 0))] dX5_tellTree_66 rfl e_12.symm (Nat.le_of_ble_eq_true rfl) rfl ?_
          refine j_goto C 5 dX5_tellTree_69 rfl ?_
          refine j_sub [(0, .ref (h0 0)), (1, .ref (h1 0)), (3, .int r_9), (4, .int x4_11)] [4, 5, 1, 0] rfl ?_
          exact ih _ _ _ hF
set_option maxRecDepth 100000 in
set_option maxHeartbeats 4000000 in
theorem kX5_tellTree (g : Gl) (N1 : Nat) (h0 : Nat → Nat) (h1 : Nat → Nat) (x2 : Int32) (o0 : Ob) (o1 : Ob) {o0' : Ob} (hF : FX5_tellTree N1 x2 o0 o1 = some o0') : Ctr g yX5_tellTree (Cond.code yX5_tellTree cX5_tellTree 7 none :: wsL_law) 5 111 [(shX5, h0, o0), ((shX2 N1), h1, o1)] [(shX5, h0, o0'), ((shX2 N1), h1, o1)] [.ref (h0 0), .ref (h1 0), .int x2] none := by
  refine Ctr.of (cc := cX5_tellTree) (maxL := 7) (ret := none) (by decide) rfl (Nat.le_of_ble_eq_true rfl) ?_
  intro X C Rk
  replace C : CxOk g X cX5_tellTree RX5 (Cond.code yX5_tellTree cX5_tellTree 7 none :: wsL_law) 7 5 111 := C
  show J g X [(shX5, h0, o0), ((shX2 N1), h1, o1)] 0 [(0, .ref (h0 0)), (1, .ref (h1 0)), (2, .int x2)] []
  unfold FX5_tellTree at hF
  refine j_iload_n C 2 dX5_tellTree_0 rfl rfl ?_
  refine j_istore_n C [(3, .int x2), (0, .ref (h0 0)), (1, .ref (h1 0)), (2, .int x2)] dX5_tellTree_1 rfl (Nat.le_of_ble_eq_true rfl) rfl rfl ?_
  refine j_iconst (v := (0 : Int32)) C dX5_tellTree_2 rfl ?_
  refine j_istore C [(4, .int (0 : Int32)), (3, .int x2), (0, .ref (h0 0)), (1, .ref (h1 0)), (2, .int x2)] dX5_tellTree_3 (Nat.le_of_ble_eq_true rfl) rfl rfl ?_
  refine j_sub [(0, .ref (h0 0)), (1, .ref (h1 0)), (3, .int x2), (4, .int (0 : Int32))] [2, 3, 1, 0] rfl ?_
  refine lX5_tellTree_5 C N1 h0 h1 o1 Rk  _ _ _ _ hF
/-! HeadsMeet$Signs.tellAll -/
def LX5_tellAll_21 (N1 : Nat) (o1 : Ob) : Nat → Int32 → Ob → Option (Ob)
  | 0, _, _ => none
  | n + 1, x2, o0 =>
    if (8 : Int32) ≤ x2 then
      some o0
    else
      b1 (FX2_isOpen N1 x2 o1) fun r_8 =>
      if r_8 = 0 then
        lT (x2 + (1 : Int32)) fun x2_16 =>
        LX5_tellAll_21 N1 o1 n x2_16 o0
      else
        b1 (FX5_tellTree N1 x2 o0 o1) fun o0_10 =>
        b1 (FX5_write (59 : Int32) o0_10) fun o0_12 =>
        lT (x2 + (1 : Int32)) fun x2_14 =>
        LX5_tellAll_21 N1 o1 n x2_14 o0_12
def FX5_tellAll (N1 : Nat)  (o0 : Ob) (o1 : Ob) : Option (Ob) :=
  if 556 < 2147483648 then
  lT (sR o0 1 (fl o0 1 556 (-1 : Int32))) fun o0_3 =>
  lT (sV o0_3 2 (0 : Int32)) fun o0_5 =>
  lT (sV o0_5 3 (97 : Int32)) fun o0_7 =>
  LX5_tellAll_21 N1 o1 fu (0 : Int32) o0_7
  else none
set_option maxRecDepth 100000 in
set_option maxHeartbeats 4000000 in
theorem lX5_tellAll_21 {g : Gl} {X : Cxt} (C : CxOk g X cX5_tellAll RX5 (Cond.code yX5_tellAll cX5_tellAll 3 none :: wsL_law) 3 6 137) {o0' : Ob} (N1 : Nat) (h0 : Nat → Nat) (h1 : Nat → Nat) (o1 : Ob)  (Rk : RetOk g X [(shX5, h0, o0'), ((shX2 N1), h1, o1)] none none)  : ∀ (n : Nat) (x2 : Int32) (o0 : Ob), LX5_tellAll_21 N1 o1 n x2 o0 = some o0' → J g X [(shX5, h0, o0), ((shX2 N1), h1, o1)] 21 [(0, .ref (h0 0)), (1, .ref (h1 0)), (2, .int x2)] [] := by
  intro n
  induction n with
  | zero =>
    intro x2 o0 hF
    cases hF
  | succ n ih =>
    intro x2 o0 hF
    rw [LX5_tellAll_21.eq_2] at hF
    refine j_iload_n C 2 dX5_tellAll_21 rfl rfl ?_
    refine j_bipush (v := (8 : Int32)) C dX5_tellAll_22 rfl ?_
    refine j_icmp_ge C 53 dX5_tellAll_24 rfl (fun c_19 => ?_) (fun c_19 => ?_)
    · have hF := (if_pos c_19).symm.trans hF
      cases hF
      exact j_vret C Rk dX5_tellAll_53
    · have hF := (if_neg c_19).symm.trans hF
      refine j_aload_n C 1 dX5_tellAll_27 rfl rfl ?_
      refine j_iload_n C 2 dX5_tellAll_28 rfl rfl ?_
      obtain ⟨r_8, k_9, hF⟩ := gb1 hF
      refine j_callVi C (os' := [(shX5, h0, o0), ((shX2 N1), h1, o1)]) [.int x2] (kX2_isOpen g N1 h1 x2 o1 k_9) [1] rfl rfl rfl rfl 1 rfl rfl (wl_gV mw_34_20 mw_29_10 mw_29_11 mw_1_22 mw_29_12) rfl 1 rfl hd_X2_isOpen ⟨Nat.le_of_ble_eq_true rfl, Nat.le_of_ble_eq_true rfl⟩ (Nat.le_of_ble_eq_true rfl) rfl dX5_tellAll_29 ?_
      refine j_if_eq C 47 dX5_tellAll_32 rfl (fun c_18 => ?_) (fun c_18 => ?_)
      · have hF := (if_pos c_18).symm.trans hF
        obtain ⟨x2_16, e_17, hF⟩ := glT hF
        refine j_iinc C 2 [(2, .int x2_16), (0, .ref (h0 0)), (1, .ref (h1 0))] dX5_tellAll_47 rfl e_17.symm (Nat.le_of_ble_eq_true rfl) rfl ?_
        refine j_goto C 21 dX5_tellAll_50 rfl ?_
        refine j_sub [(0, .ref (h0 0)), (1, .ref (h1 0)), (2, .int x2_16)] [1, 2, 0] rfl ?_
        exact ih _ _ hF
      · have hF := (if_neg c_18).symm.trans hF
        refine j_aload_n C 0 dX5_tellAll_35 rfl rfl ?_
        refine j_aload_n C 1 dX5_tellAll_36 rfl rfl ?_
        refine j_iload_n C 2 dX5_tellAll_37 rfl rfl ?_
        obtain ⟨o0_10, k_11, hF⟩ := gb1 hF
        refine j_callVv C (os' := [(shX5, h0, o0_10), ((shX2 N1), h1, o1)]) [.ref (h1 0), .int x2] (kX5_tellTree g N1 h0 h1 x2 o0 o1 k_11) [0, 1] rfl rfl rfl rfl 0 rfl rfl (wl_gV mw_34_21 mw_34_22 mw_34_23 mw_2_9 mw_35_0) rfl 2 rfl hd_X5_tellTree ⟨Nat.le_of_ble_eq_true rfl, Nat.le_of_ble_eq_true rfl⟩ (Nat.le_of_ble_eq_true rfl) rfl dX5_tellAll_38 ?_
        refine j_aload_n C 0 dX5_tellAll_41 rfl rfl ?_
        refine j_bipush (v := (59 : Int32)) C dX5_tellAll_42 rfl ?_
        obtain ⟨o0_12, k_13, hF⟩ := gb1 hF
        refine j_callVv C (os' := [(shX5, h0, o0_12), ((shX2 N1), h1, o1)]) [.int (59 : Int32)] (kX5_write g h0 (59 : Int32) o0_10 k_13) [0] rfl rfl rfl rfl 0 rfl rfl (wl_gV mw_35_10 mw_35_11 mw_35_12 mw_2_9 mw_35_13) rfl 1 rfl hd_X5_write ⟨Nat.le_of_ble_eq_true rfl, Nat.le_of_ble_eq_true rfl⟩ (Nat.le_of_ble_eq_true rfl) rfl dX5_tellAll_44 ?_
        obtain ⟨x2_14, e_15, hF⟩ := glT hF
        refine j_iinc C 2 [(2, .int x2_14), (0, .ref (h0 0)), (1, .ref (h1 0))] dX5_tellAll_47 rfl e_15.symm (Nat.le_of_ble_eq_true rfl) rfl ?_
        refine j_goto C 21 dX5_tellAll_50 rfl ?_
        refine j_sub [(0, .ref (h0 0)), (1, .ref (h1 0)), (2, .int x2_14)] [1, 2, 0] rfl ?_
        exact ih _ _ hF
set_option maxRecDepth 100000 in
set_option maxHeartbeats 4000000 in
theorem kX5_tellAll (g : Gl) (N1 : Nat) (h0 : Nat → Nat) (h1 : Nat → Nat)  (o0 : Ob) (o1 : Ob) {o0' : Ob} (hF : FX5_tellAll N1 o0 o1 = some o0') : Ctr g yX5_tellAll (Cond.code yX5_tellAll cX5_tellAll 3 none :: wsL_law) 6 137 [(shX5, h0, o0), ((shX2 N1), h1, o1)] [(shX5, h0, o0'), ((shX2 N1), h1, o1)] [.ref (h0 0), .ref (h1 0)] none := by
  refine Ctr.of (cc := cX5_tellAll) (maxL := 3) (ret := none) (by decide) rfl (Nat.le_of_ble_eq_true rfl) ?_
  intro X C Rk
  replace C : CxOk g X cX5_tellAll RX5 (Cond.code yX5_tellAll cX5_tellAll 3 none :: wsL_law) 3 6 137 := C
  show J g X [(shX5, h0, o0), ((shX2 N1), h1, o1)] 0 [(0, .ref (h0 0)), (1, .ref (h1 0))] []
  unfold FX5_tellAll at hF
  refine j_aload_n C 0 dX5_tellAll_0 rfl rfl ?_
  refine j_get (v := .ref (h0 2)) C 0 1 rfl rfl (Nat.le_of_ble_eq_true rfl) rfl rfl in1_X5 (List.mem_cons_of_mem _ mw_4_1) dX5_tellAll_1 ?_
  refine j_iconst (v := (-1 : Int32)) C dX5_tellAll_4 rfl ?_
  obtain ⟨z_1, hF⟩ := gi hF
  obtain ⟨o0_3, e_2, hF⟩ := glT hF
  refine j_callSv C (oc := [(shX5, h0, o0)]) (os' := [(shX5, h0, o0_3), ((shX2 N1), h1, o1)]) [.ref (h0 2), .int (-1 : Int32)] (c_fill g shX5 h0 o0 1 556 rfl z_1 (-1 : Int32)) [0] rfl rfl rfl (by rw [e_2]; rfl) (wl_gS mw_34_19 mw_3_12 mw_3_13 mw_3_14) rfl 2 rfl hd_fill ⟨Nat.le_of_ble_eq_true rfl, Nat.le_of_ble_eq_true rfl⟩ (Nat.le_of_ble_eq_true rfl) rfl dX5_tellAll_5 ?_
  refine j_aload_n C 0 dX5_tellAll_8 rfl rfl ?_
  refine j_iconst (v := (0 : Int32)) C dX5_tellAll_9 rfl ?_
  obtain ⟨o0_5, e_4, hF⟩ := glT hF
  refine j_putV C tyX5_ok nmX5 0 2 rfl rfl (Nat.le_of_ble_eq_true rfl) rfl in1_X5 (List.mem_cons_of_mem _ mw_34_17) rfl fd_X5_2 rfl rfl [(shX5, h0, o0_5), ((shX2 N1), h1, o1)] (by rw [e_4]; rfl) dX5_tellAll_10 ?_
  refine j_aload_n C 0 dX5_tellAll_13 rfl rfl ?_
  refine j_bipush (v := (97 : Int32)) C dX5_tellAll_14 rfl ?_
  obtain ⟨o0_7, e_6, hF⟩ := glT hF
  refine j_putV C tyX5_ok nmX5 0 3 rfl rfl (Nat.le_of_ble_eq_true rfl) rfl in1_X5 (List.mem_cons_of_mem _ mw_34_18) rfl fd_X5_3 rfl rfl [(shX5, h0, o0_7), ((shX2 N1), h1, o1)] (by rw [e_6]; rfl) dX5_tellAll_16 ?_
  refine j_iconst (v := (0 : Int32)) C dX5_tellAll_19 rfl ?_
  refine j_istore_n C [(2, .int (0 : Int32)), (0, .ref (h0 0)), (1, .ref (h1 0))] dX5_tellAll_20 rfl (Nat.le_of_ble_eq_true rfl) rfl rfl ?_
  refine j_sub [(0, .ref (h0 0)), (1, .ref (h1 0)), (2, .int (0 : Int32))] [1, 2, 0] rfl ?_
  refine lX5_tellAll_21 C N1 h0 h1 o1 Rk  _ _ _ hF
/-! HeadsMeet$Signs.at -/
def FX5_at (x1 : Int32) (o0 : Ob) : Option (Int32) :=
  if x1 < 0 then
    some (-1 : Int32)
  else
    if (oV o0 2) ≤ x1 then
      some (-1 : Int32)
    else
      if (556 : Int32) ≤ x1 then
        some (-1 : Int32)
      else
        if inb x1 556 then
        some (oA o0 0 x1.toNatClampNeg)
        else none
set_option maxRecDepth 100000 in
set_option maxHeartbeats 4000000 in
theorem kX5_at (g : Gl) (h0 : Nat → Nat) (x1 : Int32) (o0 : Ob) {r : Int32} (hF : FX5_at x1 o0 = some r) : Ctr g yX5_at (Cond.code yX5_at cX5_at 2 (some .int) :: wsL_law) 0 0 [(shX5, h0, o0)] [(shX5, h0, o0)] [.ref (h0 0), .int x1] (some (.int r)) := by
  refine Ctr.of (cc := cX5_at) (maxL := 2) (ret := (some .int)) (by decide) rfl (Nat.le_of_ble_eq_true rfl) ?_
  intro X C Rk
  replace C : CxOk g X cX5_at RX5 (Cond.code yX5_at cX5_at 2 (some .int) :: wsL_law) 2 0 0 := C
  show J g X [(shX5, h0, o0)] 0 [(0, .ref (h0 0)), (1, .int x1)] []
  unfold FX5_at at hF
  refine j_iload_n C 1 dX5_at_0 rfl rfl ?_
  refine j_if_lt C 30 dX5_at_1 rfl (fun c_4 => ?_) (fun c_4 => ?_)
  · have hF := (if_pos c_4).symm.trans hF
    refine j_iconst (v := (-1 : Int32)) C dX5_at_30 rfl ?_
    cases hF
    exact j_iret C Rk dX5_at_31
  · have hF := (if_neg c_4).symm.trans hF
    refine j_iload_n C 1 dX5_at_4 rfl rfl ?_
    refine j_aload_n C 0 dX5_at_5 rfl rfl ?_
    refine j_get (v := .int (oV o0 2)) C 0 2 rfl rfl (Nat.le_of_ble_eq_true rfl) rfl rfl in1_X5 (List.mem_cons_of_mem _ mw_34_17) dX5_at_6 ?_
    refine j_icmp_ge C 30 dX5_at_9 rfl (fun c_3 => ?_) (fun c_3 => ?_)
    · have hF := (if_pos c_3).symm.trans hF
      refine j_iconst (v := (-1 : Int32)) C dX5_at_30 rfl ?_
      cases hF
      exact j_iret C Rk dX5_at_31
    · have hF := (if_neg c_3).symm.trans hF
      refine j_iload_n C 1 dX5_at_12 rfl rfl ?_
      refine j_aload_n C 0 dX5_at_13 rfl rfl ?_
      refine j_get (v := .ref (h0 1)) C 0 0 rfl rfl (Nat.le_of_ble_eq_true rfl) rfl rfl in1_X5 (List.mem_cons_of_mem _ mw_4_0) dX5_at_14 ?_
      refine j_alen (v := (556 : Int32)) C 0 0 rfl rfl rfl dX5_at_17 ?_
      refine j_icmp_ge C 30 dX5_at_18 rfl (fun c_2 => ?_) (fun c_2 => ?_)
      · have hF := (if_pos c_2).symm.trans hF
        refine j_iconst (v := (-1 : Int32)) C dX5_at_30 rfl ?_
        cases hF
        exact j_iret C Rk dX5_at_31
      · have hF := (if_neg c_2).symm.trans hF
        refine j_aload_n C 0 dX5_at_21 rfl rfl ?_
        refine j_get (v := .ref (h0 1)) C 0 0 rfl rfl (Nat.le_of_ble_eq_true rfl) rfl rfl in1_X5 (List.mem_cons_of_mem _ mw_4_0) dX5_at_22 ?_
        refine j_iload_n C 1 dX5_at_25 rfl rfl ?_
        obtain ⟨z_1, hF⟩ := gi hF
        refine j_iald C 0 0 rfl rfl z_1 dX5_at_26 ?_
        refine j_goto C 31 dX5_at_27 rfl ?_
        cases hF
        exact j_iret C Rk dX5_at_31
/-! HeadsMeet$Signs.areLike -/
def LX5_areLike_15 (o0 : Ob) (o1 : Ob) : Nat → Int32 → Option (Int32)
  | 0, _ => none
  | n + 1, x2 =>
    if (oV o0 2) ≤ x2 then
      some (1 : Int32)
    else
      b1 (FX5_at x2 o0) fun r_1 =>
      b1 (FX5_at x2 o1) fun r_3 =>
      if r_1 = r_3 then
        lT (x2 + (1 : Int32)) fun x2_5 =>
        LX5_areLike_15 o0 o1 n x2_5
      else
        some (0 : Int32)
def FX5_areLike  (o0 : Ob) (o1 : Ob) : Option (Int32) :=
  if (oV o0 2) = (oV o1 2) then
    LX5_areLike_15 o0 o1 fu (0 : Int32)
  else
    some (0 : Int32)
set_option maxRecDepth 100000 in
set_option maxHeartbeats 4000000 in
theorem lX5_areLike_15 {g : Gl} {X : Cxt} (C : CxOk g X cX5_areLike RX5 (Cond.code yX5_areLike cX5_areLike 3 (some .boolean) :: wsL_law) 3 1 21) {r : Int32} (h0 : Nat → Nat) (h1 : Nat → Nat) (o0 : Ob) (o1 : Ob)  (Rk : RetOk g X [(shX5, h0, o0), (shX5, h1, o1)] (some (.int r)) (some .boolean))  : ∀ (n : Nat) (x2 : Int32), LX5_areLike_15 o0 o1 n x2 = some r → J g X [(shX5, h0, o0), (shX5, h1, o1)] 15 [(0, .ref (h0 0)), (1, .ref (h1 0)), (2, .int x2)] [] := by
  intro n
  induction n with
  | zero =>
    intro x2 hF
    cases hF
  | succ n ih =>
    intro x2 hF
    rw [LX5_areLike_15.eq_2] at hF
    refine j_iload_n C 2 dX5_areLike_15 rfl rfl ?_
    refine j_aload_n C 0 dX5_areLike_16 rfl rfl ?_
    refine j_get (v := .int (oV o0 2)) C 0 2 rfl rfl (Nat.le_of_ble_eq_true rfl) rfl rfl in1_X5 (List.mem_cons_of_mem _ mw_34_17) dX5_areLike_17 ?_
    refine j_icmp_ge C 44 dX5_areLike_20 rfl (fun c_8 => ?_) (fun c_8 => ?_)
    · have hF := (if_pos c_8).symm.trans hF
      refine j_iconst (v := (1 : Int32)) C dX5_areLike_44 rfl ?_
      cases hF
      exact j_zret C rfl Rk dX5_areLike_45
    · have hF := (if_neg c_8).symm.trans hF
      refine j_aload_n C 0 dX5_areLike_23 rfl rfl ?_
      refine j_iload_n C 2 dX5_areLike_24 rfl rfl ?_
      obtain ⟨r_1, k_2, hF⟩ := gb1 hF
      refine j_callVi C (os' := [(shX5, h0, o0), (shX5, h1, o1)]) [.int x2] (kX5_at g h0 x2 o0 k_2) [0] rfl rfl rfl rfl 0 rfl rfl (wl_gV mw_38_1 mw_36_2 mw_36_3 mw_2_9 mw_36_4) rfl 1 rfl hd_X5_at ⟨Nat.le_of_ble_eq_true rfl, Nat.le_of_ble_eq_true rfl⟩ (Nat.le_of_ble_eq_true rfl) rfl dX5_areLike_25 ?_
      refine j_aload_n C 1 dX5_areLike_28 rfl rfl ?_
      refine j_iload_n C 2 dX5_areLike_29 rfl rfl ?_
      obtain ⟨r_3, k_4, hF⟩ := gb1 hF
      refine j_callVi C (os' := [(shX5, h0, o0), (shX5, h1, o1)]) [.int x2] (kX5_at g h1 x2 o1 k_4) [1] rfl rfl rfl rfl 1 rfl rfl (wl_gV mw_38_1 mw_36_2 mw_36_3 mw_2_9 mw_36_4) rfl 1 rfl hd_X5_at ⟨Nat.le_of_ble_eq_true rfl, Nat.le_of_ble_eq_true rfl⟩ (Nat.le_of_ble_eq_true rfl) rfl dX5_areLike_30 ?_
      refine j_icmp_eq C 38 dX5_areLike_33 rfl (fun c_7 => ?_) (fun c_7 => ?_)
      · have hF := (if_pos c_7).symm.trans hF
        obtain ⟨x2_5, e_6, hF⟩ := glT hF
        refine j_iinc C 2 [(2, .int x2_5), (0, .ref (h0 0)), (1, .ref (h1 0))] dX5_areLike_38 rfl e_6.symm (Nat.le_of_ble_eq_true rfl) rfl ?_
        refine j_goto C 15 dX5_areLike_41 rfl ?_
        refine j_sub [(0, .ref (h0 0)), (1, .ref (h1 0)), (2, .int x2_5)] [1, 2, 0] rfl ?_
        exact ih _ hF
      · have hF := (if_neg c_7).symm.trans hF
        refine j_iconst (v := (0 : Int32)) C dX5_areLike_36 rfl ?_
        cases hF
        exact j_zret C rfl Rk dX5_areLike_37
set_option maxRecDepth 100000 in
set_option maxHeartbeats 4000000 in
theorem kX5_areLike (g : Gl) (h0 : Nat → Nat) (h1 : Nat → Nat)  (o0 : Ob) (o1 : Ob) {r : Int32} (hF : FX5_areLike o0 o1 = some r) : Ctr g yX5_areLike (Cond.code yX5_areLike cX5_areLike 3 (some .boolean) :: wsL_law) 1 21 [(shX5, h0, o0), (shX5, h1, o1)] [(shX5, h0, o0), (shX5, h1, o1)] [.ref (h0 0), .ref (h1 0)] (some (.int r)) := by
  refine Ctr.of (cc := cX5_areLike) (maxL := 3) (ret := (some .boolean)) (by decide) rfl (Nat.le_of_ble_eq_true rfl) ?_
  intro X C Rk
  replace C : CxOk g X cX5_areLike RX5 (Cond.code yX5_areLike cX5_areLike 3 (some .boolean) :: wsL_law) 3 1 21 := C
  show J g X [(shX5, h0, o0), (shX5, h1, o1)] 0 [(0, .ref (h0 0)), (1, .ref (h1 0))] []
  unfold FX5_areLike at hF
  refine j_aload_n C 0 dX5_areLike_0 rfl rfl ?_
  refine j_get (v := .int (oV o0 2)) C 0 2 rfl rfl (Nat.le_of_ble_eq_true rfl) rfl rfl in1_X5 (List.mem_cons_of_mem _ mw_34_17) dX5_areLike_1 ?_
  refine j_aload_n C 1 dX5_areLike_4 rfl rfl ?_
  refine j_get (v := .int (oV o1 2)) C 1 2 rfl rfl (Nat.le_of_ble_eq_true rfl) rfl rfl in1_X5 (List.mem_cons_of_mem _ mw_34_17) dX5_areLike_5 ?_
  refine j_icmp_eq C 13 dX5_areLike_8 rfl (fun c_9 => ?_) (fun c_9 => ?_)
  · have hF := (if_pos c_9).symm.trans hF
    refine j_iconst (v := (0 : Int32)) C dX5_areLike_13 rfl ?_
    refine j_istore_n C [(2, .int (0 : Int32)), (0, .ref (h0 0)), (1, .ref (h1 0))] dX5_areLike_14 rfl (Nat.le_of_ble_eq_true rfl) rfl rfl ?_
    refine j_sub [(0, .ref (h0 0)), (1, .ref (h1 0)), (2, .int (0 : Int32))] [1, 2, 0] rfl ?_
    refine lX5_areLike_15 C h0 h1 o0 o1 Rk  _ _ hF
  · have hF := (if_neg c_9).symm.trans hF
    refine j_iconst (v := (0 : Int32)) C dX5_areLike_11 rfl ?_
    cases hF
    exact j_zret C rfl Rk dX5_areLike_12
/-! HeadsMeet$Signs.hashedInto -/
def LX5_hashedInto_5 (o0 : Ob) : Nat → Int64 → Int32 → Option (Int64)
  | 0, _, _ => none
  | n + 1, x3, x5 =>
    if (oV o0 2) ≤ x5 then
      some x3
    else
      b1 (FX5_at x5 o0) fun r_1 =>
      lT (((31 : Int64) * x3) + r_1.toInt64) fun x3_3 =>
      lT (x5 + (1 : Int32)) fun x5_5 =>
      LX5_hashedInto_5 o0 n x3_3 x5_5
def FX5_hashedInto (x1 : Int64) (o0 : Ob) : Option (Int64) :=
  LX5_hashedInto_5 o0 fu x1 (0 : Int32)
set_option maxRecDepth 100000 in
set_option maxHeartbeats 4000000 in
theorem lX5_hashedInto_5 {g : Gl} {X : Cxt} (C : CxOk g X cX5_hashedInto RX5 (Cond.code yX5_hashedInto cX5_hashedInto 6 (some .long) :: wsL_law) 6 1 21) {r : Int64} (h0 : Nat → Nat) (o0 : Ob)  (Rk : RetOk g X [(shX5, h0, o0)] (some (.long r)) (some .long))  : ∀ (n : Nat) (x3 : Int64) (x5 : Int32), LX5_hashedInto_5 o0 n x3 x5 = some r → J g X [(shX5, h0, o0)] 5 [(0, .ref (h0 0)), (3, .long x3), (5, .int x5)] [] := by
  intro n
  induction n with
  | zero =>
    intro x3 x5 hF
    cases hF
  | succ n ih =>
    intro x3 x5 hF
    rw [LX5_hashedInto_5.eq_2] at hF
    refine j_iload C 2 dX5_hashedInto_5 rfl ?_
    refine j_aload_n C 0 dX5_hashedInto_7 rfl rfl ?_
    refine j_get (v := .int (oV o0 2)) C 0 2 rfl rfl (Nat.le_of_ble_eq_true rfl) rfl rfl in1_X5 (List.mem_cons_of_mem _ mw_34_17) dX5_hashedInto_8 ?_
    refine j_icmp_ge C 34 dX5_hashedInto_11 rfl (fun c_7 => ?_) (fun c_7 => ?_)
    · have hF := (if_pos c_7).symm.trans hF
      refine j_lload_n C 1 dX5_hashedInto_34 rfl rfl ?_
      cases hF
      exact j_lret C Rk dX5_hashedInto_35
    · have hF := (if_neg c_7).symm.trans hF
      refine j_ldc2 (v := (31 : Int64)) C (List.mem_cons_of_mem _ mw_43_13) dX5_hashedInto_14 ?_
      refine j_lload_n C 1 dX5_hashedInto_17 rfl rfl ?_
      refine j_lmul C dX5_hashedInto_18 ?_
      refine j_aload_n C 0 dX5_hashedInto_19 rfl rfl ?_
      refine j_iload C 2 dX5_hashedInto_20 rfl ?_
      obtain ⟨r_1, k_2, hF⟩ := gb1 hF
      refine j_callVi C (os' := [(shX5, h0, o0)]) [.int x5] (kX5_at g h0 x5 o0 k_2) [0] rfl rfl rfl rfl 0 rfl rfl (wl_gV mw_38_1 mw_36_2 mw_36_3 mw_2_9 mw_36_4) rfl 1 rfl hd_X5_at ⟨Nat.le_of_ble_eq_true rfl, Nat.le_of_ble_eq_true rfl⟩ (Nat.le_of_ble_eq_true rfl) rfl dX5_hashedInto_22 ?_
      refine j_i2l C dX5_hashedInto_25 ?_
      refine j_ladd C dX5_hashedInto_26 ?_
      obtain ⟨x3_3, e_4, hF⟩ := glT hF
      refine j_lstore_n C [(3, .long x3_3), (0, .ref (h0 0)), (5, .int x5)] dX5_hashedInto_27 rfl (Nat.le_of_ble_eq_true rfl) e_4 rfl ?_
      obtain ⟨x5_5, e_6, hF⟩ := glT hF
      refine j_iinc C 2 [(5, .int x5_5), (3, .long x3_3), (0, .ref (h0 0))] dX5_hashedInto_28 rfl e_6.symm (Nat.le_of_ble_eq_true rfl) rfl ?_
      refine j_goto C 5 dX5_hashedInto_31 rfl ?_
      refine j_sub [(0, .ref (h0 0)), (3, .long x3_3), (5, .int x5_5)] [2, 1, 0] rfl ?_
      exact ih _ _ hF
set_option maxRecDepth 100000 in
set_option maxHeartbeats 4000000 in
theorem kX5_hashedInto (g : Gl) (h0 : Nat → Nat) (x1 : Int64) (o0 : Ob) {r : Int64} (hF : FX5_hashedInto x1 o0 = some r) : Ctr g yX5_hashedInto (Cond.code yX5_hashedInto cX5_hashedInto 6 (some .long) :: wsL_law) 1 21 [(shX5, h0, o0)] [(shX5, h0, o0)] [.ref (h0 0), .long x1] (some (.long r)) := by
  refine Ctr.of (cc := cX5_hashedInto) (maxL := 6) (ret := (some .long)) (by decide) rfl (Nat.le_of_ble_eq_true rfl) ?_
  intro X C Rk
  replace C : CxOk g X cX5_hashedInto RX5 (Cond.code yX5_hashedInto cX5_hashedInto 6 (some .long) :: wsL_law) 6 1 21 := C
  show J g X [(shX5, h0, o0)] 0 [(0, .ref (h0 0)), (1, .long x1)] []
  unfold FX5_hashedInto at hF
  refine j_lload_n C 1 dX5_hashedInto_0 rfl rfl ?_
  refine j_lstore_n C [(3, .long x1), (0, .ref (h0 0)), (1, .long x1)] dX5_hashedInto_1 rfl (Nat.le_of_ble_eq_true rfl) rfl rfl ?_
  refine j_iconst (v := (0 : Int32)) C dX5_hashedInto_2 rfl ?_
  refine j_istore C [(5, .int (0 : Int32)), (3, .long x1), (0, .ref (h0 0)), (1, .long x1)] dX5_hashedInto_3 (Nat.le_of_ble_eq_true rfl) rfl rfl ?_
  refine j_sub [(0, .ref (h0 0)), (3, .long x1), (5, .int (0 : Int32))] [2, 1, 0] rfl ?_
  refine lX5_hashedInto_5 C h0 o0 Rk  _ _ _ hF
