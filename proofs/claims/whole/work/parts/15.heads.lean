/-! HeadsMeet.letter -/
def FX6_letter (x1 : Int32) (M : (Nat → Ob)) : Option (Int32 × (Nat → Ob)) :=
  if x1 < (32 : Int32) then
    some ((-102 : Int32), M)
  else
    if x1 ≤ (126 : Int32) then
      b2 (FX3_add x1 (M 1)) fun r_1 s_2 =>
      lT (sM M 1 s_2) fun M_4 =>
      if r_1 = 0 then
        some ((-104 : Int32), M_4)
      else
        b1 (FX3_size (M_4 1)) fun r_6 =>
        some (r_6, M_4)
    else
      some ((-102 : Int32), M)
set_option maxRecDepth 100000 in
set_option maxHeartbeats 4000000 in
theorem kX6_letter (g : Gl) (h : Nat → Nat → Nat) (x1 : Int32) (M : (Nat → Ob)) {r : Int32} {M' : (Nat → Ob)} (hF : FX6_letter x1 M = some (r, M')) : Ctr g yX6_letter (Cond.code yX6_letter cX6_letter 2 (some .int) :: wsL_law) 1 21 (osX6 h M) (osX6 h M') [.ref (h 0 0), .int x1] (some (.int r)) := by
  refine Ctr.of (cc := cX6_letter) (maxL := 2) (ret := (some .int)) (by decide) rfl (Nat.le_of_ble_eq_true rfl) ?_
  intro X C Rk
  replace C : CxOk g X cX6_letter RX6 (Cond.code yX6_letter cX6_letter 2 (some .int) :: wsL_law) 2 1 21 := C
  show J g X (osX6 h M) 0 [(0, .ref (h 0 0)), (1, .int x1)] []
  unfold FX6_letter at hF
  refine j_iload_n C 1 dX6_letter_0 rfl rfl ?_
  refine j_bipush (v := (32 : Int32)) C dX6_letter_1 rfl ?_
  refine j_icmp_lt C 12 dX6_letter_3 rfl (fun c_10 => ?_) (fun c_10 => ?_)
  · have hF := (if_pos c_10).symm.trans hF
    refine j_bipush (v := (-102 : Int32)) C dX6_letter_12 rfl ?_
    cases hF
    exact j_iret C Rk dX6_letter_14
  · have hF := (if_neg c_10).symm.trans hF
    refine j_iload_n C 1 dX6_letter_6 rfl rfl ?_
    refine j_bipush (v := (126 : Int32)) C dX6_letter_7 rfl ?_
    refine j_icmp_le C 15 dX6_letter_9 rfl (fun c_9 => ?_) (fun c_9 => ?_)
    · have hF := (if_pos c_9).symm.trans hF
      refine j_aload_n C 0 dX6_letter_15 rfl rfl ?_
      refine j_get (h := fun a => h a 0) (v := .ref (h 1 0)) C 0 0 rfl rfl (Nat.le_of_ble_eq_true rfl) rfl rfl in1_X6 (List.mem_cons_of_mem _ mw_1_15) dX6_letter_16 ?_
      refine j_iload_n C 1 dX6_letter_19 rfl rfl ?_
      obtain ⟨r_1, s_2, k_3, hF⟩ := gb2 hF
      obtain ⟨M_4, e_5, hF⟩ := glT hF
      refine j_callVi C (os' := (osX6 h M_4)) [.int x1] (kX3_add g (h 1) x1 (M 1) k_3) [1] rfl rfl rfl (by rw [e_5]; rfl) 1 rfl rfl (wl_gV mw_6_4 mw_6_5 mw_6_6 mw_1_14 mw_6_7) rfl 1 rfl hd_X3_add ⟨Nat.le_of_ble_eq_true rfl, Nat.le_of_ble_eq_true rfl⟩ (Nat.le_of_ble_eq_true rfl) rfl dX6_letter_20 ?_
      refine j_if_eq C 36 dX6_letter_23 rfl (fun c_8 => ?_) (fun c_8 => ?_)
      · have hF := (if_pos c_8).symm.trans hF
        refine j_bipush (v := (-104 : Int32)) C dX6_letter_36 rfl ?_
        cases hF
        exact j_iret C Rk dX6_letter_38
      · have hF := (if_neg c_8).symm.trans hF
        refine j_aload_n C 0 dX6_letter_26 rfl rfl ?_
        refine j_get (h := fun a => h a 0) (v := .ref (h 1 0)) C 0 0 rfl rfl (Nat.le_of_ble_eq_true rfl) rfl rfl in1_X6 (List.mem_cons_of_mem _ mw_1_15) dX6_letter_27 ?_
        obtain ⟨r_6, k_7, hF⟩ := gb1 hF
        refine j_callVi C (os' := (osX6 h M_4)) [] (kX3_size g (h 1) (M_4 1) k_7) [1] rfl rfl rfl rfl 1 rfl rfl (wl_gV mw_6_9 mw_6_10 mw_6_11 mw_1_14 mw_6_12) rfl 0 rfl hd_X3_size ⟨Nat.le_of_ble_eq_true rfl, Nat.le_of_ble_eq_true rfl⟩ (Nat.le_of_ble_eq_true rfl) rfl dX6_letter_30 ?_
        refine j_goto C 38 dX6_letter_33 rfl ?_
        cases hF
        exact j_iret C Rk dX6_letter_38
    · have hF := (if_neg c_9).symm.trans hF
      refine j_bipush (v := (-102 : Int32)) C dX6_letter_12 rfl ?_
      cases hF
      exact j_iret C Rk dX6_letter_14
/-! HeadsMeet.blank -/
def FX6_blank  (M : (Nat → Ob)) : Option (Int32 × (Nat → Ob)) :=
  b2 (FX3_clear (M 1)) fun r_1 s_2 =>
  lT (sM M 1 s_2) fun M_4 =>
  some (r_1, M_4)
set_option maxRecDepth 100000 in
set_option maxHeartbeats 4000000 in
theorem kX6_blank (g : Gl) (h : Nat → Nat → Nat)  (M : (Nat → Ob)) {r : Int32} {M' : (Nat → Ob)} (hF : FX6_blank M = some (r, M')) : Ctr g yX6_blank (Cond.code yX6_blank cX6_blank 1 (some .int) :: wsL_law) 1 21 (osX6 h M) (osX6 h M') [.ref (h 0 0)] (some (.int r)) := by
  refine Ctr.of (cc := cX6_blank) (maxL := 1) (ret := (some .int)) (by decide) rfl (Nat.le_of_ble_eq_true rfl) ?_
  intro X C Rk
  replace C : CxOk g X cX6_blank RX6 (Cond.code yX6_blank cX6_blank 1 (some .int) :: wsL_law) 1 1 21 := C
  show J g X (osX6 h M) 0 [(0, .ref (h 0 0))] []
  unfold FX6_blank at hF
  refine j_aload_n C 0 dX6_blank_0 rfl rfl ?_
  refine j_get (h := fun a => h a 0) (v := .ref (h 1 0)) C 0 0 rfl rfl (Nat.le_of_ble_eq_true rfl) rfl rfl in1_X6 (List.mem_cons_of_mem _ mw_1_15) dX6_blank_1 ?_
  obtain ⟨r_1, s_2, k_3, hF⟩ := gb2 hF
  obtain ⟨M_4, e_5, hF⟩ := glT hF
  refine j_callVi C (os' := (osX6 h M_4)) [] (kX3_clear g (h 1) (M 1) k_3) [1] rfl rfl rfl (by rw [e_5]; rfl) 1 rfl rfl (wl_gV mw_7_1 mw_7_2 mw_7_3 mw_1_14 mw_7_4) rfl 0 rfl hd_X3_clear ⟨Nat.le_of_ble_eq_true rfl, Nat.le_of_ble_eq_true rfl⟩ (Nat.le_of_ble_eq_true rfl) rfl dX6_blank_4 ?_
  cases hF
  exact j_iret C Rk dX6_blank_7
/-! HeadsMeet.fault -/
def FX6_fault  (M : (Nat → Ob)) : Option (Int32 × (Nat → Ob)) :=
  b3 (FX1_drawFrom 180 (M 2) (M 1) (M 5)) fun r_1 s_2 s_3 =>
  lT (sM (sM M 2 s_2) 5 s_3) fun M_5 =>
  some (r_1, M_5)
set_option maxRecDepth 100000 in
set_option maxHeartbeats 4000000 in
theorem kX6_fault (g : Gl) (h : Nat → Nat → Nat)  (M : (Nat → Ob)) {r : Int32} {M' : (Nat → Ob)} (hF : FX6_fault M = some (r, M')) : Ctr g yX6_fault (Cond.code yX6_fault cX6_fault 1 (some .int) :: wsL_law) 7 161 (osX6 h M) (osX6 h M') [.ref (h 0 0)] (some (.int r)) := by
  refine Ctr.of (cc := cX6_fault) (maxL := 1) (ret := (some .int)) (by decide) rfl (Nat.le_of_ble_eq_true rfl) ?_
  intro X C Rk
  replace C : CxOk g X cX6_fault RX6 (Cond.code yX6_fault cX6_fault 1 (some .int) :: wsL_law) 1 7 161 := C
  show J g X (osX6 h M) 0 [(0, .ref (h 0 0))] []
  unfold FX6_fault at hF
  refine j_aload_n C 0 dX6_fault_0 rfl rfl ?_
  refine j_get (h := fun a => h a 0) (v := .ref (h 2 0)) C 0 1 rfl rfl (Nat.le_of_ble_eq_true rfl) rfl rfl in1_X6 (List.mem_cons_of_mem _ mw_1_19) dX6_fault_1 ?_
  refine j_aload_n C 0 dX6_fault_4 rfl rfl ?_
  refine j_get (h := fun a => h a 0) (v := .ref (h 1 0)) C 0 0 rfl rfl (Nat.le_of_ble_eq_true rfl) rfl rfl in1_X6 (List.mem_cons_of_mem _ mw_1_15) dX6_fault_5 ?_
  refine j_aload_n C 0 dX6_fault_8 rfl rfl ?_
  refine j_get (h := fun a => h a 0) (v := .ref (h 5 0)) C 0 4 rfl rfl (Nat.le_of_ble_eq_true rfl) rfl rfl in1_X6 (List.mem_cons_of_mem _ mw_2_1) dX6_fault_9 ?_
  obtain ⟨r_1, s_2, s_3, k_4, hF⟩ := gb3 hF
  obtain ⟨M_5, e_6, hF⟩ := glT hF
  refine j_callVi C (os' := (osX6 h M_5)) [.ref (h 1 0), .ref (h 5 0)] (kX1_drawFrom g 180 (h 2) (h 1) (h 5) (M 2) (M 1) (M 5) k_4) [2, 1, 5] rfl rfl rfl (by rw [e_6]; rfl) 2 rfl rfl (wl_gV mw_7_13 mw_7_14 mw_7_15 mw_1_18 mw_7_16) rfl 2 rfl hd_X1_drawFrom ⟨Nat.le_of_ble_eq_true rfl, Nat.le_of_ble_eq_true rfl⟩ (Nat.le_of_ble_eq_true rfl) rfl dX6_fault_12 ?_
  cases hF
  exact j_iret C Rk dX6_fault_15
/-! HeadsMeet.net -/
def FX6_net  (M : (Nat → Ob)) : Option (Int32 × (Nat → Ob)) :=
  b3 (FX1_drawFrom 180 (M 2) (M 1) (M 5)) fun r_1 s_2 s_3 =>
  lT (sM (sM M 2 s_2) 5 s_3) fun M_5 =>
  b1 (FX3_size (M_5 1)) fun r_7 =>
  if r_1 < r_7 then
    some ((-103 : Int32), M_5)
  else
    b1 (FX1_isWhole (M_5 2)) fun r_9 =>
    if r_9 = 0 then
      some ((-103 : Int32), M_5)
    else
      b1 (FX2_nodes 180 (M_5 5)) fun r_11 =>
      if r_11 ≤ (30 : Int32) then
        b1 (FX1_closeWires 180 (M_5 2) (M_5 5)) fun s_13 =>
        lT (sM M_5 5 s_13) fun M_15 =>
        b1 (FX2_copyFrom 60 180 (M_15 3) (M_15 5)) fun s_17 =>
        lT (sM M_15 3 s_17) fun M_19 =>
        b2 (FX4_clear (M_19 6)) fun r_21 s_22 =>
        lT (sM M_19 6 s_22) fun M_24 =>
        b2 (FX3_clear (M_24 1)) fun r_26 s_27 =>
        lT (sM M_24 1 s_27) fun M_29 =>
        lT (sM M_29 0 (sV (M_29 0) 10 (1 : Int32))) fun M_32 =>
        lT (sM M_32 0 (sV (M_32 0) 11 (0 : Int32))) fun M_34 =>
        lT (sM M_34 0 (sV (M_34 0) 12 ((oV (M_34 0) 12) + (1 : Int32)))) fun M_36 =>
        b1 (FX2_nodes 60 (M_36 3)) fun r_37 =>
        some (r_37, M_36)
      else
        some ((-103 : Int32), M_5)
set_option maxRecDepth 100000 in
set_option maxHeartbeats 4000000 in
theorem kX6_net (g : Gl) (h : Nat → Nat → Nat)  (M : (Nat → Ob)) {r : Int32} {M' : (Nat → Ob)} (hF : FX6_net M = some (r, M')) : Ctr g yX6_net (Cond.code yX6_net cX6_net 2 (some .int) :: wsL_law) 7 161 (osX6 h M) (osX6 h M') [.ref (h 0 0)] (some (.int r)) := by
  refine Ctr.of (cc := cX6_net) (maxL := 2) (ret := (some .int)) (by decide) rfl (Nat.le_of_ble_eq_true rfl) ?_
  intro X C Rk
  replace C : CxOk g X cX6_net RX6 (Cond.code yX6_net cX6_net 2 (some .int) :: wsL_law) 2 7 161 := C
  show J g X (osX6 h M) 0 [(0, .ref (h 0 0))] []
  unfold FX6_net at hF
  refine j_aload_n C 0 dX6_net_0 rfl rfl ?_
  refine j_get (h := fun a => h a 0) (v := .ref (h 2 0)) C 0 1 rfl rfl (Nat.le_of_ble_eq_true rfl) rfl rfl in1_X6 (List.mem_cons_of_mem _ mw_1_19) dX6_net_1 ?_
  refine j_aload_n C 0 dX6_net_4 rfl rfl ?_
  refine j_get (h := fun a => h a 0) (v := .ref (h 1 0)) C 0 0 rfl rfl (Nat.le_of_ble_eq_true rfl) rfl rfl in1_X6 (List.mem_cons_of_mem _ mw_1_15) dX6_net_5 ?_
  refine j_aload_n C 0 dX6_net_8 rfl rfl ?_
  refine j_get (h := fun a => h a 0) (v := .ref (h 5 0)) C 0 4 rfl rfl (Nat.le_of_ble_eq_true rfl) rfl rfl in1_X6 (List.mem_cons_of_mem _ mw_2_1) dX6_net_9 ?_
  obtain ⟨r_1, s_2, s_3, k_4, hF⟩ := gb3 hF
  obtain ⟨M_5, e_6, hF⟩ := glT hF
  refine j_callVi C (os' := (osX6 h M_5)) [.ref (h 1 0), .ref (h 5 0)] (kX1_drawFrom g 180 (h 2) (h 1) (h 5) (M 2) (M 1) (M 5) k_4) [2, 1, 5] rfl rfl rfl (by rw [e_6]; rfl) 2 rfl rfl (wl_gV mw_7_13 mw_7_14 mw_7_15 mw_1_18 mw_7_16) rfl 2 rfl hd_X1_drawFrom ⟨Nat.le_of_ble_eq_true rfl, Nat.le_of_ble_eq_true rfl⟩ (Nat.le_of_ble_eq_true rfl) rfl dX6_net_12 ?_
  refine j_istore_n C [(1, .int r_1), (0, .ref (h 0 0))] dX6_net_15 rfl (Nat.le_of_ble_eq_true rfl) rfl rfl ?_
  refine j_iload_n C 0 dX6_net_16 rfl rfl ?_
  refine j_aload_n C 1 dX6_net_17 rfl rfl ?_
  refine j_get (h := fun a => h a 0) (v := .ref (h 1 0)) C 0 0 rfl rfl (Nat.le_of_ble_eq_true rfl) rfl rfl in1_X6 (List.mem_cons_of_mem _ mw_1_15) dX6_net_18 ?_
  obtain ⟨r_7, k_8, hF⟩ := gb1 hF
  refine j_callVi C (os' := (osX6 h M_5)) [] (kX3_size g (h 1) (M_5 1) k_8) [1] rfl rfl rfl rfl 1 rfl rfl (wl_gV mw_6_9 mw_6_10 mw_6_11 mw_1_14 mw_6_12) rfl 0 rfl hd_X3_size ⟨Nat.le_of_ble_eq_true rfl, Nat.le_of_ble_eq_true rfl⟩ (Nat.le_of_ble_eq_true rfl) rfl dX6_net_21 ?_
  refine j_icmp_lt C 49 dX6_net_24 rfl (fun c_41 => ?_) (fun c_41 => ?_)
  · have hF := (if_pos c_41).symm.trans hF
    refine j_bipush (v := (-103 : Int32)) C dX6_net_49 rfl ?_
    cases hF
    exact j_iret C Rk dX6_net_51
  · have hF := (if_neg c_41).symm.trans hF
    refine j_aload_n C 1 dX6_net_27 rfl rfl ?_
    refine j_get (h := fun a => h a 0) (v := .ref (h 2 0)) C 0 1 rfl rfl (Nat.le_of_ble_eq_true rfl) rfl rfl in1_X6 (List.mem_cons_of_mem _ mw_1_19) dX6_net_28 ?_
    obtain ⟨r_9, k_10, hF⟩ := gb1 hF
    refine j_callVi C (os' := (osX6 h M_5)) [] (kX1_isWhole g (h 2) (M_5 2) k_10) [2] rfl rfl rfl rfl 2 rfl rfl (wl_gV mw_16_12 mw_16_13 mw_16_14 mw_1_18 mw_16_15) rfl 0 rfl hd_X1_isWhole ⟨Nat.le_of_ble_eq_true rfl, Nat.le_of_ble_eq_true rfl⟩ (Nat.le_of_ble_eq_true rfl) rfl dX6_net_31 ?_
    refine j_if_eq C 49 dX6_net_34 rfl (fun c_40 => ?_) (fun c_40 => ?_)
    · have hF := (if_pos c_40).symm.trans hF
      refine j_bipush (v := (-103 : Int32)) C dX6_net_49 rfl ?_
      cases hF
      exact j_iret C Rk dX6_net_51
    · have hF := (if_neg c_40).symm.trans hF
      refine j_aload_n C 1 dX6_net_37 rfl rfl ?_
      refine j_get (h := fun a => h a 0) (v := .ref (h 5 0)) C 0 4 rfl rfl (Nat.le_of_ble_eq_true rfl) rfl rfl in1_X6 (List.mem_cons_of_mem _ mw_2_1) dX6_net_38 ?_
      obtain ⟨r_11, k_12, hF⟩ := gb1 hF
      refine j_callVi C (os' := (osX6 h M_5)) [] (kX2_nodes g 180 (h 5) (M_5 5) k_12) [5] rfl rfl rfl rfl 5 rfl rfl (wl_gV mw_16_16 mw_16_17 mw_16_18 mw_1_22 mw_16_19) rfl 0 rfl hd_X2_nodes ⟨Nat.le_of_ble_eq_true rfl, Nat.le_of_ble_eq_true rfl⟩ (Nat.le_of_ble_eq_true rfl) rfl dX6_net_41 ?_
      refine j_bipush (v := (30 : Int32)) C dX6_net_44 rfl ?_
      refine j_icmp_le C 52 dX6_net_46 rfl (fun c_39 => ?_) (fun c_39 => ?_)
      · have hF := (if_pos c_39).symm.trans hF
        refine j_aload_n C 1 dX6_net_52 rfl rfl ?_
        refine j_get (h := fun a => h a 0) (v := .ref (h 2 0)) C 0 1 rfl rfl (Nat.le_of_ble_eq_true rfl) rfl rfl in1_X6 (List.mem_cons_of_mem _ mw_1_19) dX6_net_53 ?_
        refine j_aload_n C 1 dX6_net_56 rfl rfl ?_
        refine j_get (h := fun a => h a 0) (v := .ref (h 5 0)) C 0 4 rfl rfl (Nat.le_of_ble_eq_true rfl) rfl rfl in1_X6 (List.mem_cons_of_mem _ mw_2_1) dX6_net_57 ?_
        obtain ⟨s_13, k_14, hF⟩ := gb1 hF
        obtain ⟨M_15, e_16, hF⟩ := glT hF
        refine j_callVv C (os' := (osX6 h M_15)) [.ref (h 5 0)] (kX1_closeWires g 180 (h 2) (h 5) (M_5 2) (M_5 5) k_14) [2, 5] rfl rfl rfl (by rw [e_16]; rfl) 2 rfl rfl (wl_gV mw_16_20 mw_16_21 mw_16_22 mw_1_18 mw_16_23) rfl 1 rfl hd_X1_closeWires ⟨Nat.le_of_ble_eq_true rfl, Nat.le_of_ble_eq_true rfl⟩ (Nat.le_of_ble_eq_true rfl) rfl dX6_net_60 ?_
        refine j_aload_n C 1 dX6_net_63 rfl rfl ?_
        refine j_get (h := fun a => h a 0) (v := .ref (h 3 0)) C 0 2 rfl rfl (Nat.le_of_ble_eq_true rfl) rfl rfl in1_X6 (List.mem_cons_of_mem _ mw_1_23) dX6_net_64 ?_
        refine j_aload_n C 1 dX6_net_67 rfl rfl ?_
        refine j_get (h := fun a => h a 0) (v := .ref (h 5 0)) C 0 4 rfl rfl (Nat.le_of_ble_eq_true rfl) rfl rfl in1_X6 (List.mem_cons_of_mem _ mw_2_1) dX6_net_68 ?_
        obtain ⟨s_17, k_18, hF⟩ := gb1 hF
        obtain ⟨M_19, e_20, hF⟩ := glT hF
        refine j_callVv C (os' := (osX6 h M_19)) [.ref (h 5 0)] (kX2_copyFrom g 60 180 (h 3) (h 5) (M_15 3) (M_15 5) k_18) [3, 5] rfl rfl rfl (by rw [e_20]; rfl) 3 rfl rfl (wl_gV mw_17_13 mw_17_14 mw_17_15 mw_1_22 mw_17_16) rfl 1 rfl hd_X2_copyFrom ⟨Nat.le_of_ble_eq_true rfl, Nat.le_of_ble_eq_true rfl⟩ (Nat.le_of_ble_eq_true rfl) rfl dX6_net_71 ?_
        refine j_aload_n C 1 dX6_net_74 rfl rfl ?_
        refine j_get (h := fun a => h a 0) (v := .ref (h 6 0)) C 0 5 rfl rfl (Nat.le_of_ble_eq_true rfl) rfl rfl in1_X6 (List.mem_cons_of_mem _ mw_2_5) dX6_net_75 ?_
        obtain ⟨r_21, s_22, k_23, hF⟩ := gb2 hF
        obtain ⟨M_24, e_25, hF⟩ := glT hF
        refine j_callVi C (os' := (osX6 h M_24)) [] (kX4_clear g (h 6) (M_19 6) k_23) [6] rfl rfl rfl (by rw [e_25]; rfl) 6 rfl rfl (wl_gV mw_17_22 mw_17_23 mw_18_0 mw_2_4 mw_18_1) rfl 0 rfl hd_X4_clear ⟨Nat.le_of_ble_eq_true rfl, Nat.le_of_ble_eq_true rfl⟩ (Nat.le_of_ble_eq_true rfl) rfl dX6_net_78 ?_
        refine j_pop C rfl dX6_net_81 ?_
        refine j_aload_n C 1 dX6_net_82 rfl rfl ?_
        refine j_get (h := fun a => h a 0) (v := .ref (h 1 0)) C 0 0 rfl rfl (Nat.le_of_ble_eq_true rfl) rfl rfl in1_X6 (List.mem_cons_of_mem _ mw_1_15) dX6_net_83 ?_
        obtain ⟨r_26, s_27, k_28, hF⟩ := gb2 hF
        obtain ⟨M_29, e_30, hF⟩ := glT hF
        refine j_callVi C (os' := (osX6 h M_29)) [] (kX3_clear g (h 1) (M_24 1) k_28) [1] rfl rfl rfl (by rw [e_30]; rfl) 1 rfl rfl (wl_gV mw_7_1 mw_7_2 mw_7_3 mw_1_14 mw_7_4) rfl 0 rfl hd_X3_clear ⟨Nat.le_of_ble_eq_true rfl, Nat.le_of_ble_eq_true rfl⟩ (Nat.le_of_ble_eq_true rfl) rfl dX6_net_86 ?_
        refine j_pop C rfl dX6_net_89 ?_
        refine j_aload_n C 1 dX6_net_90 rfl rfl ?_
        refine j_iconst (v := (1 : Int32)) C dX6_net_91 rfl ?_
        obtain ⟨M_32, e_31, hF⟩ := glT hF
        refine j_putV (h := fun a => h a 0) C tyX6_ok nmX6 0 10 rfl rfl (Nat.le_of_ble_eq_true rfl) rfl in1_X6 (List.mem_cons_of_mem _ mw_16_9) rfl fd_X6_10 rfl rfl (osX6 h M_32) (by rw [e_31]; rfl) dX6_net_92 ?_
        refine j_aload_n C 1 dX6_net_95 rfl rfl ?_
        refine j_iconst (v := (0 : Int32)) C dX6_net_96 rfl ?_
        obtain ⟨M_34, e_33, hF⟩ := glT hF
        refine j_putV (h := fun a => h a 0) C tyX6_ok nmX6 0 11 rfl rfl (Nat.le_of_ble_eq_true rfl) rfl in1_X6 (List.mem_cons_of_mem _ mw_16_10) rfl fd_X6_11 rfl rfl (osX6 h M_34) (by rw [e_33]; rfl) dX6_net_97 ?_
        refine j_aload_n C 1 dX6_net_100 rfl rfl ?_
        refine j_dup C rfl dX6_net_101 ?_
        refine j_get (h := fun a => h a 0) (v := .int (oV (M_34 0) 12)) C 0 12 rfl rfl (Nat.le_of_ble_eq_true rfl) rfl rfl in1_X6 (List.mem_cons_of_mem _ mw_16_11) dX6_net_102 ?_
        refine j_iconst (v := (1 : Int32)) C dX6_net_105 rfl ?_
        refine j_iadd C dX6_net_106 ?_
        obtain ⟨M_36, e_35, hF⟩ := glT hF
        refine j_putV (h := fun a => h a 0) C tyX6_ok nmX6 0 12 rfl rfl (Nat.le_of_ble_eq_true rfl) rfl in1_X6 (List.mem_cons_of_mem _ mw_16_11) rfl fd_X6_12 rfl rfl (osX6 h M_36) (by rw [e_35]; rfl) dX6_net_107 ?_
        refine j_aload_n C 1 dX6_net_110 rfl rfl ?_
        refine j_get (h := fun a => h a 0) (v := .ref (h 3 0)) C 0 2 rfl rfl (Nat.le_of_ble_eq_true rfl) rfl rfl in1_X6 (List.mem_cons_of_mem _ mw_1_23) dX6_net_111 ?_
        obtain ⟨r_37, k_38, hF⟩ := gb1 hF
        refine j_callVi C (os' := (osX6 h M_36)) [] (kX2_nodes g 60 (h 3) (M_36 3) k_38) [3] rfl rfl rfl rfl 3 rfl rfl (wl_gV mw_16_16 mw_16_17 mw_16_18 mw_1_22 mw_16_19) rfl 0 rfl hd_X2_nodes ⟨Nat.le_of_ble_eq_true rfl, Nat.le_of_ble_eq_true rfl⟩ (Nat.le_of_ble_eq_true rfl) rfl dX6_net_114 ?_
        cases hF
        exact j_iret C Rk dX6_net_117
      · have hF := (if_neg c_39).symm.trans hF
        refine j_bipush (v := (-103 : Int32)) C dX6_net_49 rfl ?_
        cases hF
        exact j_iret C Rk dX6_net_51
/-! HeadsMeet.toldOfNode -/
def BX6_toldOfNode_42 (x1 : Int32) (x2 : Int32) (M : (Nat → Ob)) : Option (Int32) :=
  b1 (FX2_port x1 (x2 - (1 : Int32))) fun r_5 =>
  b1 (FX2_toldAcross 60 r_5 (M 3)) fun r_7 =>
  some r_7
def FX6_toldOfNode (x1 : Int32) (x2 : Int32) (M : (Nat → Ob)) : Option (Int32) :=
  b1 (FX2_kindOf 60 x1 (M 3)) fun r_1 =>
  if x2 = 0 then
    some r_1
  else
    if x2 = (4 : Int32) then
      b1 (FX2_partnerOf 60 x1 (M 3)) fun r_3 =>
      some r_3
    else
      if r_1 = 0 then
        if x2 ≤ (1 : Int32) then
          BX6_toldOfNode_42 x1 x2 M
        else
          some (-1 : Int32)
      else
        BX6_toldOfNode_42 x1 x2 M
set_option maxRecDepth 100000 in
set_option maxHeartbeats 4000000 in
theorem bX6_toldOfNode_42 {g : Gl} {X : Cxt} (C : CxOk g X cX6_toldOfNode RX6 (Cond.code yX6_toldOfNode cX6_toldOfNode 4 (some .int) :: wsL_law) 4 3 62) {r : Int32} (h : Nat → Nat → Nat) (x1 : Int32) (x2 : Int32) (M : (Nat → Ob))  (Rk : RetOk g X (osX6 h M) (some (.int r)) (some .int))  (hF : BX6_toldOfNode_42  x1 x2 M = some r) : J g X (osX6 h M) 42 [(0, .ref (h 0 0)), (1, .int x1), (2, .int x2)] [] := by
  unfold BX6_toldOfNode_42 at hF
  refine j_aload_n C 0 dX6_toldOfNode_42 rfl rfl ?_
  refine j_get (h := fun a => h a 0) (v := .ref (h 3 0)) C 0 2 rfl rfl (Nat.le_of_ble_eq_true rfl) rfl rfl in1_X6 (List.mem_cons_of_mem _ mw_1_23) dX6_toldOfNode_43 ?_
  refine j_iload_n C 1 dX6_toldOfNode_46 rfl rfl ?_
  refine j_iload_n C 2 dX6_toldOfNode_47 rfl rfl ?_
  refine j_iconst (v := (1 : Int32)) C dX6_toldOfNode_48 rfl ?_
  refine j_isub C dX6_toldOfNode_49 ?_
  obtain ⟨r_5, k_6, hF⟩ := gb1 hF
  refine j_callSi C (os' := (osX6 h M)) [.int x1, .int (x2 - (1 : Int32))] (kX2_port g x1 (x2 - (1 : Int32)) k_6) [] rfl rfl rfl rfl (wl_gS mw_19_21 mw_9_7 mw_1_22 mw_9_8) rfl 2 rfl hd_X2_port ⟨Nat.le_of_ble_eq_true rfl, Nat.le_of_ble_eq_true rfl⟩ (Nat.le_of_ble_eq_true rfl) rfl dX6_toldOfNode_50 ?_
  obtain ⟨r_7, k_8, hF⟩ := gb1 hF
  refine j_callVi C (os' := (osX6 h M)) [.int r_5] (kX2_toldAcross g 60 (h 3) r_5 (M 3) k_8) [3] rfl rfl rfl rfl 3 rfl rfl (wl_gV mw_19_22 mw_19_23 mw_20_0 mw_1_22 mw_20_1) rfl 1 rfl hd_X2_toldAcross ⟨Nat.le_of_ble_eq_true rfl, Nat.le_of_ble_eq_true rfl⟩ (Nat.le_of_ble_eq_true rfl) rfl dX6_toldOfNode_53 ?_
  cases hF
  exact j_iret C Rk dX6_toldOfNode_56
set_option maxRecDepth 100000 in
set_option maxHeartbeats 4000000 in
theorem kX6_toldOfNode (g : Gl) (h : Nat → Nat → Nat) (x1 : Int32) (x2 : Int32) (M : (Nat → Ob)) {r : Int32} (hF : FX6_toldOfNode x1 x2 M = some r) : Ctr g yX6_toldOfNode (Cond.code yX6_toldOfNode cX6_toldOfNode 4 (some .int) :: wsL_law) 3 62 (osX6 h M) (osX6 h M) [.ref (h 0 0), .int x1, .int x2] (some (.int r)) := by
  refine Ctr.of (cc := cX6_toldOfNode) (maxL := 4) (ret := (some .int)) (by decide) rfl (Nat.le_of_ble_eq_true rfl) ?_
  intro X C Rk
  replace C : CxOk g X cX6_toldOfNode RX6 (Cond.code yX6_toldOfNode cX6_toldOfNode 4 (some .int) :: wsL_law) 4 3 62 := C
  show J g X (osX6 h M) 0 [(0, .ref (h 0 0)), (1, .int x1), (2, .int x2)] []
  unfold FX6_toldOfNode at hF
  refine j_aload_n C 0 dX6_toldOfNode_0 rfl rfl ?_
  refine j_get (h := fun a => h a 0) (v := .ref (h 3 0)) C 0 2 rfl rfl (Nat.le_of_ble_eq_true rfl) rfl rfl in1_X6 (List.mem_cons_of_mem _ mw_1_23) dX6_toldOfNode_1 ?_
  refine j_iload_n C 1 dX6_toldOfNode_4 rfl rfl ?_
  obtain ⟨r_1, k_2, hF⟩ := gb1 hF
  refine j_callVi C (os' := (osX6 h M)) [.int x1] (kX2_kindOf g 60 (h 3) x1 (M 3) k_2) [3] rfl rfl rfl rfl 3 rfl rfl (wl_gV mw_19_1 mw_13_12 mw_13_13 mw_1_22 mw_13_14) rfl 1 rfl hd_X2_kindOf ⟨Nat.le_of_ble_eq_true rfl, Nat.le_of_ble_eq_true rfl⟩ (Nat.le_of_ble_eq_true rfl) rfl dX6_toldOfNode_5 ?_
  refine j_istore_n C [(3, .int r_1), (0, .ref (h 0 0)), (1, .int x1), (2, .int x2)] dX6_toldOfNode_8 rfl (Nat.le_of_ble_eq_true rfl) rfl rfl ?_
  refine j_iload_n C 3 dX6_toldOfNode_9 rfl rfl ?_
  refine j_if_ne C 15 dX6_toldOfNode_10 rfl (fun c_12 => ?_) (fun c_12 => ?_)
  · have hF := (if_neg c_12).symm.trans hF
    refine j_iload_n C 3 dX6_toldOfNode_15 rfl rfl ?_
    refine j_iconst (v := (4 : Int32)) C dX6_toldOfNode_16 rfl ?_
    refine j_icmp_ne C 29 dX6_toldOfNode_17 rfl (fun c_11 => ?_) (fun c_11 => ?_)
    · have hF := (if_neg c_11).symm.trans hF
      refine j_iload_n C 0 dX6_toldOfNode_29 rfl rfl ?_
      refine j_if_ne C 42 dX6_toldOfNode_30 rfl (fun c_10 => ?_) (fun c_10 => ?_)
      · have hF := (if_neg c_10).symm.trans hF
        refine j_sub [(0, .ref (h 0 0)), (1, .int x1), (2, .int x2)] [1, 2, 3] rfl ?_
        exact bX6_toldOfNode_42 C h _ _ _ Rk  hF
      · have hF := (if_pos c_10).symm.trans hF
        refine j_iload_n C 3 dX6_toldOfNode_33 rfl rfl ?_
        refine j_iconst (v := (1 : Int32)) C dX6_toldOfNode_34 rfl ?_
        refine j_icmp_le C 42 dX6_toldOfNode_35 rfl (fun c_9 => ?_) (fun c_9 => ?_)
        · have hF := (if_pos c_9).symm.trans hF
          refine j_sub [(0, .ref (h 0 0)), (1, .int x1), (2, .int x2)] [1, 2, 3] rfl ?_
          exact bX6_toldOfNode_42 C h _ _ _ Rk  hF
        · have hF := (if_neg c_9).symm.trans hF
          refine j_iconst (v := (-1 : Int32)) C dX6_toldOfNode_38 rfl ?_
          refine j_goto C 56 dX6_toldOfNode_39 rfl ?_
          cases hF
          exact j_iret C Rk dX6_toldOfNode_56
    · have hF := (if_pos c_11).symm.trans hF
      refine j_aload_n C 1 dX6_toldOfNode_20 rfl rfl ?_
      refine j_get (h := fun a => h a 0) (v := .ref (h 3 0)) C 0 2 rfl rfl (Nat.le_of_ble_eq_true rfl) rfl rfl in1_X6 (List.mem_cons_of_mem _ mw_1_23) dX6_toldOfNode_21 ?_
      refine j_iload_n C 2 dX6_toldOfNode_24 rfl rfl ?_
      obtain ⟨r_3, k_4, hF⟩ := gb1 hF
      refine j_callVi C (os' := (osX6 h M)) [.int x1] (kX2_partnerOf g 60 (h 3) x1 (M 3) k_4) [3] rfl rfl rfl rfl 3 rfl rfl (wl_gV mw_19_6 mw_19_7 mw_19_8 mw_1_22 mw_19_9) rfl 1 rfl hd_X2_partnerOf ⟨Nat.le_of_ble_eq_true rfl, Nat.le_of_ble_eq_true rfl⟩ (Nat.le_of_ble_eq_true rfl) rfl dX6_toldOfNode_25 ?_
      cases hF
      exact j_iret C Rk dX6_toldOfNode_28
  · have hF := (if_pos c_12).symm.trans hF
    refine j_iload_n C 0 dX6_toldOfNode_13 rfl rfl ?_
    cases hF
    exact j_iret C Rk dX6_toldOfNode_14
/-! HeadsMeet.toldOfEnding -/
def FX6_toldOfEnding (x1 : Int32) (x2 : Int32) (M : (Nat → Ob)) : Option (Int32) :=
  if x1 = 0 then
    some (-1 : Int32)
  else
    if x2 = 4 then
      b1 (FX2_rounds 180 (M 5)) fun r_10 =>
      some r_10
    else
      if x2 = 5 then
        b1 (FX2_nodes 180 (M 5)) fun r_8 =>
        some r_8
      else
        if x2 = 6 then
          b1 (FX2_rings 180 (M 5)) fun r_6 =>
          some r_6
        else
          b1 (FX2_done 180 x2 (M 5)) fun r_1 =>
          some r_1
set_option maxRecDepth 100000 in
set_option maxHeartbeats 4000000 in
theorem kX6_toldOfEnding (g : Gl) (h : Nat → Nat → Nat) (x1 : Int32) (x2 : Int32) (M : (Nat → Ob)) {r : Int32} (hF : FX6_toldOfEnding x1 x2 M = some r) : Ctr g yX6_toldOfEnding (Cond.code yX6_toldOfEnding cX6_toldOfEnding 3 (some .int) :: wsL_law) 1 21 (osX6 h M) (osX6 h M) [.ref (h 0 0), .int x1, .int x2] (some (.int r)) := by
  refine Ctr.of (cc := cX6_toldOfEnding) (maxL := 3) (ret := (some .int)) (by decide) rfl (Nat.le_of_ble_eq_true rfl) ?_
  intro X C Rk
  replace C : CxOk g X cX6_toldOfEnding RX6 (Cond.code yX6_toldOfEnding cX6_toldOfEnding 3 (some .int) :: wsL_law) 3 1 21 := C
  show J g X (osX6 h M) 0 [(0, .ref (h 0 0)), (1, .int x1), (2, .int x2)] []
  unfold FX6_toldOfEnding at hF
  refine j_iload_n C 1 dX6_toldOfEnding_0 rfl rfl ?_
  refine j_if_ne C 6 dX6_toldOfEnding_1 rfl (fun c_12 => ?_) (fun c_12 => ?_)
  · have hF := (if_neg c_12).symm.trans hF
    refine j_iload_n C 2 dX6_toldOfEnding_6 rfl rfl ?_
    by_cases c_3 : x2 = 4
    · have hF := (if_pos c_3).symm.trans hF
      refine j_tableIn (off := 25) C 32 dX6_toldOfEnding_7 (by rw [c_3]; decide) (by rw [c_3]; decide) (by rw [c_3]; rfl) rfl ?_
      refine j_aload_n C 0 dX6_toldOfEnding_32 rfl rfl ?_
      refine j_get (h := fun a => h a 0) (v := .ref (h 5 0)) C 0 4 rfl rfl (Nat.le_of_ble_eq_true rfl) rfl rfl in1_X6 (List.mem_cons_of_mem _ mw_2_1) dX6_toldOfEnding_33 ?_
      obtain ⟨r_10, k_11, hF⟩ := gb1 hF
      refine j_callVi C (os' := (osX6 h M)) [] (kX2_rounds g 180 (h 5) (M 5) k_11) [5] rfl rfl rfl rfl 5 rfl rfl (wl_gV mw_22_11 mw_22_12 mw_22_13 mw_1_22 mw_22_14) rfl 0 rfl hd_X2_rounds ⟨Nat.le_of_ble_eq_true rfl, Nat.le_of_ble_eq_true rfl⟩ (Nat.le_of_ble_eq_true rfl) rfl dX6_toldOfEnding_36 ?_
      cases hF
      exact j_iret C Rk dX6_toldOfEnding_39
    · have hF := (if_neg c_3).symm.trans hF
      by_cases c_4 : x2 = 5
      · have hF := (if_pos c_4).symm.trans hF
        refine j_tableIn (off := 33) C 40 dX6_toldOfEnding_7 (by rw [c_4]; decide) (by rw [c_4]; decide) (by rw [c_4]; rfl) rfl ?_
        refine j_aload_n C 0 dX6_toldOfEnding_40 rfl rfl ?_
        refine j_get (h := fun a => h a 0) (v := .ref (h 5 0)) C 0 4 rfl rfl (Nat.le_of_ble_eq_true rfl) rfl rfl in1_X6 (List.mem_cons_of_mem _ mw_2_1) dX6_toldOfEnding_41 ?_
        obtain ⟨r_8, k_9, hF⟩ := gb1 hF
        refine j_callVi C (os' := (osX6 h M)) [] (kX2_nodes g 180 (h 5) (M 5) k_9) [5] rfl rfl rfl rfl 5 rfl rfl (wl_gV mw_16_16 mw_16_17 mw_16_18 mw_1_22 mw_16_19) rfl 0 rfl hd_X2_nodes ⟨Nat.le_of_ble_eq_true rfl, Nat.le_of_ble_eq_true rfl⟩ (Nat.le_of_ble_eq_true rfl) rfl dX6_toldOfEnding_44 ?_
        cases hF
        exact j_iret C Rk dX6_toldOfEnding_47
      · have hF := (if_neg c_4).symm.trans hF
        by_cases c_5 : x2 = 6
        · have hF := (if_pos c_5).symm.trans hF
          refine j_tableIn (off := 41) C 48 dX6_toldOfEnding_7 (by rw [c_5]; decide) (by rw [c_5]; decide) (by rw [c_5]; rfl) rfl ?_
          refine j_aload_n C 0 dX6_toldOfEnding_48 rfl rfl ?_
          refine j_get (h := fun a => h a 0) (v := .ref (h 5 0)) C 0 4 rfl rfl (Nat.le_of_ble_eq_true rfl) rfl rfl in1_X6 (List.mem_cons_of_mem _ mw_2_1) dX6_toldOfEnding_49 ?_
          obtain ⟨r_6, k_7, hF⟩ := gb1 hF
          refine j_callVi C (os' := (osX6 h M)) [] (kX2_rings g 180 (h 5) (M 5) k_7) [5] rfl rfl rfl rfl 5 rfl rfl (wl_gV mw_22_15 mw_22_16 mw_22_17 mw_1_22 mw_22_18) rfl 0 rfl hd_X2_rings ⟨Nat.le_of_ble_eq_true rfl, Nat.le_of_ble_eq_true rfl⟩ (Nat.le_of_ble_eq_true rfl) rfl dX6_toldOfEnding_52 ?_
          cases hF
          exact j_iret C Rk dX6_toldOfEnding_55
        · have hF := (if_neg c_5).symm.trans hF
          refine j_tableOut C 56 dX6_toldOfEnding_7 (by have q0 := ne_i c_3 (a := 4) rfl; have q1 := ne_i c_4 (a := 5) rfl; have q2 := ne_i c_5 (a := 6) rfl; omega) rfl ?_
          refine j_aload_n C 0 dX6_toldOfEnding_56 rfl rfl ?_
          refine j_get (h := fun a => h a 0) (v := .ref (h 5 0)) C 0 4 rfl rfl (Nat.le_of_ble_eq_true rfl) rfl rfl in1_X6 (List.mem_cons_of_mem _ mw_2_1) dX6_toldOfEnding_57 ?_
          refine j_iload_n C 2 dX6_toldOfEnding_60 rfl rfl ?_
          obtain ⟨r_1, k_2, hF⟩ := gb1 hF
          refine j_callVi C (os' := (osX6 h M)) [.int x2] (kX2_done g 180 (h 5) x2 (M 5) k_2) [5] rfl rfl rfl rfl 5 rfl rfl (wl_gV mw_22_19 mw_22_20 mw_22_21 mw_1_22 mw_22_22) rfl 1 rfl hd_X2_done ⟨Nat.le_of_ble_eq_true rfl, Nat.le_of_ble_eq_true rfl⟩ (Nat.le_of_ble_eq_true rfl) rfl dX6_toldOfEnding_61 ?_
          cases hF
          exact j_iret C Rk dX6_toldOfEnding_64
  · have hF := (if_pos c_12).symm.trans hF
    refine j_iconst (v := (-1 : Int32)) C dX6_toldOfEnding_4 rfl ?_
    cases hF
    exact j_iret C Rk dX6_toldOfEnding_5
/-! HeadsMeet.kindsLeft -/
def LX6_kindsLeft_41 (x1 : Int32) (x2 : Int32) (x3 : Int32) (x4 : Int32) (E71 : (Nat → Ob) → Option (Int32 × (Nat → Ob))) : Nat → Int32 → (Nat → Ob) → Option (Int32 × (Nat → Ob))
  | 0, _, _ => none
  | n + 1, x5, M =>
    if (4 : Int32) ≤ x5 then
      E71 M
    else
      b1 (FX6_toldOfEnding x4 x5 M) fun r_14 =>
      b1 (FX0_put x3 x5 r_14 (M 10)) fun s_16 =>
      lT (sM M 10 s_16) fun M_18 =>
      lT (x5 + (1 : Int32)) fun x5_20 =>
      LX6_kindsLeft_41 x1 x2 x3 x4 E71 n x5_20 M_18
def LX6_kindsLeft_4 (x1 : Int32) : Nat → Int32 → Int32 → (Nat → Ob) → Option (Int32 × (Nat → Ob))
  | 0, _, _, _ => none
  | n + 1, x2, x3, M =>
    if (3 : Int32) < x3 then
      some (x2, M)
    else
      b1 (FX2_copyFrom 180 60 (M 5) (M 3)) fun s_1 =>
      lT (sM M 5 s_1) fun M_3 =>
      b1 (FX2_setKind 180 x1 x3 (M_3 5)) fun s_5 =>
      lT (sM M_3 5 s_5) fun M_7 =>
      b2 (FX2_finish 180 (M_7 5)) fun r_9 s_10 =>
      lT (sM M_7 5 s_10) fun M_12 =>
      LX6_kindsLeft_41 x1 x2 x3 r_9 (fun M_23 =>
       b1 (FX4_agree x1 x3 (M_23 6) (M_23 10)) fun r_24 =>
       if r_24 = 0 then
        lT (x3 + (1 : Int32)) fun x3_30 =>
        LX6_kindsLeft_4 x1 n x2 x3_30 M_23
       else
        lT (x2 ||| ((1 : Int32) <<< (x3 &&& 31))) fun x2_26 =>
        lT (x3 + (1 : Int32)) fun x3_28 =>
        LX6_kindsLeft_4 x1 n x2_26 x3_28 M_23) fu (0 : Int32) M_12
def FX6_kindsLeft (x1 : Int32) (M : (Nat → Ob)) : Option (Int32 × (Nat → Ob)) :=
  LX6_kindsLeft_4 x1 fu (0 : Int32) (1 : Int32) M
set_option maxRecDepth 100000 in
set_option maxHeartbeats 4000000 in
theorem lX6_kindsLeft_41 {g : Gl} {X : Cxt} (C : CxOk g X cX6_kindsLeft RX6 (Cond.code yX6_kindsLeft cX6_kindsLeft 6 (some .int) :: wsL_law) 6 5 121) {r : Int32} {M' : (Nat → Ob)} (h : Nat → Nat → Nat) (x1 : Int32) (x2 : Int32) (x3 : Int32) (x4 : Int32) (E71 : (Nat → Ob) → Option (Int32 × (Nat → Ob))) (Rk : RetOk g X (osX6 h M') (some (.int r)) (some .int)) (hE71 : ∀ (M : (Nat → Ob)), E71 M = some (r, M') → J g X (osX6 h M) 71 [(0, .ref (h 0 0)), (1, .int x1), (2, .int x2), (3, .int x3)] []) : ∀ (n : Nat) (x5 : Int32) (M : (Nat → Ob)), LX6_kindsLeft_41 x1 x2 x3 x4 E71 n x5 M = some (r, M') → J g X (osX6 h M) 41 [(0, .ref (h 0 0)), (1, .int x1), (2, .int x2), (3, .int x3), (4, .int x4), (5, .int x5)] [] := by
  intro n
  induction n with
  | zero =>
    intro x5 M hF
    cases hF
  | succ n ih =>
    intro x5 M hF
    rw [LX6_kindsLeft_41.eq_2] at hF
    refine j_iload C 5 dX6_kindsLeft_41 rfl ?_
    refine j_iconst (v := (4 : Int32)) C dX6_kindsLeft_43 rfl ?_
    refine j_icmp_ge C 71 dX6_kindsLeft_44 rfl (fun c_22 => ?_) (fun c_22 => ?_)
    · have hF := (if_pos c_22).symm.trans hF
      refine j_sub [(0, .ref (h 0 0)), (1, .int x1), (2, .int x2), (3, .int x3)] [0, 1, 2, 3] rfl ?_
      exact hE71 _ hF
    · have hF := (if_neg c_22).symm.trans hF
      refine j_aload_n C 0 dX6_kindsLeft_47 rfl rfl ?_
      refine j_get (h := fun a => h a 0) (v := .ref (h 10 0)) C 0 9 rfl rfl (Nat.le_of_ble_eq_true rfl) rfl rfl in1_X6 (List.mem_cons_of_mem _ mw_2_15) dX6_kindsLeft_48 ?_
      refine j_iload_n C 3 dX6_kindsLeft_51 rfl rfl ?_
      refine j_iload C 5 dX6_kindsLeft_52 rfl ?_
      refine j_aload_n C 0 dX6_kindsLeft_54 rfl rfl ?_
      refine j_iload C 4 dX6_kindsLeft_55 rfl ?_
      refine j_iload C 5 dX6_kindsLeft_57 rfl ?_
      obtain ⟨r_14, k_15, hF⟩ := gb1 hF
      refine j_callVi (h := fun a => h a 0) C (os' := (osX6 h M)) [.int x4, .int x5] (kX6_toldOfEnding g h x4 x5 M k_15) [0, 1, 2, 3, 4, 5, 6, 7, 8, 9, 10] rfl rfl rfl rfl 0 rfl rfl (wl_gV mw_22_7 mw_22_8 mw_22_9 mw_1_2 mw_22_10) rfl 2 rfl hd_X6_toldOfEnding ⟨Nat.le_of_ble_eq_true rfl, Nat.le_of_ble_eq_true rfl⟩ (Nat.le_of_ble_eq_true rfl) rfl dX6_kindsLeft_59 ?_
      obtain ⟨s_16, k_17, hF⟩ := gb1 hF
      obtain ⟨M_18, e_19, hF⟩ := glT hF
      refine j_callVv C (os' := (osX6 h M_18)) [.int x3, .int x5, .int r_14] (kX0_put g (h 10) x3 x5 r_14 (M 10) k_17) [10] rfl rfl rfl (by rw [e_19]; rfl) 10 rfl rfl (wl_gV mw_22_23 mw_23_0 mw_23_1 mw_2_14 mw_23_2) rfl 3 rfl hd_X0_put ⟨Nat.le_of_ble_eq_true rfl, Nat.le_of_ble_eq_true rfl⟩ (Nat.le_of_ble_eq_true rfl) rfl dX6_kindsLeft_62 ?_
      obtain ⟨x5_20, e_21, hF⟩ := glT hF
      refine j_iinc C 5 [(5, .int x5_20), (0, .ref (h 0 0)), (1, .int x1), (2, .int x2), (3, .int x3), (4, .int x4)] dX6_kindsLeft_65 rfl e_21.symm (Nat.le_of_ble_eq_true rfl) rfl ?_
      refine j_goto C 41 dX6_kindsLeft_68 rfl ?_
      refine j_sub [(0, .ref (h 0 0)), (1, .int x1), (2, .int x2), (3, .int x3), (4, .int x4), (5, .int x5_20)] [1, 2, 3, 4, 5, 0] rfl ?_
      exact ih _ _ hF
set_option maxRecDepth 100000 in
set_option maxHeartbeats 4000000 in
theorem lX6_kindsLeft_4 {g : Gl} {X : Cxt} (C : CxOk g X cX6_kindsLeft RX6 (Cond.code yX6_kindsLeft cX6_kindsLeft 6 (some .int) :: wsL_law) 6 5 121) {r : Int32} {M' : (Nat → Ob)} (h : Nat → Nat → Nat) (x1 : Int32)  (Rk : RetOk g X (osX6 h M') (some (.int r)) (some .int))  : ∀ (n : Nat) (x2 : Int32) (x3 : Int32) (M : (Nat → Ob)), LX6_kindsLeft_4 x1 n x2 x3 M = some (r, M') → J g X (osX6 h M) 4 [(0, .ref (h 0 0)), (1, .int x1), (2, .int x2), (3, .int x3)] [] := by
  intro n
  induction n with
  | zero =>
    intro x2 x3 M hF
    cases hF
  | succ n ih =>
    intro x2 x3 M hF
    rw [LX6_kindsLeft_4.eq_2] at hF
    refine j_iload_n C 3 dX6_kindsLeft_4 rfl rfl ?_
    refine j_iconst (v := (3 : Int32)) C dX6_kindsLeft_5 rfl ?_
    refine j_icmp_gt C 99 dX6_kindsLeft_6 rfl (fun c_33 => ?_) (fun c_33 => ?_)
    · have hF := (if_pos c_33).symm.trans hF
      refine j_iload_n C 2 dX6_kindsLeft_99 rfl rfl ?_
      cases hF
      exact j_iret C Rk dX6_kindsLeft_100
    · have hF := (if_neg c_33).symm.trans hF
      refine j_aload_n C 0 dX6_kindsLeft_9 rfl rfl ?_
      refine j_get (h := fun a => h a 0) (v := .ref (h 5 0)) C 0 4 rfl rfl (Nat.le_of_ble_eq_true rfl) rfl rfl in1_X6 (List.mem_cons_of_mem _ mw_2_1) dX6_kindsLeft_10 ?_
      refine j_aload_n C 0 dX6_kindsLeft_13 rfl rfl ?_
      refine j_get (h := fun a => h a 0) (v := .ref (h 3 0)) C 0 2 rfl rfl (Nat.le_of_ble_eq_true rfl) rfl rfl in1_X6 (List.mem_cons_of_mem _ mw_1_23) dX6_kindsLeft_14 ?_
      obtain ⟨s_1, k_2, hF⟩ := gb1 hF
      obtain ⟨M_3, e_4, hF⟩ := glT hF
      refine j_callVv C (os' := (osX6 h M_3)) [.ref (h 3 0)] (kX2_copyFrom g 180 60 (h 5) (h 3) (M 5) (M 3) k_2) [5, 3] rfl rfl rfl (by rw [e_4]; rfl) 5 rfl rfl (wl_gV mw_17_13 mw_17_14 mw_17_15 mw_1_22 mw_17_16) rfl 1 rfl hd_X2_copyFrom ⟨Nat.le_of_ble_eq_true rfl, Nat.le_of_ble_eq_true rfl⟩ (Nat.le_of_ble_eq_true rfl) rfl dX6_kindsLeft_17 ?_
      refine j_aload_n C 0 dX6_kindsLeft_20 rfl rfl ?_
      refine j_get (h := fun a => h a 0) (v := .ref (h 5 0)) C 0 4 rfl rfl (Nat.le_of_ble_eq_true rfl) rfl rfl in1_X6 (List.mem_cons_of_mem _ mw_2_1) dX6_kindsLeft_21 ?_
      refine j_iload_n C 1 dX6_kindsLeft_24 rfl rfl ?_
      refine j_iload_n C 3 dX6_kindsLeft_25 rfl rfl ?_
      obtain ⟨s_5, k_6, hF⟩ := gb1 hF
      obtain ⟨M_7, e_8, hF⟩ := glT hF
      refine j_callVv C (os' := (osX6 h M_7)) [.int x1, .int x3] (kX2_setKind g 180 (h 5) x1 x3 (M_3 5) k_6) [5] rfl rfl rfl (by rw [e_8]; rfl) 5 rfl rfl (wl_gV mw_20_6 mw_20_7 mw_20_8 mw_1_22 mw_20_9) rfl 2 rfl hd_X2_setKind ⟨Nat.le_of_ble_eq_true rfl, Nat.le_of_ble_eq_true rfl⟩ (Nat.le_of_ble_eq_true rfl) rfl dX6_kindsLeft_26 ?_
      refine j_aload_n C 0 dX6_kindsLeft_29 rfl rfl ?_
      refine j_get (h := fun a => h a 0) (v := .ref (h 5 0)) C 0 4 rfl rfl (Nat.le_of_ble_eq_true rfl) rfl rfl in1_X6 (List.mem_cons_of_mem _ mw_2_1) dX6_kindsLeft_30 ?_
      obtain ⟨r_9, s_10, k_11, hF⟩ := gb2 hF
      obtain ⟨M_12, e_13, hF⟩ := glT hF
      refine j_callVi C (os' := (osX6 h M_12)) [] (kX2_finish g 180 (h 5) (M_7 5) k_11) [5] rfl rfl rfl (by rw [e_13]; rfl) 5 rfl rfl (wl_gV mw_20_10 mw_20_11 mw_20_12 mw_1_22 mw_20_13) rfl 0 rfl hd_X2_finish ⟨Nat.le_of_ble_eq_true rfl, Nat.le_of_ble_eq_true rfl⟩ (Nat.le_of_ble_eq_true rfl) rfl dX6_kindsLeft_33 ?_
      refine j_istore C [(4, .int r_9), (0, .ref (h 0 0)), (1, .int x1), (2, .int x2), (3, .int x3)] dX6_kindsLeft_36 (Nat.le_of_ble_eq_true rfl) rfl rfl ?_
      refine j_iconst (v := (0 : Int32)) C dX6_kindsLeft_38 rfl ?_
      refine j_istore C [(5, .int (0 : Int32)), (4, .int r_9), (0, .ref (h 0 0)), (1, .int x1), (2, .int x2), (3, .int x3)] dX6_kindsLeft_39 (Nat.le_of_ble_eq_true rfl) rfl rfl ?_
      refine j_sub [(0, .ref (h 0 0)), (1, .int x1), (2, .int x2), (3, .int x3), (4, .int r_9), (5, .int (0 : Int32))] [2, 3, 4, 5, 1, 0] rfl ?_
      refine lX6_kindsLeft_41 C h x1 x2 x3 r_9 _ Rk (fun M_23 hF => ?_) _ _ _ hF
      refine j_aload_n C 0 dX6_kindsLeft_71 rfl rfl ?_
      refine j_get (h := fun a => h a 0) (v := .ref (h 6 0)) C 0 5 rfl rfl (Nat.le_of_ble_eq_true rfl) rfl rfl in1_X6 (List.mem_cons_of_mem _ mw_2_5) dX6_kindsLeft_72 ?_
      refine j_iload_n C 1 dX6_kindsLeft_75 rfl rfl ?_
      refine j_iload_n C 3 dX6_kindsLeft_76 rfl rfl ?_
      refine j_aload_n C 0 dX6_kindsLeft_77 rfl rfl ?_
      refine j_get (h := fun a => h a 0) (v := .ref (h 10 0)) C 0 9 rfl rfl (Nat.le_of_ble_eq_true rfl) rfl rfl in1_X6 (List.mem_cons_of_mem _ mw_2_15) dX6_kindsLeft_78 ?_
      obtain ⟨r_24, k_25, hF⟩ := gb1 hF
      refine j_callVi C (os' := (osX6 h M_23)) [.int x1, .int x3, .ref (h 10 0)] (kX4_agree g (h 6) (h 10) x1 x3 (M_23 6) (M_23 10) k_25) [6, 10] rfl rfl rfl rfl 6 rfl rfl (wl_gV mw_23_3 mw_23_4 mw_23_5 mw_2_4 mw_23_6) rfl 3 rfl hd_X4_agree ⟨Nat.le_of_ble_eq_true rfl, Nat.le_of_ble_eq_true rfl⟩ (Nat.le_of_ble_eq_true rfl) rfl dX6_kindsLeft_81 ?_
      refine j_if_eq C 93 dX6_kindsLeft_84 rfl (fun c_32 => ?_) (fun c_32 => ?_)
      · have hF := (if_pos c_32).symm.trans hF
        obtain ⟨x3_30, e_31, hF⟩ := glT hF
        refine j_iinc C 3 [(3, .int x3_30), (0, .ref (h 0 0)), (1, .int x1), (2, .int x2)] dX6_kindsLeft_93 rfl e_31.symm (Nat.le_of_ble_eq_true rfl) rfl ?_
        refine j_goto C 4 dX6_kindsLeft_96 rfl ?_
        refine j_sub [(0, .ref (h 0 0)), (1, .int x1), (2, .int x2), (3, .int x3_30)] [1, 2, 3, 0] rfl ?_
        exact ih _ _ _ hF
      · have hF := (if_neg c_32).symm.trans hF
        refine j_iload_n C 2 dX6_kindsLeft_87 rfl rfl ?_
        refine j_iconst (v := (1 : Int32)) C dX6_kindsLeft_88 rfl ?_
        refine j_iload_n C 3 dX6_kindsLeft_89 rfl rfl ?_
        refine j_ishl C dX6_kindsLeft_90 ?_
        refine j_ior C dX6_kindsLeft_91 ?_
        obtain ⟨x2_26, e_27, hF⟩ := glT hF
        refine j_istore_n C [(2, .int x2_26), (0, .ref (h 0 0)), (1, .int x1), (3, .int x3)] dX6_kindsLeft_92 rfl (Nat.le_of_ble_eq_true rfl) e_27 rfl ?_
        obtain ⟨x3_28, e_29, hF⟩ := glT hF
        refine j_iinc C 3 [(3, .int x3_28), (2, .int x2_26), (0, .ref (h 0 0)), (1, .int x1)] dX6_kindsLeft_93 rfl e_29.symm (Nat.le_of_ble_eq_true rfl) rfl ?_
        refine j_goto C 4 dX6_kindsLeft_96 rfl ?_
        refine j_sub [(0, .ref (h 0 0)), (1, .int x1), (2, .int x2_26), (3, .int x3_28)] [2, 3, 1, 0] rfl ?_
        exact ih _ _ _ hF
set_option maxRecDepth 100000 in
set_option maxHeartbeats 4000000 in
theorem kX6_kindsLeft (g : Gl) (h : Nat → Nat → Nat) (x1 : Int32) (M : (Nat → Ob)) {r : Int32} {M' : (Nat → Ob)} (hF : FX6_kindsLeft x1 M = some (r, M')) : Ctr g yX6_kindsLeft (Cond.code yX6_kindsLeft cX6_kindsLeft 6 (some .int) :: wsL_law) 5 121 (osX6 h M) (osX6 h M') [.ref (h 0 0), .int x1] (some (.int r)) := by
  refine Ctr.of (cc := cX6_kindsLeft) (maxL := 6) (ret := (some .int)) (by decide) rfl (Nat.le_of_ble_eq_true rfl) ?_
  intro X C Rk
  replace C : CxOk g X cX6_kindsLeft RX6 (Cond.code yX6_kindsLeft cX6_kindsLeft 6 (some .int) :: wsL_law) 6 5 121 := C
  show J g X (osX6 h M) 0 [(0, .ref (h 0 0)), (1, .int x1)] []
  unfold FX6_kindsLeft at hF
  refine j_iconst (v := (0 : Int32)) C dX6_kindsLeft_0 rfl ?_
  refine j_istore_n C [(2, .int (0 : Int32)), (0, .ref (h 0 0)), (1, .int x1)] dX6_kindsLeft_1 rfl (Nat.le_of_ble_eq_true rfl) rfl rfl ?_
  refine j_iconst (v := (1 : Int32)) C dX6_kindsLeft_2 rfl ?_
  refine j_istore_n C [(3, .int (1 : Int32)), (2, .int (0 : Int32)), (0, .ref (h 0 0)), (1, .int x1)] dX6_kindsLeft_3 rfl (Nat.le_of_ble_eq_true rfl) rfl rfl ?_
  refine j_sub [(0, .ref (h 0 0)), (1, .int x1), (2, .int (0 : Int32)), (3, .int (1 : Int32))] [2, 3, 1, 0] rfl ?_
  refine lX6_kindsLeft_4 C h x1 Rk  _ _ _ _ hF
/-! HeadsMeet.node -/
def FX6_node (x1 : Int32) (x2 : Int32) (M : (Nat → Ob)) : Option (Int32 × (Nat → Ob)) :=
  b1 (FX2_kindOf 60 x1 (M 3)) fun r_1 =>
  if r_1 = (-1 : Int32) then
    some ((-101 : Int32), M)
  else
    if x2 < 0 then
      some ((-102 : Int32), M)
    else
      if x2 ≤ (6 : Int32) then
        if (4 : Int32) < x2 then
          if r_1 = 0 then
            some ((-1 : Int32), M)
          else
            b2 (FX6_kindsLeft x1 M) fun r_5 M_6 =>
            if x2 = (5 : Int32) then
              some (r_5, M_6)
            else
              b1 (FX0_bestQuestion r_5 (M_6 10)) fun r_8 =>
              some (r_8, M_6)
        else
          b1 (FX6_toldOfNode x1 x2 M) fun r_3 =>
          some (r_3, M)
      else
        some ((-102 : Int32), M)
set_option maxRecDepth 100000 in
set_option maxHeartbeats 4000000 in
theorem kX6_node (g : Gl) (h : Nat → Nat → Nat) (x1 : Int32) (x2 : Int32) (M : (Nat → Ob)) {r : Int32} {M' : (Nat → Ob)} (hF : FX6_node x1 x2 M = some (r, M')) : Ctr g yX6_node (Cond.code yX6_node cX6_node 5 (some .int) :: wsL_law) 6 146 (osX6 h M) (osX6 h M') [.ref (h 0 0), .int x1, .int x2] (some (.int r)) := by
  refine Ctr.of (cc := cX6_node) (maxL := 5) (ret := (some .int)) (by decide) rfl (Nat.le_of_ble_eq_true rfl) ?_
  intro X C Rk
  replace C : CxOk g X cX6_node RX6 (Cond.code yX6_node cX6_node 5 (some .int) :: wsL_law) 5 6 146 := C
  show J g X (osX6 h M) 0 [(0, .ref (h 0 0)), (1, .int x1), (2, .int x2)] []
  unfold FX6_node at hF
  refine j_aload_n C 0 dX6_node_0 rfl rfl ?_
  refine j_get (h := fun a => h a 0) (v := .ref (h 3 0)) C 0 2 rfl rfl (Nat.le_of_ble_eq_true rfl) rfl rfl in1_X6 (List.mem_cons_of_mem _ mw_1_23) dX6_node_1 ?_
  refine j_iload_n C 1 dX6_node_4 rfl rfl ?_
  obtain ⟨r_1, k_2, hF⟩ := gb1 hF
  refine j_callVi C (os' := (osX6 h M)) [.int x1] (kX2_kindOf g 60 (h 3) x1 (M 3) k_2) [3] rfl rfl rfl rfl 3 rfl rfl (wl_gV mw_19_1 mw_13_12 mw_13_13 mw_1_22 mw_13_14) rfl 1 rfl hd_X2_kindOf ⟨Nat.le_of_ble_eq_true rfl, Nat.le_of_ble_eq_true rfl⟩ (Nat.le_of_ble_eq_true rfl) rfl dX6_node_5 ?_
  refine j_istore_n C [(3, .int r_1), (0, .ref (h 0 0)), (1, .int x1), (2, .int x2)] dX6_node_8 rfl (Nat.le_of_ble_eq_true rfl) rfl rfl ?_
  refine j_iload_n C 0 dX6_node_9 rfl rfl ?_
  refine j_iconst (v := (-1 : Int32)) C dX6_node_10 rfl ?_
  refine j_icmp_ne C 17 dX6_node_11 rfl (fun c_15 => ?_) (fun c_15 => ?_)
  · have hF := (if_neg c_15).symm.trans hF
    refine j_iload_n C 3 dX6_node_17 rfl rfl ?_
    refine j_if_lt C 27 dX6_node_18 rfl (fun c_14 => ?_) (fun c_14 => ?_)
    · have hF := (if_pos c_14).symm.trans hF
      refine j_bipush (v := (-102 : Int32)) C dX6_node_27 rfl ?_
      cases hF
      exact j_iret C Rk dX6_node_29
    · have hF := (if_neg c_14).symm.trans hF
      refine j_iload_n C 3 dX6_node_21 rfl rfl ?_
      refine j_bipush (v := (6 : Int32)) C dX6_node_22 rfl ?_
      refine j_icmp_le C 30 dX6_node_24 rfl (fun c_13 => ?_) (fun c_13 => ?_)
      · have hF := (if_pos c_13).symm.trans hF
        refine j_iload_n C 3 dX6_node_30 rfl rfl ?_
        refine j_iconst (v := (4 : Int32)) C dX6_node_31 rfl ?_
        refine j_icmp_gt C 42 dX6_node_32 rfl (fun c_12 => ?_) (fun c_12 => ?_)
        · have hF := (if_pos c_12).symm.trans hF
          refine j_iload_n C 0 dX6_node_42 rfl rfl ?_
          refine j_if_ne C 48 dX6_node_43 rfl (fun c_11 => ?_) (fun c_11 => ?_)
          · have hF := (if_neg c_11).symm.trans hF
            refine j_aload_n C 1 dX6_node_48 rfl rfl ?_
            refine j_iload_n C 2 dX6_node_49 rfl rfl ?_
            obtain ⟨r_5, M_6, k_7, hF⟩ := gb2 hF
            refine j_callVi (h := fun a => h a 0) C (os' := (osX6 h M_6)) [.int x1] (kX6_kindsLeft g h x1 M k_7) [0, 1, 2, 3, 4, 5, 6, 7, 8, 9, 10] rfl rfl rfl rfl 0 rfl rfl (wl_gV mw_20_2 mw_20_3 mw_20_4 mw_1_2 mw_20_5) rfl 1 rfl hd_X6_kindsLeft ⟨Nat.le_of_ble_eq_true rfl, Nat.le_of_ble_eq_true rfl⟩ (Nat.le_of_ble_eq_true rfl) rfl dX6_node_50 ?_
            refine j_istore C [(4, .int r_5), (3, .int r_1), (0, .ref (h 0 0)), (1, .int x1), (2, .int x2)] dX6_node_53 (Nat.le_of_ble_eq_true rfl) rfl rfl ?_
            refine j_iload_n C 4 dX6_node_55 rfl rfl ?_
            refine j_iconst (v := (5 : Int32)) C dX6_node_56 rfl ?_
            refine j_icmp_ne C 65 dX6_node_57 rfl (fun c_10 => ?_) (fun c_10 => ?_)
            · have hF := (if_neg c_10).symm.trans hF
              refine j_aload_n C 2 dX6_node_65 rfl rfl ?_
              refine j_get (h := fun a => h a 0) (v := .ref (h 10 0)) C 0 9 rfl rfl (Nat.le_of_ble_eq_true rfl) rfl rfl in1_X6 (List.mem_cons_of_mem _ mw_2_15) dX6_node_66 ?_
              refine j_iload C 0 dX6_node_69 rfl ?_
              obtain ⟨r_8, k_9, hF⟩ := gb1 hF
              refine j_callVi C (os' := (osX6 h M_6)) [.int r_5] (kX0_bestQuestion g (h 10) r_5 (M_6 10) k_9) [10] rfl rfl rfl rfl 10 rfl rfl (wl_gV mw_23_11 mw_23_12 mw_23_13 mw_2_14 mw_23_14) rfl 1 rfl hd_X0_bestQuestion ⟨Nat.le_of_ble_eq_true rfl, Nat.le_of_ble_eq_true rfl⟩ (Nat.le_of_ble_eq_true rfl) rfl dX6_node_71 ?_
              cases hF
              exact j_iret C Rk dX6_node_74
            · have hF := (if_pos c_10).symm.trans hF
              refine j_iload C 0 dX6_node_60 rfl ?_
              refine j_goto C 74 dX6_node_62 rfl ?_
              cases hF
              exact j_iret C Rk dX6_node_74
          · have hF := (if_pos c_11).symm.trans hF
            refine j_iconst (v := (-1 : Int32)) C dX6_node_46 rfl ?_
            cases hF
            exact j_iret C Rk dX6_node_47
        · have hF := (if_neg c_12).symm.trans hF
          refine j_aload_n C 1 dX6_node_35 rfl rfl ?_
          refine j_iload_n C 2 dX6_node_36 rfl rfl ?_
          refine j_iload_n C 3 dX6_node_37 rfl rfl ?_
          obtain ⟨r_3, k_4, hF⟩ := gb1 hF
          refine j_callVi (h := fun a => h a 0) C (os' := (osX6 h M)) [.int x1, .int x2] (kX6_toldOfNode g h x1 x2 M k_4) [0, 1, 2, 3, 4, 5, 6, 7, 8, 9, 10] rfl rfl rfl rfl 0 rfl rfl (wl_gV mw_19_2 mw_19_3 mw_19_4 mw_1_2 mw_19_5) rfl 2 rfl hd_X6_toldOfNode ⟨Nat.le_of_ble_eq_true rfl, Nat.le_of_ble_eq_true rfl⟩ (Nat.le_of_ble_eq_true rfl) rfl dX6_node_38 ?_
          cases hF
          exact j_iret C Rk dX6_node_41
      · have hF := (if_neg c_13).symm.trans hF
        refine j_bipush (v := (-102 : Int32)) C dX6_node_27 rfl ?_
        cases hF
        exact j_iret C Rk dX6_node_29
  · have hF := (if_pos c_15).symm.trans hF
    refine j_bipush (v := (-101 : Int32)) C dX6_node_14 rfl ?_
    cases hF
    exact j_iret C Rk dX6_node_16
/-! HeadsMeet.as -/
def FX6_as (x1 : Int32) (x2 : Int32) (M : (Nat → Ob)) : Option (Int32) :=
  b1 (FX2_kindOf 60 x1 (M 3)) fun r_1 =>
  if r_1 = (-1 : Int32) then
    some (-101 : Int32)
  else
    if x2 = 0 then
      some x1
    else
      if x2 = 1 then
        if r_1 = 0 then
          some x1
        else
          some (-1 : Int32)
      else
        if x2 = 2 then
          if r_1 < (1 : Int32) then
            some (-1 : Int32)
          else
            some x1
        else
          if x2 = 3 then
            if r_1 < (2 : Int32) then
              some (-1 : Int32)
            else
              some x1
          else
            if x2 = 4 then
              if r_1 = (3 : Int32) then
                some x1
              else
                some (-1 : Int32)
            else
              some (-102 : Int32)
set_option maxRecDepth 100000 in
set_option maxHeartbeats 4000000 in
theorem kX6_as (g : Gl) (h : Nat → Nat → Nat) (x1 : Int32) (x2 : Int32) (M : (Nat → Ob)) {r : Int32} (hF : FX6_as x1 x2 M = some r) : Ctr g yX6_as (Cond.code yX6_as cX6_as 4 (some .int) :: wsL_law) 1 21 (osX6 h M) (osX6 h M) [.ref (h 0 0), .int x1, .int x2] (some (.int r)) := by
  refine Ctr.of (cc := cX6_as) (maxL := 4) (ret := (some .int)) (by decide) rfl (Nat.le_of_ble_eq_true rfl) ?_
  intro X C Rk
  replace C : CxOk g X cX6_as RX6 (Cond.code yX6_as cX6_as 4 (some .int) :: wsL_law) 4 1 21 := C
  show J g X (osX6 h M) 0 [(0, .ref (h 0 0)), (1, .int x1), (2, .int x2)] []
  unfold FX6_as at hF
  refine j_aload_n C 0 dX6_as_0 rfl rfl ?_
  refine j_get (h := fun a => h a 0) (v := .ref (h 3 0)) C 0 2 rfl rfl (Nat.le_of_ble_eq_true rfl) rfl rfl in1_X6 (List.mem_cons_of_mem _ mw_1_23) dX6_as_1 ?_
  refine j_iload_n C 1 dX6_as_4 rfl rfl ?_
  obtain ⟨r_1, k_2, hF⟩ := gb1 hF
  refine j_callVi C (os' := (osX6 h M)) [.int x1] (kX2_kindOf g 60 (h 3) x1 (M 3) k_2) [3] rfl rfl rfl rfl 3 rfl rfl (wl_gV mw_19_1 mw_13_12 mw_13_13 mw_1_22 mw_13_14) rfl 1 rfl hd_X2_kindOf ⟨Nat.le_of_ble_eq_true rfl, Nat.le_of_ble_eq_true rfl⟩ (Nat.le_of_ble_eq_true rfl) rfl dX6_as_5 ?_
  refine j_istore_n C [(3, .int r_1), (0, .ref (h 0 0)), (1, .int x1), (2, .int x2)] dX6_as_8 rfl (Nat.le_of_ble_eq_true rfl) rfl rfl ?_
  refine j_iload_n C 0 dX6_as_9 rfl rfl ?_
  refine j_iconst (v := (-1 : Int32)) C dX6_as_10 rfl ?_
  refine j_icmp_ne C 17 dX6_as_11 rfl (fun c_12 => ?_) (fun c_12 => ?_)
  · have hF := (if_neg c_12).symm.trans hF
    refine j_iload_n C 3 dX6_as_17 rfl rfl ?_
    by_cases c_3 : x2 = 0
    · have hF := (if_pos c_3).symm.trans hF
      refine j_tableIn (off := 34) C 52 dX6_as_18 (by rw [c_3]; decide) (by rw [c_3]; decide) (by rw [c_3]; rfl) rfl ?_
      refine j_iload_n C 2 dX6_as_52 rfl rfl ?_
      cases hF
      exact j_iret C Rk dX6_as_53
    · have hF := (if_neg c_3).symm.trans hF
      by_cases c_4 : x2 = 1
      · have hF := (if_pos c_4).symm.trans hF
        refine j_tableIn (off := 36) C 54 dX6_as_18 (by rw [c_4]; decide) (by rw [c_4]; decide) (by rw [c_4]; rfl) rfl ?_
        refine j_iload_n C 0 dX6_as_54 rfl rfl ?_
        refine j_if_ne C 62 dX6_as_55 rfl (fun c_11 => ?_) (fun c_11 => ?_)
        · have hF := (if_neg c_11).symm.trans hF
          refine j_iconst (v := (-1 : Int32)) C dX6_as_62 rfl ?_
          cases hF
          exact j_iret C Rk dX6_as_63
        · have hF := (if_pos c_11).symm.trans hF
          refine j_iload_n C 2 dX6_as_58 rfl rfl ?_
          refine j_goto C 63 dX6_as_59 rfl ?_
          cases hF
          exact j_iret C Rk dX6_as_63
      · have hF := (if_neg c_4).symm.trans hF
        by_cases c_5 : x2 = 2
        · have hF := (if_pos c_5).symm.trans hF
          refine j_tableIn (off := 46) C 64 dX6_as_18 (by rw [c_5]; decide) (by rw [c_5]; decide) (by rw [c_5]; rfl) rfl ?_
          refine j_iload_n C 0 dX6_as_64 rfl rfl ?_
          refine j_iconst (v := (1 : Int32)) C dX6_as_65 rfl ?_
          refine j_icmp_lt C 73 dX6_as_66 rfl (fun c_10 => ?_) (fun c_10 => ?_)
          · have hF := (if_pos c_10).symm.trans hF
            refine j_iconst (v := (-1 : Int32)) C dX6_as_73 rfl ?_
            cases hF
            exact j_iret C Rk dX6_as_74
          · have hF := (if_neg c_10).symm.trans hF
            refine j_iload_n C 2 dX6_as_69 rfl rfl ?_
            refine j_goto C 74 dX6_as_70 rfl ?_
            cases hF
            exact j_iret C Rk dX6_as_74
        · have hF := (if_neg c_5).symm.trans hF
          by_cases c_6 : x2 = 3
          · have hF := (if_pos c_6).symm.trans hF
            refine j_tableIn (off := 57) C 75 dX6_as_18 (by rw [c_6]; decide) (by rw [c_6]; decide) (by rw [c_6]; rfl) rfl ?_
            refine j_iload_n C 0 dX6_as_75 rfl rfl ?_
            refine j_iconst (v := (2 : Int32)) C dX6_as_76 rfl ?_
            refine j_icmp_lt C 84 dX6_as_77 rfl (fun c_9 => ?_) (fun c_9 => ?_)
            · have hF := (if_pos c_9).symm.trans hF
              refine j_iconst (v := (-1 : Int32)) C dX6_as_84 rfl ?_
              cases hF
              exact j_iret C Rk dX6_as_85
            · have hF := (if_neg c_9).symm.trans hF
              refine j_iload_n C 2 dX6_as_80 rfl rfl ?_
              refine j_goto C 85 dX6_as_81 rfl ?_
              cases hF
              exact j_iret C Rk dX6_as_85
          · have hF := (if_neg c_6).symm.trans hF
            by_cases c_7 : x2 = 4
            · have hF := (if_pos c_7).symm.trans hF
              refine j_tableIn (off := 68) C 86 dX6_as_18 (by rw [c_7]; decide) (by rw [c_7]; decide) (by rw [c_7]; rfl) rfl ?_
              refine j_iload_n C 0 dX6_as_86 rfl rfl ?_
              refine j_iconst (v := (3 : Int32)) C dX6_as_87 rfl ?_
              refine j_icmp_ne C 95 dX6_as_88 rfl (fun c_8 => ?_) (fun c_8 => ?_)
              · have hF := (if_neg c_8).symm.trans hF
                refine j_iconst (v := (-1 : Int32)) C dX6_as_95 rfl ?_
                cases hF
                exact j_iret C Rk dX6_as_96
              · have hF := (if_pos c_8).symm.trans hF
                refine j_iload_n C 2 dX6_as_91 rfl rfl ?_
                refine j_goto C 96 dX6_as_92 rfl ?_
                cases hF
                exact j_iret C Rk dX6_as_96
            · have hF := (if_neg c_7).symm.trans hF
              refine j_tableOut C 97 dX6_as_18 (by have q0 := ne_i c_3 (a := 0) rfl; have q1 := ne_i c_4 (a := 1) rfl; have q2 := ne_i c_5 (a := 2) rfl; have q3 := ne_i c_6 (a := 3) rfl; have q4 := ne_i c_7 (a := 4) rfl; omega) rfl ?_
              refine j_bipush (v := (-102 : Int32)) C dX6_as_97 rfl ?_
              cases hF
              exact j_iret C Rk dX6_as_99
  · have hF := (if_pos c_12).symm.trans hF
    refine j_bipush (v := (-101 : Int32)) C dX6_as_14 rfl ?_
    cases hF
    exact j_iret C Rk dX6_as_16
/-! HeadsMeet.open -/
def FX6_open (x1 : Int32) (M : (Nat → Ob)) : Option (Int32) :=
  b1 (FX2_isOpen 60 x1 (M 3)) fun r_1 =>
  if r_1 = 0 then
    some (-101 : Int32)
  else
    b1 (FX2_toldAcross 60 x1 (M 3)) fun r_3 =>
    some r_3
set_option maxRecDepth 100000 in
set_option maxHeartbeats 4000000 in
theorem kX6_open (g : Gl) (h : Nat → Nat → Nat) (x1 : Int32) (M : (Nat → Ob)) {r : Int32} (hF : FX6_open x1 M = some r) : Ctr g yX6_open (Cond.code yX6_open cX6_open 2 (some .int) :: wsL_law) 2 43 (osX6 h M) (osX6 h M) [.ref (h 0 0), .int x1] (some (.int r)) := by
  refine Ctr.of (cc := cX6_open) (maxL := 2) (ret := (some .int)) (by decide) rfl (Nat.le_of_ble_eq_true rfl) ?_
  intro X C Rk
  replace C : CxOk g X cX6_open RX6 (Cond.code yX6_open cX6_open 2 (some .int) :: wsL_law) 2 2 43 := C
  show J g X (osX6 h M) 0 [(0, .ref (h 0 0)), (1, .int x1)] []
  unfold FX6_open at hF
  refine j_aload_n C 0 dX6_open_0 rfl rfl ?_
  refine j_get (h := fun a => h a 0) (v := .ref (h 3 0)) C 0 2 rfl rfl (Nat.le_of_ble_eq_true rfl) rfl rfl in1_X6 (List.mem_cons_of_mem _ mw_1_23) dX6_open_1 ?_
  refine j_iload_n C 1 dX6_open_4 rfl rfl ?_
  obtain ⟨r_1, k_2, hF⟩ := gb1 hF
  refine j_callVi C (os' := (osX6 h M)) [.int x1] (kX2_isOpen g 60 (h 3) x1 (M 3) k_2) [3] rfl rfl rfl rfl 3 rfl rfl (wl_gV mw_29_9 mw_29_10 mw_29_11 mw_1_22 mw_29_12) rfl 1 rfl hd_X2_isOpen ⟨Nat.le_of_ble_eq_true rfl, Nat.le_of_ble_eq_true rfl⟩ (Nat.le_of_ble_eq_true rfl) rfl dX6_open_5 ?_
  refine j_if_eq C 22 dX6_open_8 rfl (fun c_5 => ?_) (fun c_5 => ?_)
  · have hF := (if_pos c_5).symm.trans hF
    refine j_bipush (v := (-101 : Int32)) C dX6_open_22 rfl ?_
    cases hF
    exact j_iret C Rk dX6_open_24
  · have hF := (if_neg c_5).symm.trans hF
    refine j_aload_n C 0 dX6_open_11 rfl rfl ?_
    refine j_get (h := fun a => h a 0) (v := .ref (h 3 0)) C 0 2 rfl rfl (Nat.le_of_ble_eq_true rfl) rfl rfl in1_X6 (List.mem_cons_of_mem _ mw_1_23) dX6_open_12 ?_
    refine j_iload_n C 1 dX6_open_15 rfl rfl ?_
    obtain ⟨r_3, k_4, hF⟩ := gb1 hF
    refine j_callVi C (os' := (osX6 h M)) [.int x1] (kX2_toldAcross g 60 (h 3) x1 (M 3) k_4) [3] rfl rfl rfl rfl 3 rfl rfl (wl_gV mw_19_22 mw_19_23 mw_20_0 mw_1_22 mw_20_1) rfl 1 rfl hd_X2_toldAcross ⟨Nat.le_of_ble_eq_true rfl, Nat.le_of_ble_eq_true rfl⟩ (Nat.le_of_ble_eq_true rfl) rfl dX6_open_16 ?_
    refine j_goto C 24 dX6_open_19 rfl ?_
    cases hF
    exact j_iret C Rk dX6_open_24
/-! HeadsMeet.meetings -/
def BX6_meetings_29 (x1 : Int32) (x2 : Int32) (M : (Nat → Ob)) : Option (Int32 × (Nat → Ob)) :=
  if (oV (M 0) 10) = 0 then
    some ((-103 : Int32), M)
  else
    b2 (FX2_listMeetings 60 (M 3)) fun r_1 s_2 =>
    lT (sM M 3 s_2) fun M_4 =>
    if x2 = 0 then
      some (r_1, M_4)
    else
      b1 (FX2_listedAt 60 (x1 - (10 : Int32)) (M_4 3)) fun r_6 =>
      some (r_6, M_4)
def FX6_meetings (x1 : Int32) (M : (Nat → Ob)) : Option (Int32 × (Nat → Ob)) :=
  if x1 < (10 : Int32) then
    if x1 = 0 then
      BX6_meetings_29 x1 (0 : Int32) M
    else
      if (0 : Int32) = 0 then
        some ((-102 : Int32), M)
      else
        BX6_meetings_29 x1 (0 : Int32) M
  else
    if (39 : Int32) < x1 then
      if x1 = 0 then
        BX6_meetings_29 x1 (0 : Int32) M
      else
        if (0 : Int32) = 0 then
          some ((-102 : Int32), M)
        else
          BX6_meetings_29 x1 (0 : Int32) M
    else
      if x1 = 0 then
        BX6_meetings_29 x1 (1 : Int32) M
      else
        if (1 : Int32) = 0 then
          some ((-102 : Int32), M)
        else
          BX6_meetings_29 x1 (1 : Int32) M
set_option maxRecDepth 100000 in
set_option maxHeartbeats 4000000 in
theorem bX6_meetings_29 {g : Gl} {X : Cxt} (C : CxOk g X cX6_meetings RX6 (Cond.code yX6_meetings cX6_meetings 4 (some .int) :: wsL_law) 4 1 24) {r : Int32} {M' : (Nat → Ob)} (h : Nat → Nat → Nat) (x1 : Int32) (x2 : Int32) (M : (Nat → Ob))  (Rk : RetOk g X (osX6 h M') (some (.int r)) (some .int))  (hF : BX6_meetings_29  x1 x2 M = some (r, M')) : J g X (osX6 h M) 29 [(0, .ref (h 0 0)), (1, .int x1), (2, .int x2)] [] := by
  unfold BX6_meetings_29 at hF
  refine j_aload_n C 0 dX6_meetings_29 rfl rfl ?_
  refine j_get (h := fun a => h a 0) (v := .int (oV (M 0) 10)) C 0 10 rfl rfl (Nat.le_of_ble_eq_true rfl) rfl rfl in1_X6 (List.mem_cons_of_mem _ mw_16_9) dX6_meetings_30 ?_
  refine j_if_ne C 39 dX6_meetings_33 rfl (fun c_9 => ?_) (fun c_9 => ?_)
  · have hF := (if_neg c_9).symm.trans hF
    refine j_aload_n C 0 dX6_meetings_39 rfl rfl ?_
    refine j_get (h := fun a => h a 0) (v := .ref (h 3 0)) C 0 2 rfl rfl (Nat.le_of_ble_eq_true rfl) rfl rfl in1_X6 (List.mem_cons_of_mem _ mw_1_23) dX6_meetings_40 ?_
    obtain ⟨r_1, s_2, k_3, hF⟩ := gb2 hF
    obtain ⟨M_4, e_5, hF⟩ := glT hF
    refine j_callVi C (os' := (osX6 h M_4)) [] (kX2_listMeetings g 60 (h 3) (M 3) k_3) [3] rfl rfl rfl (by rw [e_5]; rfl) 3 rfl rfl (wl_gV mw_30_1 mw_20_16 mw_20_17 mw_1_22 mw_20_18) rfl 0 rfl hd_X2_listMeetings ⟨Nat.le_of_ble_eq_true rfl, Nat.le_of_ble_eq_true rfl⟩ (Nat.le_of_ble_eq_true rfl) rfl dX6_meetings_43 ?_
    refine j_istore_n C [(3, .int r_1), (0, .ref (h 0 0)), (1, .int x1), (2, .int x2)] dX6_meetings_46 rfl (Nat.le_of_ble_eq_true rfl) rfl rfl ?_
    refine j_iload_n C 3 dX6_meetings_47 rfl rfl ?_
    refine j_if_eq C 65 dX6_meetings_48 rfl (fun c_8 => ?_) (fun c_8 => ?_)
    · have hF := (if_pos c_8).symm.trans hF
      refine j_iload_n C 0 dX6_meetings_65 rfl rfl ?_
      cases hF
      exact j_iret C Rk dX6_meetings_66
    · have hF := (if_neg c_8).symm.trans hF
      refine j_aload_n C 1 dX6_meetings_51 rfl rfl ?_
      refine j_get (h := fun a => h a 0) (v := .ref (h 3 0)) C 0 2 rfl rfl (Nat.le_of_ble_eq_true rfl) rfl rfl in1_X6 (List.mem_cons_of_mem _ mw_1_23) dX6_meetings_52 ?_
      refine j_iload_n C 2 dX6_meetings_55 rfl rfl ?_
      refine j_bipush (v := (10 : Int32)) C dX6_meetings_56 rfl ?_
      refine j_isub C dX6_meetings_58 ?_
      obtain ⟨r_6, k_7, hF⟩ := gb1 hF
      refine j_callVi C (os' := (osX6 h M_4)) [.int (x1 - (10 : Int32))] (kX2_listedAt g 60 (h 3) (x1 - (10 : Int32)) (M_4 3) k_7) [3] rfl rfl rfl rfl 3 rfl rfl (wl_gV mw_30_2 mw_20_21 mw_20_22 mw_1_22 mw_20_23) rfl 1 rfl hd_X2_listedAt ⟨Nat.le_of_ble_eq_true rfl, Nat.le_of_ble_eq_true rfl⟩ (Nat.le_of_ble_eq_true rfl) rfl dX6_meetings_59 ?_
      refine j_goto C 66 dX6_meetings_62 rfl ?_
      cases hF
      exact j_iret C Rk dX6_meetings_66
  · have hF := (if_pos c_9).symm.trans hF
    refine j_bipush (v := (-103 : Int32)) C dX6_meetings_36 rfl ?_
    cases hF
    exact j_iret C Rk dX6_meetings_38
set_option maxRecDepth 100000 in
set_option maxHeartbeats 4000000 in
theorem kX6_meetings (g : Gl) (h : Nat → Nat → Nat) (x1 : Int32) (M : (Nat → Ob)) {r : Int32} {M' : (Nat → Ob)} (hF : FX6_meetings x1 M = some (r, M')) : Ctr g yX6_meetings (Cond.code yX6_meetings cX6_meetings 4 (some .int) :: wsL_law) 1 24 (osX6 h M) (osX6 h M') [.ref (h 0 0), .int x1] (some (.int r)) := by
  refine Ctr.of (cc := cX6_meetings) (maxL := 4) (ret := (some .int)) (by decide) rfl (Nat.le_of_ble_eq_true rfl) ?_
  intro X C Rk
  replace C : CxOk g X cX6_meetings RX6 (Cond.code yX6_meetings cX6_meetings 4 (some .int) :: wsL_law) 4 1 24 := C
  show J g X (osX6 h M) 0 [(0, .ref (h 0 0)), (1, .int x1)] []
  unfold FX6_meetings at hF
  refine j_iload_n C 1 dX6_meetings_0 rfl rfl ?_
  refine j_bipush (v := (10 : Int32)) C dX6_meetings_1 rfl ?_
  refine j_icmp_lt C 16 dX6_meetings_3 rfl (fun c_17 => ?_) (fun c_17 => ?_)
  · have hF := (if_pos c_17).symm.trans hF
    refine j_iconst (v := (0 : Int32)) C dX6_meetings_16 rfl ?_
    refine j_istore_n C [(2, .int (0 : Int32)), (0, .ref (h 0 0)), (1, .int x1)] dX6_meetings_17 rfl (Nat.le_of_ble_eq_true rfl) rfl rfl ?_
    refine j_iload_n C 2 dX6_meetings_18 rfl rfl ?_
    refine j_if_eq C 29 dX6_meetings_19 rfl (fun c_16 => ?_) (fun c_16 => ?_)
    · have hF := (if_pos c_16).symm.trans hF
      refine j_sub [(0, .ref (h 0 0)), (1, .int x1), (2, .int (0 : Int32))] [1, 2, 0] rfl ?_
      exact bX6_meetings_29 C h _ _ _ Rk  hF
    · have hF := (if_neg c_16).symm.trans hF
      refine j_iload_n C 0 dX6_meetings_22 rfl rfl ?_
      refine j_if_ne C 29 dX6_meetings_23 rfl (fun c_15 => ?_) (fun c_15 => ?_)
      · have hF := (if_neg c_15).symm.trans hF
        refine j_sub [(0, .ref (h 0 0)), (1, .int x1), (2, .int (0 : Int32))] [1, 2, 0] rfl ?_
        exact bX6_meetings_29 C h _ _ _ Rk  hF
      · have hF := (if_pos c_15).symm.trans hF
        refine j_bipush (v := (-102 : Int32)) C dX6_meetings_26 rfl ?_
        cases hF
        exact j_iret C Rk dX6_meetings_28
  · have hF := (if_neg c_17).symm.trans hF
    refine j_iload_n C 1 dX6_meetings_6 rfl rfl ?_
    refine j_bipush (v := (39 : Int32)) C dX6_meetings_7 rfl ?_
    refine j_icmp_gt C 16 dX6_meetings_9 rfl (fun c_14 => ?_) (fun c_14 => ?_)
    · have hF := (if_pos c_14).symm.trans hF
      refine j_iconst (v := (0 : Int32)) C dX6_meetings_16 rfl ?_
      refine j_istore_n C [(2, .int (0 : Int32)), (0, .ref (h 0 0)), (1, .int x1)] dX6_meetings_17 rfl (Nat.le_of_ble_eq_true rfl) rfl rfl ?_
      refine j_iload_n C 2 dX6_meetings_18 rfl rfl ?_
      refine j_if_eq C 29 dX6_meetings_19 rfl (fun c_13 => ?_) (fun c_13 => ?_)
      · have hF := (if_pos c_13).symm.trans hF
        refine j_sub [(0, .ref (h 0 0)), (1, .int x1), (2, .int (0 : Int32))] [1, 2, 0] rfl ?_
        exact bX6_meetings_29 C h _ _ _ Rk  hF
      · have hF := (if_neg c_13).symm.trans hF
        refine j_iload_n C 0 dX6_meetings_22 rfl rfl ?_
        refine j_if_ne C 29 dX6_meetings_23 rfl (fun c_12 => ?_) (fun c_12 => ?_)
        · have hF := (if_neg c_12).symm.trans hF
          refine j_sub [(0, .ref (h 0 0)), (1, .int x1), (2, .int (0 : Int32))] [1, 2, 0] rfl ?_
          exact bX6_meetings_29 C h _ _ _ Rk  hF
        · have hF := (if_pos c_12).symm.trans hF
          refine j_bipush (v := (-102 : Int32)) C dX6_meetings_26 rfl ?_
          cases hF
          exact j_iret C Rk dX6_meetings_28
    · have hF := (if_neg c_14).symm.trans hF
      refine j_iconst (v := (1 : Int32)) C dX6_meetings_12 rfl ?_
      refine j_goto C 17 dX6_meetings_13 rfl ?_
      refine j_istore_n C [(2, .int (1 : Int32)), (0, .ref (h 0 0)), (1, .int x1)] dX6_meetings_17 rfl (Nat.le_of_ble_eq_true rfl) rfl rfl ?_
      refine j_iload_n C 2 dX6_meetings_18 rfl rfl ?_
      refine j_if_eq C 29 dX6_meetings_19 rfl (fun c_11 => ?_) (fun c_11 => ?_)
      · have hF := (if_pos c_11).symm.trans hF
        refine j_sub [(0, .ref (h 0 0)), (1, .int x1), (2, .int (1 : Int32))] [1, 2, 0] rfl ?_
        exact bX6_meetings_29 C h _ _ _ Rk  hF
      · have hF := (if_neg c_11).symm.trans hF
        refine j_iload_n C 0 dX6_meetings_22 rfl rfl ?_
        refine j_if_ne C 29 dX6_meetings_23 rfl (fun c_10 => ?_) (fun c_10 => ?_)
        · have hF := (if_neg c_10).symm.trans hF
          refine j_sub [(0, .ref (h 0 0)), (1, .int x1), (2, .int (1 : Int32))] [1, 2, 0] rfl ?_
          exact bX6_meetings_29 C h _ _ _ Rk  hF
        · have hF := (if_pos c_10).symm.trans hF
          refine j_bipush (v := (-102 : Int32)) C dX6_meetings_26 rfl ?_
          cases hF
          exact j_iret C Rk dX6_meetings_28
/-! HeadsMeet.hasRoomFor -/
def FX6_hasRoomFor (x1 : Int32) (M : (Nat → Ob)) : Option (Int32) :=
  b1 (FX2_kindOf 60 x1 (M 3)) fun r_1 =>
  b1 (FX2_partnerOf 60 x1 (M 3)) fun r_3 =>
  b1 (FX2_kindOf 60 r_3 (M 3)) fun r_5 =>
  b1 (FX2_sortOf r_1 r_5) fun r_7 =>
  if r_7 = (2 : Int32) then
    b1 (FX2_nodes 60 (M 3)) fun r_9 =>
    if (60 : Int32) < (r_9 + (2 : Int32)) then
      some (0 : Int32)
    else
      some (1 : Int32)
  else
    some (1 : Int32)
set_option maxRecDepth 100000 in
set_option maxHeartbeats 4000000 in
theorem kX6_hasRoomFor (g : Gl) (h : Nat → Nat → Nat) (x1 : Int32) (M : (Nat → Ob)) {r : Int32} (hF : FX6_hasRoomFor x1 M = some r) : Ctr g yX6_hasRoomFor (Cond.code yX6_hasRoomFor cX6_hasRoomFor 3 (some .boolean) :: wsL_law) 3 62 (osX6 h M) (osX6 h M) [.ref (h 0 0), .int x1] (some (.int r)) := by
  refine Ctr.of (cc := cX6_hasRoomFor) (maxL := 3) (ret := (some .boolean)) (by decide) rfl (Nat.le_of_ble_eq_true rfl) ?_
  intro X C Rk
  replace C : CxOk g X cX6_hasRoomFor RX6 (Cond.code yX6_hasRoomFor cX6_hasRoomFor 3 (some .boolean) :: wsL_law) 3 3 62 := C
  show J g X (osX6 h M) 0 [(0, .ref (h 0 0)), (1, .int x1)] []
  unfold FX6_hasRoomFor at hF
  refine j_aload_n C 0 dX6_hasRoomFor_0 rfl rfl ?_
  refine j_get (h := fun a => h a 0) (v := .ref (h 3 0)) C 0 2 rfl rfl (Nat.le_of_ble_eq_true rfl) rfl rfl in1_X6 (List.mem_cons_of_mem _ mw_1_23) dX6_hasRoomFor_1 ?_
  refine j_iload_n C 1 dX6_hasRoomFor_4 rfl rfl ?_
  obtain ⟨r_1, k_2, hF⟩ := gb1 hF
  refine j_callVi C (os' := (osX6 h M)) [.int x1] (kX2_kindOf g 60 (h 3) x1 (M 3) k_2) [3] rfl rfl rfl rfl 3 rfl rfl (wl_gV mw_19_1 mw_13_12 mw_13_13 mw_1_22 mw_13_14) rfl 1 rfl hd_X2_kindOf ⟨Nat.le_of_ble_eq_true rfl, Nat.le_of_ble_eq_true rfl⟩ (Nat.le_of_ble_eq_true rfl) rfl dX6_hasRoomFor_5 ?_
  refine j_aload_n C 0 dX6_hasRoomFor_8 rfl rfl ?_
  refine j_get (h := fun a => h a 0) (v := .ref (h 3 0)) C 0 2 rfl rfl (Nat.le_of_ble_eq_true rfl) rfl rfl in1_X6 (List.mem_cons_of_mem _ mw_1_23) dX6_hasRoomFor_9 ?_
  refine j_aload_n C 0 dX6_hasRoomFor_12 rfl rfl ?_
  refine j_get (h := fun a => h a 0) (v := .ref (h 3 0)) C 0 2 rfl rfl (Nat.le_of_ble_eq_true rfl) rfl rfl in1_X6 (List.mem_cons_of_mem _ mw_1_23) dX6_hasRoomFor_13 ?_
  refine j_iload_n C 1 dX6_hasRoomFor_16 rfl rfl ?_
  obtain ⟨r_3, k_4, hF⟩ := gb1 hF
  refine j_callVi C (os' := (osX6 h M)) [.int x1] (kX2_partnerOf g 60 (h 3) x1 (M 3) k_4) [3] rfl rfl rfl rfl 3 rfl rfl (wl_gV mw_19_6 mw_19_7 mw_19_8 mw_1_22 mw_19_9) rfl 1 rfl hd_X2_partnerOf ⟨Nat.le_of_ble_eq_true rfl, Nat.le_of_ble_eq_true rfl⟩ (Nat.le_of_ble_eq_true rfl) rfl dX6_hasRoomFor_17 ?_
  obtain ⟨r_5, k_6, hF⟩ := gb1 hF
  refine j_callVi C (os' := (osX6 h M)) [.int r_3] (kX2_kindOf g 60 (h 3) r_3 (M 3) k_6) [3] rfl rfl rfl rfl 3 rfl rfl (wl_gV mw_19_1 mw_13_12 mw_13_13 mw_1_22 mw_13_14) rfl 1 rfl hd_X2_kindOf ⟨Nat.le_of_ble_eq_true rfl, Nat.le_of_ble_eq_true rfl⟩ (Nat.le_of_ble_eq_true rfl) rfl dX6_hasRoomFor_20 ?_
  obtain ⟨r_7, k_8, hF⟩ := gb1 hF
  refine j_callSi C (os' := (osX6 h M)) [.int r_1, .int r_5] (kX2_sortOf g r_1 r_5 k_8) [] rfl rfl rfl rfl (wl_gS mw_30_19 mw_21_6 mw_1_22 mw_21_7) rfl 2 rfl hd_X2_sortOf ⟨Nat.le_of_ble_eq_true rfl, Nat.le_of_ble_eq_true rfl⟩ (Nat.le_of_ble_eq_true rfl) rfl dX6_hasRoomFor_23 ?_
  refine j_istore_n C [(2, .int r_7), (0, .ref (h 0 0)), (1, .int x1)] dX6_hasRoomFor_26 rfl (Nat.le_of_ble_eq_true rfl) rfl rfl ?_
  refine j_iload_n C 0 dX6_hasRoomFor_27 rfl rfl ?_
  refine j_iconst (v := (2 : Int32)) C dX6_hasRoomFor_28 rfl ?_
  refine j_icmp_ne C 46 dX6_hasRoomFor_29 rfl (fun c_12 => ?_) (fun c_12 => ?_)
  · have hF := (if_neg c_12).symm.trans hF
    refine j_iconst (v := (1 : Int32)) C dX6_hasRoomFor_46 rfl ?_
    refine j_goto C 51 dX6_hasRoomFor_47 rfl ?_
    cases hF
    exact j_zret C rfl Rk dX6_hasRoomFor_51
  · have hF := (if_pos c_12).symm.trans hF
    refine j_aload_n C 1 dX6_hasRoomFor_32 rfl rfl ?_
    refine j_get (h := fun a => h a 0) (v := .ref (h 3 0)) C 0 2 rfl rfl (Nat.le_of_ble_eq_true rfl) rfl rfl in1_X6 (List.mem_cons_of_mem _ mw_1_23) dX6_hasRoomFor_33 ?_
    obtain ⟨r_9, k_10, hF⟩ := gb1 hF
    refine j_callVi C (os' := (osX6 h M)) [] (kX2_nodes g 60 (h 3) (M 3) k_10) [3] rfl rfl rfl rfl 3 rfl rfl (wl_gV mw_16_16 mw_16_17 mw_16_18 mw_1_22 mw_16_19) rfl 0 rfl hd_X2_nodes ⟨Nat.le_of_ble_eq_true rfl, Nat.le_of_ble_eq_true rfl⟩ (Nat.le_of_ble_eq_true rfl) rfl dX6_hasRoomFor_36 ?_
    refine j_iconst (v := (2 : Int32)) C dX6_hasRoomFor_39 rfl ?_
    refine j_iadd C dX6_hasRoomFor_40 ?_
    refine j_bipush (v := (60 : Int32)) C dX6_hasRoomFor_41 rfl ?_
    refine j_icmp_gt C 50 dX6_hasRoomFor_43 rfl (fun c_11 => ?_) (fun c_11 => ?_)
    · have hF := (if_pos c_11).symm.trans hF
      refine j_iconst (v := (0 : Int32)) C dX6_hasRoomFor_50 rfl ?_
      cases hF
      exact j_zret C rfl Rk dX6_hasRoomFor_51
    · have hF := (if_neg c_11).symm.trans hF
      refine j_iconst (v := (1 : Int32)) C dX6_hasRoomFor_46 rfl ?_
      refine j_goto C 51 dX6_hasRoomFor_47 rfl ?_
      cases hF
      exact j_zret C rfl Rk dX6_hasRoomFor_51
/-! HeadsMeet.meet -/
def FX6_meet (x1 : Int32) (M : (Nat → Ob)) : Option (Int32 × (Nat → Ob)) :=
  b2 (FX2_listMeetings 60 (M 3)) fun r_1 s_2 =>
  lT (sM M 3 s_2) fun M_4 =>
  b1 (FX2_listedAt 60 x1 (M_4 3)) fun r_6 =>
  if r_6 = (-1 : Int32) then
    some ((-101 : Int32), M_4)
  else
    b1 (FX6_hasRoomFor r_6 M_4) fun r_8 =>
    if r_8 = 0 then
      some ((-104 : Int32), M_4)
    else
      b2 (FX2_perform 60 r_6 (M_4 3)) fun r_10 s_11 =>
      lT (sM M_4 3 s_11) fun M_13 =>
      some (r_10, M_13)
set_option maxRecDepth 100000 in
set_option maxHeartbeats 4000000 in
theorem kX6_meet (g : Gl) (h : Nat → Nat → Nat) (x1 : Int32) (M : (Nat → Ob)) {r : Int32} {M' : (Nat → Ob)} (hF : FX6_meet x1 M = some (r, M')) : Ctr g yX6_meet (Cond.code yX6_meet cX6_meet 3 (some .int) :: wsL_law) 4 98 (osX6 h M) (osX6 h M') [.ref (h 0 0), .int x1] (some (.int r)) := by
  refine Ctr.of (cc := cX6_meet) (maxL := 3) (ret := (some .int)) (by decide) rfl (Nat.le_of_ble_eq_true rfl) ?_
  intro X C Rk
  replace C : CxOk g X cX6_meet RX6 (Cond.code yX6_meet cX6_meet 3 (some .int) :: wsL_law) 3 4 98 := C
  show J g X (osX6 h M) 0 [(0, .ref (h 0 0)), (1, .int x1)] []
  unfold FX6_meet at hF
  refine j_aload_n C 0 dX6_meet_0 rfl rfl ?_
  refine j_get (h := fun a => h a 0) (v := .ref (h 3 0)) C 0 2 rfl rfl (Nat.le_of_ble_eq_true rfl) rfl rfl in1_X6 (List.mem_cons_of_mem _ mw_1_23) dX6_meet_1 ?_
  obtain ⟨r_1, s_2, k_3, hF⟩ := gb2 hF
  obtain ⟨M_4, e_5, hF⟩ := glT hF
  refine j_callVi C (os' := (osX6 h M_4)) [] (kX2_listMeetings g 60 (h 3) (M 3) k_3) [3] rfl rfl rfl (by rw [e_5]; rfl) 3 rfl rfl (wl_gV mw_30_1 mw_20_16 mw_20_17 mw_1_22 mw_20_18) rfl 0 rfl hd_X2_listMeetings ⟨Nat.le_of_ble_eq_true rfl, Nat.le_of_ble_eq_true rfl⟩ (Nat.le_of_ble_eq_true rfl) rfl dX6_meet_4 ?_
  refine j_pop C rfl dX6_meet_7 ?_
  refine j_aload_n C 0 dX6_meet_8 rfl rfl ?_
  refine j_get (h := fun a => h a 0) (v := .ref (h 3 0)) C 0 2 rfl rfl (Nat.le_of_ble_eq_true rfl) rfl rfl in1_X6 (List.mem_cons_of_mem _ mw_1_23) dX6_meet_9 ?_
  refine j_iload_n C 1 dX6_meet_12 rfl rfl ?_
  obtain ⟨r_6, k_7, hF⟩ := gb1 hF
  refine j_callVi C (os' := (osX6 h M_4)) [.int x1] (kX2_listedAt g 60 (h 3) x1 (M_4 3) k_7) [3] rfl rfl rfl rfl 3 rfl rfl (wl_gV mw_30_2 mw_20_21 mw_20_22 mw_1_22 mw_20_23) rfl 1 rfl hd_X2_listedAt ⟨Nat.le_of_ble_eq_true rfl, Nat.le_of_ble_eq_true rfl⟩ (Nat.le_of_ble_eq_true rfl) rfl dX6_meet_13 ?_
  refine j_istore_n C [(2, .int r_6), (0, .ref (h 0 0)), (1, .int x1)] dX6_meet_16 rfl (Nat.le_of_ble_eq_true rfl) rfl rfl ?_
  refine j_iload_n C 0 dX6_meet_17 rfl rfl ?_
  refine j_iconst (v := (-1 : Int32)) C dX6_meet_18 rfl ?_
  refine j_icmp_ne C 25 dX6_meet_19 rfl (fun c_16 => ?_) (fun c_16 => ?_)
  · have hF := (if_neg c_16).symm.trans hF
    refine j_aload_n C 1 dX6_meet_25 rfl rfl ?_
    refine j_iload_n C 0 dX6_meet_26 rfl rfl ?_
    obtain ⟨r_8, k_9, hF⟩ := gb1 hF
    refine j_callVi (h := fun a => h a 0) C (os' := (osX6 h M_4)) [.int r_6] (kX6_hasRoomFor g h r_6 M_4 k_9) [0, 1, 2, 3, 4, 5, 6, 7, 8, 9, 10] rfl rfl rfl rfl 0 rfl rfl (wl_gV mw_30_15 mw_30_16 mw_30_17 mw_1_2 mw_30_18) rfl 1 rfl hd_X6_hasRoomFor ⟨Nat.le_of_ble_eq_true rfl, Nat.le_of_ble_eq_true rfl⟩ (Nat.le_of_ble_eq_true rfl) rfl dX6_meet_27 ?_
    refine j_if_eq C 44 dX6_meet_30 rfl (fun c_15 => ?_) (fun c_15 => ?_)
    · have hF := (if_pos c_15).symm.trans hF
      refine j_bipush (v := (-104 : Int32)) C dX6_meet_44 rfl ?_
      cases hF
      exact j_iret C Rk dX6_meet_46
    · have hF := (if_neg c_15).symm.trans hF
      refine j_aload_n C 1 dX6_meet_33 rfl rfl ?_
      refine j_get (h := fun a => h a 0) (v := .ref (h 3 0)) C 0 2 rfl rfl (Nat.le_of_ble_eq_true rfl) rfl rfl in1_X6 (List.mem_cons_of_mem _ mw_1_23) dX6_meet_34 ?_
      refine j_iload_n C 0 dX6_meet_37 rfl rfl ?_
      obtain ⟨r_10, s_11, k_12, hF⟩ := gb2 hF
      obtain ⟨M_13, e_14, hF⟩ := glT hF
      refine j_callVi C (os' := (osX6 h M_13)) [.int r_6] (kX2_perform g 60 (h 3) r_6 (M_4 3) k_12) [3] rfl rfl rfl (by rw [e_14]; rfl) 3 rfl rfl (wl_gV mw_30_20 mw_21_1 mw_21_2 mw_1_22 mw_21_3) rfl 1 rfl hd_X2_perform ⟨Nat.le_of_ble_eq_true rfl, Nat.le_of_ble_eq_true rfl⟩ (Nat.le_of_ble_eq_true rfl) rfl dX6_meet_38 ?_
      refine j_goto C 46 dX6_meet_41 rfl ?_
      cases hF
      exact j_iret C Rk dX6_meet_46
  · have hF := (if_pos c_16).symm.trans hF
    refine j_bipush (v := (-101 : Int32)) C dX6_meet_22 rfl ?_
    cases hF
    exact j_iret C Rk dX6_meet_24
/-! HeadsMeet.run -/
def LX6_run_26 (x1 : Int32) : Nat → Int32 → (Nat → Ob) → Option (Int32 × (Nat → Ob))
  | 0, _, _ => none
  | n + 1, x2, M =>
    if x1 ≤ x2 then
      some (x1, M)
    else
      b2 (FX2_listMeetings 60 (M 3)) fun r_1 s_2 =>
      lT (sM M 3 s_2) fun M_4 =>
      b1 (FX2_listedAt 60 (0 : Int32) (M_4 3)) fun r_6 =>
      if r_6 = (-1 : Int32) then
        some (x2, M_4)
      else
        b1 (FX6_hasRoomFor r_6 M_4) fun r_8 =>
        if r_8 = 0 then
          some (x2, M_4)
        else
          b2 (FX2_perform 60 r_6 (M_4 3)) fun r_10 s_11 =>
          lT (sM M_4 3 s_11) fun M_13 =>
          lT (x2 + (1 : Int32)) fun x2_15 =>
          LX6_run_26 x1 n x2_15 M_13
def FX6_run (x1 : Int32) (M : (Nat → Ob)) : Option (Int32 × (Nat → Ob)) :=
  if x1 < (1 : Int32) then
    some ((-102 : Int32), M)
  else
    if x1 ≤ (60 : Int32) then
      if (oV (M 0) 10) = 0 then
        some ((-103 : Int32), M)
      else
        LX6_run_26 x1 fu (0 : Int32) M
    else
      some ((-102 : Int32), M)
set_option maxRecDepth 100000 in
set_option maxHeartbeats 4000000 in
theorem lX6_run_26 {g : Gl} {X : Cxt} (C : CxOk g X cX6_run RX6 (Cond.code yX6_run cX6_run 4 (some .int) :: wsL_law) 4 4 98) {r : Int32} {M' : (Nat → Ob)} (h : Nat → Nat → Nat) (x1 : Int32)  (Rk : RetOk g X (osX6 h M') (some (.int r)) (some .int))  : ∀ (n : Nat) (x2 : Int32) (M : (Nat → Ob)), LX6_run_26 x1 n x2 M = some (r, M') → J g X (osX6 h M) 26 [(0, .ref (h 0 0)), (1, .int x1), (2, .int x2)] [] := by
  intro n
  induction n with
  | zero =>
    intro x2 M hF
    cases hF
  | succ n ih =>
    intro x2 M hF
    rw [LX6_run_26.eq_2] at hF
    refine j_iload_n C 2 dX6_run_26 rfl rfl ?_
    refine j_iload_n C 1 dX6_run_27 rfl rfl ?_
    refine j_icmp_ge C 78 dX6_run_28 rfl (fun c_19 => ?_) (fun c_19 => ?_)
    · have hF := (if_pos c_19).symm.trans hF
      refine j_iload_n C 1 dX6_run_78 rfl rfl ?_
      cases hF
      exact j_iret C Rk dX6_run_79
    · have hF := (if_neg c_19).symm.trans hF
      refine j_aload_n C 0 dX6_run_31 rfl rfl ?_
      refine j_get (h := fun a => h a 0) (v := .ref (h 3 0)) C 0 2 rfl rfl (Nat.le_of_ble_eq_true rfl) rfl rfl in1_X6 (List.mem_cons_of_mem _ mw_1_23) dX6_run_32 ?_
      obtain ⟨r_1, s_2, k_3, hF⟩ := gb2 hF
      obtain ⟨M_4, e_5, hF⟩ := glT hF
      refine j_callVi C (os' := (osX6 h M_4)) [] (kX2_listMeetings g 60 (h 3) (M 3) k_3) [3] rfl rfl rfl (by rw [e_5]; rfl) 3 rfl rfl (wl_gV mw_30_1 mw_20_16 mw_20_17 mw_1_22 mw_20_18) rfl 0 rfl hd_X2_listMeetings ⟨Nat.le_of_ble_eq_true rfl, Nat.le_of_ble_eq_true rfl⟩ (Nat.le_of_ble_eq_true rfl) rfl dX6_run_35 ?_
      refine j_pop C rfl dX6_run_38 ?_
      refine j_aload_n C 0 dX6_run_39 rfl rfl ?_
      refine j_get (h := fun a => h a 0) (v := .ref (h 3 0)) C 0 2 rfl rfl (Nat.le_of_ble_eq_true rfl) rfl rfl in1_X6 (List.mem_cons_of_mem _ mw_1_23) dX6_run_40 ?_
      refine j_iconst (v := (0 : Int32)) C dX6_run_43 rfl ?_
      obtain ⟨r_6, k_7, hF⟩ := gb1 hF
      refine j_callVi C (os' := (osX6 h M_4)) [.int (0 : Int32)] (kX2_listedAt g 60 (h 3) (0 : Int32) (M_4 3) k_7) [3] rfl rfl rfl rfl 3 rfl rfl (wl_gV mw_30_2 mw_20_21 mw_20_22 mw_1_22 mw_20_23) rfl 1 rfl hd_X2_listedAt ⟨Nat.le_of_ble_eq_true rfl, Nat.le_of_ble_eq_true rfl⟩ (Nat.le_of_ble_eq_true rfl) rfl dX6_run_44 ?_
      refine j_istore_n C [(3, .int r_6), (0, .ref (h 0 0)), (1, .int x1), (2, .int x2)] dX6_run_47 rfl (Nat.le_of_ble_eq_true rfl) rfl rfl ?_
      refine j_iload_n C 0 dX6_run_48 rfl rfl ?_
      refine j_iconst (v := (-1 : Int32)) C dX6_run_49 rfl ?_
      refine j_icmp_eq C 61 dX6_run_50 rfl (fun c_18 => ?_) (fun c_18 => ?_)
      · have hF := (if_pos c_18).symm.trans hF
        refine j_iload_n C 3 dX6_run_61 rfl rfl ?_
        cases hF
        exact j_iret C Rk dX6_run_62
      · have hF := (if_neg c_18).symm.trans hF
        refine j_aload_n C 1 dX6_run_53 rfl rfl ?_
        refine j_iload_n C 0 dX6_run_54 rfl rfl ?_
        obtain ⟨r_8, k_9, hF⟩ := gb1 hF
        refine j_callVi (h := fun a => h a 0) C (os' := (osX6 h M_4)) [.int r_6] (kX6_hasRoomFor g h r_6 M_4 k_9) [0, 1, 2, 3, 4, 5, 6, 7, 8, 9, 10] rfl rfl rfl rfl 0 rfl rfl (wl_gV mw_30_15 mw_30_16 mw_30_17 mw_1_2 mw_30_18) rfl 1 rfl hd_X6_hasRoomFor ⟨Nat.le_of_ble_eq_true rfl, Nat.le_of_ble_eq_true rfl⟩ (Nat.le_of_ble_eq_true rfl) rfl dX6_run_55 ?_
        refine j_if_ne C 63 dX6_run_58 rfl (fun c_17 => ?_) (fun c_17 => ?_)
        · have hF := (if_neg c_17).symm.trans hF
          refine j_aload_n C 1 dX6_run_63 rfl rfl ?_
          refine j_get (h := fun a => h a 0) (v := .ref (h 3 0)) C 0 2 rfl rfl (Nat.le_of_ble_eq_true rfl) rfl rfl in1_X6 (List.mem_cons_of_mem _ mw_1_23) dX6_run_64 ?_
          refine j_iload_n C 0 dX6_run_67 rfl rfl ?_
          obtain ⟨r_10, s_11, k_12, hF⟩ := gb2 hF
          obtain ⟨M_13, e_14, hF⟩ := glT hF
          refine j_callVi C (os' := (osX6 h M_13)) [.int r_6] (kX2_perform g 60 (h 3) r_6 (M_4 3) k_12) [3] rfl rfl rfl (by rw [e_14]; rfl) 3 rfl rfl (wl_gV mw_30_20 mw_21_1 mw_21_2 mw_1_22 mw_21_3) rfl 1 rfl hd_X2_perform ⟨Nat.le_of_ble_eq_true rfl, Nat.le_of_ble_eq_true rfl⟩ (Nat.le_of_ble_eq_true rfl) rfl dX6_run_68 ?_
          refine j_pop C rfl dX6_run_71 ?_
          obtain ⟨x2_15, e_16, hF⟩ := glT hF
          refine j_iinc C 3 [(2, .int x2_15), (3, .int r_6), (0, .ref (h 0 0)), (1, .int x1)] dX6_run_72 rfl e_16.symm (Nat.le_of_ble_eq_true rfl) rfl ?_
          refine j_goto C 26 dX6_run_75 rfl ?_
          refine j_sub [(0, .ref (h 0 0)), (1, .int x1), (2, .int x2_15)] [2, 3, 0] rfl ?_
          exact ih _ _ hF
        · have hF := (if_pos c_17).symm.trans hF
          refine j_iload_n C 3 dX6_run_61 rfl rfl ?_
          cases hF
          exact j_iret C Rk dX6_run_62
set_option maxRecDepth 100000 in
set_option maxHeartbeats 4000000 in
theorem kX6_run (g : Gl) (h : Nat → Nat → Nat) (x1 : Int32) (M : (Nat → Ob)) {r : Int32} {M' : (Nat → Ob)} (hF : FX6_run x1 M = some (r, M')) : Ctr g yX6_run (Cond.code yX6_run cX6_run 4 (some .int) :: wsL_law) 4 98 (osX6 h M) (osX6 h M') [.ref (h 0 0), .int x1] (some (.int r)) := by
  refine Ctr.of (cc := cX6_run) (maxL := 4) (ret := (some .int)) (by decide) rfl (Nat.le_of_ble_eq_true rfl) ?_
  intro X C Rk
  replace C : CxOk g X cX6_run RX6 (Cond.code yX6_run cX6_run 4 (some .int) :: wsL_law) 4 4 98 := C
  show J g X (osX6 h M) 0 [(0, .ref (h 0 0)), (1, .int x1)] []
  unfold FX6_run at hF
  refine j_iload_n C 1 dX6_run_0 rfl rfl ?_
  refine j_iconst (v := (1 : Int32)) C dX6_run_1 rfl ?_
  refine j_icmp_lt C 11 dX6_run_2 rfl (fun c_22 => ?_) (fun c_22 => ?_)
  · have hF := (if_pos c_22).symm.trans hF
    refine j_bipush (v := (-102 : Int32)) C dX6_run_11 rfl ?_
    cases hF
    exact j_iret C Rk dX6_run_13
  · have hF := (if_neg c_22).symm.trans hF
    refine j_iload_n C 1 dX6_run_5 rfl rfl ?_
    refine j_bipush (v := (60 : Int32)) C dX6_run_6 rfl ?_
    refine j_icmp_le C 14 dX6_run_8 rfl (fun c_21 => ?_) (fun c_21 => ?_)
    · have hF := (if_pos c_21).symm.trans hF
      refine j_aload_n C 0 dX6_run_14 rfl rfl ?_
      refine j_get (h := fun a => h a 0) (v := .int (oV (M 0) 10)) C 0 10 rfl rfl (Nat.le_of_ble_eq_true rfl) rfl rfl in1_X6 (List.mem_cons_of_mem _ mw_16_9) dX6_run_15 ?_
      refine j_if_ne C 24 dX6_run_18 rfl (fun c_20 => ?_) (fun c_20 => ?_)
      · have hF := (if_neg c_20).symm.trans hF
        refine j_iconst (v := (0 : Int32)) C dX6_run_24 rfl ?_
        refine j_istore_n C [(2, .int (0 : Int32)), (0, .ref (h 0 0)), (1, .int x1)] dX6_run_25 rfl (Nat.le_of_ble_eq_true rfl) rfl rfl ?_
        refine j_sub [(0, .ref (h 0 0)), (1, .int x1), (2, .int (0 : Int32))] [1, 2, 0] rfl ?_
        refine lX6_run_26 C h x1 Rk  _ _ _ hF
      · have hF := (if_pos c_20).symm.trans hF
        refine j_bipush (v := (-103 : Int32)) C dX6_run_21 rfl ?_
        cases hF
        exact j_iret C Rk dX6_run_23
    · have hF := (if_neg c_21).symm.trans hF
      refine j_bipush (v := (-102 : Int32)) C dX6_run_11 rfl ?_
      cases hF
      exact j_iret C Rk dX6_run_13
/-! HeadsMeet.join -/
def FX6_join (x1 : Int32) (x2 : Int32) (M : (Nat → Ob)) : Option (Int32 × (Nat → Ob)) :=
  b1 (FX2_isOpen 60 x1 (M 3)) fun r_1 =>
  if r_1 = 0 then
    some ((-101 : Int32), M)
  else
    b1 (FX2_isOpen 60 x2 (M 3)) fun r_3 =>
    if r_3 = 0 then
      some ((-101 : Int32), M)
    else
      if x1 = x2 then
        some ((-101 : Int32), M)
      else
        b1 (FX2_fuse 60 x1 x2 (M 3)) fun s_5 =>
        lT (sM M 3 s_5) fun M_7 =>
        b1 (FX2_rings 60 (M_7 3)) fun r_9 =>
        some (r_9, M_7)
set_option maxRecDepth 100000 in
set_option maxHeartbeats 4000000 in
theorem kX6_join (g : Gl) (h : Nat → Nat → Nat) (x1 : Int32) (x2 : Int32) (M : (Nat → Ob)) {r : Int32} {M' : (Nat → Ob)} (hF : FX6_join x1 x2 M = some (r, M')) : Ctr g yX6_join (Cond.code yX6_join cX6_join 3 (some .int) :: wsL_law) 2 44 (osX6 h M) (osX6 h M') [.ref (h 0 0), .int x1, .int x2] (some (.int r)) := by
  refine Ctr.of (cc := cX6_join) (maxL := 3) (ret := (some .int)) (by decide) rfl (Nat.le_of_ble_eq_true rfl) ?_
  intro X C Rk
  replace C : CxOk g X cX6_join RX6 (Cond.code yX6_join cX6_join 3 (some .int) :: wsL_law) 3 2 44 := C
  show J g X (osX6 h M) 0 [(0, .ref (h 0 0)), (1, .int x1), (2, .int x2)] []
  unfold FX6_join at hF
  refine j_aload_n C 0 dX6_join_0 rfl rfl ?_
  refine j_get (h := fun a => h a 0) (v := .ref (h 3 0)) C 0 2 rfl rfl (Nat.le_of_ble_eq_true rfl) rfl rfl in1_X6 (List.mem_cons_of_mem _ mw_1_23) dX6_join_1 ?_
  refine j_iload_n C 1 dX6_join_4 rfl rfl ?_
  obtain ⟨r_1, k_2, hF⟩ := gb1 hF
  refine j_callVi C (os' := (osX6 h M)) [.int x1] (kX2_isOpen g 60 (h 3) x1 (M 3) k_2) [3] rfl rfl rfl rfl 3 rfl rfl (wl_gV mw_29_9 mw_29_10 mw_29_11 mw_1_22 mw_29_12) rfl 1 rfl hd_X2_isOpen ⟨Nat.le_of_ble_eq_true rfl, Nat.le_of_ble_eq_true rfl⟩ (Nat.le_of_ble_eq_true rfl) rfl dX6_join_5 ?_
  refine j_if_eq C 27 dX6_join_8 rfl (fun c_13 => ?_) (fun c_13 => ?_)
  · have hF := (if_pos c_13).symm.trans hF
    refine j_bipush (v := (-101 : Int32)) C dX6_join_27 rfl ?_
    cases hF
    exact j_iret C Rk dX6_join_29
  · have hF := (if_neg c_13).symm.trans hF
    refine j_aload_n C 0 dX6_join_11 rfl rfl ?_
    refine j_get (h := fun a => h a 0) (v := .ref (h 3 0)) C 0 2 rfl rfl (Nat.le_of_ble_eq_true rfl) rfl rfl in1_X6 (List.mem_cons_of_mem _ mw_1_23) dX6_join_12 ?_
    refine j_iload_n C 2 dX6_join_15 rfl rfl ?_
    obtain ⟨r_3, k_4, hF⟩ := gb1 hF
    refine j_callVi C (os' := (osX6 h M)) [.int x2] (kX2_isOpen g 60 (h 3) x2 (M 3) k_4) [3] rfl rfl rfl rfl 3 rfl rfl (wl_gV mw_29_9 mw_29_10 mw_29_11 mw_1_22 mw_29_12) rfl 1 rfl hd_X2_isOpen ⟨Nat.le_of_ble_eq_true rfl, Nat.le_of_ble_eq_true rfl⟩ (Nat.le_of_ble_eq_true rfl) rfl dX6_join_16 ?_
    refine j_if_eq C 27 dX6_join_19 rfl (fun c_12 => ?_) (fun c_12 => ?_)
    · have hF := (if_pos c_12).symm.trans hF
      refine j_bipush (v := (-101 : Int32)) C dX6_join_27 rfl ?_
      cases hF
      exact j_iret C Rk dX6_join_29
    · have hF := (if_neg c_12).symm.trans hF
      refine j_iload_n C 1 dX6_join_22 rfl rfl ?_
      refine j_iload_n C 2 dX6_join_23 rfl rfl ?_
      refine j_icmp_ne C 30 dX6_join_24 rfl (fun c_11 => ?_) (fun c_11 => ?_)
      · have hF := (if_neg c_11).symm.trans hF
        refine j_aload_n C 0 dX6_join_30 rfl rfl ?_
        refine j_get (h := fun a => h a 0) (v := .ref (h 3 0)) C 0 2 rfl rfl (Nat.le_of_ble_eq_true rfl) rfl rfl in1_X6 (List.mem_cons_of_mem _ mw_1_23) dX6_join_31 ?_
        refine j_iload_n C 1 dX6_join_34 rfl rfl ?_
        refine j_iload_n C 2 dX6_join_35 rfl rfl ?_
        obtain ⟨s_5, k_6, hF⟩ := gb1 hF
        obtain ⟨M_7, e_8, hF⟩ := glT hF
        refine j_callVv C (os' := (osX6 h M_7)) [.int x1, .int x2] (kX2_fuse g 60 (h 3) x1 x2 (M 3) k_6) [3] rfl rfl rfl (by rw [e_8]; rfl) 3 rfl rfl (wl_gV mw_31_21 mw_17_1 mw_17_2 mw_1_22 mw_17_3) rfl 2 rfl hd_X2_fuse ⟨Nat.le_of_ble_eq_true rfl, Nat.le_of_ble_eq_true rfl⟩ (Nat.le_of_ble_eq_true rfl) rfl dX6_join_36 ?_
        refine j_aload_n C 0 dX6_join_39 rfl rfl ?_
        refine j_get (h := fun a => h a 0) (v := .ref (h 3 0)) C 0 2 rfl rfl (Nat.le_of_ble_eq_true rfl) rfl rfl in1_X6 (List.mem_cons_of_mem _ mw_1_23) dX6_join_40 ?_
        obtain ⟨r_9, k_10, hF⟩ := gb1 hF
        refine j_callVi C (os' := (osX6 h M_7)) [] (kX2_rings g 60 (h 3) (M_7 3) k_10) [3] rfl rfl rfl rfl 3 rfl rfl (wl_gV mw_22_15 mw_22_16 mw_22_17 mw_1_22 mw_22_18) rfl 0 rfl hd_X2_rings ⟨Nat.le_of_ble_eq_true rfl, Nat.le_of_ble_eq_true rfl⟩ (Nat.le_of_ble_eq_true rfl) rfl dX6_join_43 ?_
        cases hF
        exact j_iret C Rk dX6_join_46
      · have hF := (if_pos c_11).symm.trans hF
        refine j_bipush (v := (-101 : Int32)) C dX6_join_27 rfl ?_
        cases hF
        exact j_iret C Rk dX6_join_29
/-! HeadsMeet.stop -/
def FX6_stop (x1 : Int32) (M : (Nat → Ob)) : Option (Int32 × (Nat → Ob)) :=
  b1 (FX2_isOpen 60 x1 (M 3)) fun r_1 =>
  if r_1 = 0 then
    some ((-101 : Int32), M)
  else
    b1 (FX2_nodes 60 (M 3)) fun r_3 =>
    if r_3 < (60 : Int32) then
      b2 (FX2_addNode 60 (0 : Int32) (M 3)) fun r_5 s_6 =>
      lT (sM M 3 s_6) fun M_8 =>
      b1 (FX2_port r_5 (0 : Int32)) fun r_10 =>
      b1 (FX2_move 60 x1 r_10 (M_8 3)) fun s_12 =>
      lT (sM M_8 3 s_12) fun M_14 =>
      some (r_5, M_14)
    else
      some ((-104 : Int32), M)
set_option maxRecDepth 100000 in
set_option maxHeartbeats 4000000 in
theorem kX6_stop (g : Gl) (h : Nat → Nat → Nat) (x1 : Int32) (M : (Nat → Ob)) {r : Int32} {M' : (Nat → Ob)} (hF : FX6_stop x1 M = some (r, M')) : Ctr g yX6_stop (Cond.code yX6_stop cX6_stop 3 (some .int) :: wsL_law) 2 45 (osX6 h M) (osX6 h M') [.ref (h 0 0), .int x1] (some (.int r)) := by
  refine Ctr.of (cc := cX6_stop) (maxL := 3) (ret := (some .int)) (by decide) rfl (Nat.le_of_ble_eq_true rfl) ?_
  intro X C Rk
  replace C : CxOk g X cX6_stop RX6 (Cond.code yX6_stop cX6_stop 3 (some .int) :: wsL_law) 3 2 45 := C
  show J g X (osX6 h M) 0 [(0, .ref (h 0 0)), (1, .int x1)] []
  unfold FX6_stop at hF
  refine j_aload_n C 0 dX6_stop_0 rfl rfl ?_
  refine j_get (h := fun a => h a 0) (v := .ref (h 3 0)) C 0 2 rfl rfl (Nat.le_of_ble_eq_true rfl) rfl rfl in1_X6 (List.mem_cons_of_mem _ mw_1_23) dX6_stop_1 ?_
  refine j_iload_n C 1 dX6_stop_4 rfl rfl ?_
  obtain ⟨r_1, k_2, hF⟩ := gb1 hF
  refine j_callVi C (os' := (osX6 h M)) [.int x1] (kX2_isOpen g 60 (h 3) x1 (M 3) k_2) [3] rfl rfl rfl rfl 3 rfl rfl (wl_gV mw_29_9 mw_29_10 mw_29_11 mw_1_22 mw_29_12) rfl 1 rfl hd_X2_isOpen ⟨Nat.le_of_ble_eq_true rfl, Nat.le_of_ble_eq_true rfl⟩ (Nat.le_of_ble_eq_true rfl) rfl dX6_stop_5 ?_
  refine j_if_ne C 14 dX6_stop_8 rfl (fun c_17 => ?_) (fun c_17 => ?_)
  · have hF := (if_neg c_17).symm.trans hF
    refine j_aload_n C 0 dX6_stop_14 rfl rfl ?_
    refine j_get (h := fun a => h a 0) (v := .ref (h 3 0)) C 0 2 rfl rfl (Nat.le_of_ble_eq_true rfl) rfl rfl in1_X6 (List.mem_cons_of_mem _ mw_1_23) dX6_stop_15 ?_
    obtain ⟨r_3, k_4, hF⟩ := gb1 hF
    refine j_callVi C (os' := (osX6 h M)) [] (kX2_nodes g 60 (h 3) (M 3) k_4) [3] rfl rfl rfl rfl 3 rfl rfl (wl_gV mw_16_16 mw_16_17 mw_16_18 mw_1_22 mw_16_19) rfl 0 rfl hd_X2_nodes ⟨Nat.le_of_ble_eq_true rfl, Nat.le_of_ble_eq_true rfl⟩ (Nat.le_of_ble_eq_true rfl) rfl dX6_stop_18 ?_
    refine j_bipush (v := (60 : Int32)) C dX6_stop_21 rfl ?_
    refine j_icmp_lt C 29 dX6_stop_23 rfl (fun c_16 => ?_) (fun c_16 => ?_)
    · have hF := (if_pos c_16).symm.trans hF
      refine j_aload_n C 0 dX6_stop_29 rfl rfl ?_
      refine j_get (h := fun a => h a 0) (v := .ref (h 3 0)) C 0 2 rfl rfl (Nat.le_of_ble_eq_true rfl) rfl rfl in1_X6 (List.mem_cons_of_mem _ mw_1_23) dX6_stop_30 ?_
      refine j_iconst (v := (0 : Int32)) C dX6_stop_33 rfl ?_
      obtain ⟨r_5, s_6, k_7, hF⟩ := gb2 hF
      obtain ⟨M_8, e_9, hF⟩ := glT hF
      refine j_callVi C (os' := (osX6 h M_8)) [.int (0 : Int32)] (kX2_addNode g 60 (h 3) (0 : Int32) (M 3) k_7) [3] rfl rfl rfl (by rw [e_9]; rfl) 3 rfl rfl (wl_gV mw_32_6 mw_13_7 mw_13_8 mw_1_22 mw_13_9) rfl 1 rfl hd_X2_addNode ⟨Nat.le_of_ble_eq_true rfl, Nat.le_of_ble_eq_true rfl⟩ (Nat.le_of_ble_eq_true rfl) rfl dX6_stop_34 ?_
      refine j_istore_n C [(2, .int r_5), (0, .ref (h 0 0)), (1, .int x1)] dX6_stop_37 rfl (Nat.le_of_ble_eq_true rfl) rfl rfl ?_
      refine j_aload_n C 1 dX6_stop_38 rfl rfl ?_
      refine j_get (h := fun a => h a 0) (v := .ref (h 3 0)) C 0 2 rfl rfl (Nat.le_of_ble_eq_true rfl) rfl rfl in1_X6 (List.mem_cons_of_mem _ mw_1_23) dX6_stop_39 ?_
      refine j_iload_n C 2 dX6_stop_42 rfl rfl ?_
      refine j_iload_n C 0 dX6_stop_43 rfl rfl ?_
      refine j_iconst (v := (0 : Int32)) C dX6_stop_44 rfl ?_
      obtain ⟨r_10, k_11, hF⟩ := gb1 hF
      refine j_callSi C (os' := (osX6 h M_8)) [.int r_5, .int (0 : Int32)] (kX2_port g r_5 (0 : Int32) k_11) [] rfl rfl rfl rfl (wl_gS mw_19_21 mw_9_7 mw_1_22 mw_9_8) rfl 2 rfl hd_X2_port ⟨Nat.le_of_ble_eq_true rfl, Nat.le_of_ble_eq_true rfl⟩ (Nat.le_of_ble_eq_true rfl) rfl dX6_stop_45 ?_
      obtain ⟨s_12, k_13, hF⟩ := gb1 hF
      obtain ⟨M_14, e_15, hF⟩ := glT hF
      refine j_callVv C (os' := (osX6 h M_14)) [.int x1, .int r_10] (kX2_move g 60 (h 3) x1 r_10 (M_8 3) k_13) [3] rfl rfl rfl (by rw [e_15]; rfl) 3 rfl rfl (wl_gV mw_32_7 mw_21_19 mw_21_20 mw_1_22 mw_21_21) rfl 2 rfl hd_X2_move ⟨Nat.le_of_ble_eq_true rfl, Nat.le_of_ble_eq_true rfl⟩ (Nat.le_of_ble_eq_true rfl) rfl dX6_stop_48 ?_
      refine j_iload_n C 0 dX6_stop_51 rfl rfl ?_
      cases hF
      exact j_iret C Rk dX6_stop_52
    · have hF := (if_neg c_16).symm.trans hF
      refine j_bipush (v := (-104 : Int32)) C dX6_stop_26 rfl ?_
      cases hF
      exact j_iret C Rk dX6_stop_28
  · have hF := (if_pos c_17).symm.trans hF
    refine j_bipush (v := (-101 : Int32)) C dX6_stop_11 rfl ?_
    cases hF
    exact j_iret C Rk dX6_stop_13
/-! HeadsMeet.change -/
def FX6_change (x1 : Int32) (x2 : Int32) (M : (Nat → Ob)) : Option (Int32 × (Nat → Ob)) :=
  b1 (FX2_kindOf 60 x1 (M 3)) fun r_1 =>
  if (1 : Int32) ≤ r_1 then
    if x2 < (1 : Int32) then
      some ((-102 : Int32), M)
    else
      if x2 ≤ (3 : Int32) then
        b1 (FX2_setKind 60 x1 x2 (M 3)) fun s_3 =>
        lT (sM M 3 s_3) fun M_5 =>
        some (r_1, M_5)
      else
        some ((-102 : Int32), M)
  else
    some ((-101 : Int32), M)
set_option maxRecDepth 100000 in
set_option maxHeartbeats 4000000 in
theorem kX6_change (g : Gl) (h : Nat → Nat → Nat) (x1 : Int32) (x2 : Int32) (M : (Nat → Ob)) {r : Int32} {M' : (Nat → Ob)} (hF : FX6_change x1 x2 M = some (r, M')) : Ctr g yX6_change (Cond.code yX6_change cX6_change 4 (some .int) :: wsL_law) 1 22 (osX6 h M) (osX6 h M') [.ref (h 0 0), .int x1, .int x2] (some (.int r)) := by
  refine Ctr.of (cc := cX6_change) (maxL := 4) (ret := (some .int)) (by decide) rfl (Nat.le_of_ble_eq_true rfl) ?_
  intro X C Rk
  replace C : CxOk g X cX6_change RX6 (Cond.code yX6_change cX6_change 4 (some .int) :: wsL_law) 4 1 22 := C
  show J g X (osX6 h M) 0 [(0, .ref (h 0 0)), (1, .int x1), (2, .int x2)] []
  unfold FX6_change at hF
  refine j_aload_n C 0 dX6_change_0 rfl rfl ?_
  refine j_get (h := fun a => h a 0) (v := .ref (h 3 0)) C 0 2 rfl rfl (Nat.le_of_ble_eq_true rfl) rfl rfl in1_X6 (List.mem_cons_of_mem _ mw_1_23) dX6_change_1 ?_
  refine j_iload_n C 1 dX6_change_4 rfl rfl ?_
  obtain ⟨r_1, k_2, hF⟩ := gb1 hF
  refine j_callVi C (os' := (osX6 h M)) [.int x1] (kX2_kindOf g 60 (h 3) x1 (M 3) k_2) [3] rfl rfl rfl rfl 3 rfl rfl (wl_gV mw_19_1 mw_13_12 mw_13_13 mw_1_22 mw_13_14) rfl 1 rfl hd_X2_kindOf ⟨Nat.le_of_ble_eq_true rfl, Nat.le_of_ble_eq_true rfl⟩ (Nat.le_of_ble_eq_true rfl) rfl dX6_change_5 ?_
  refine j_istore_n C [(3, .int r_1), (0, .ref (h 0 0)), (1, .int x1), (2, .int x2)] dX6_change_8 rfl (Nat.le_of_ble_eq_true rfl) rfl rfl ?_
  refine j_iload_n C 0 dX6_change_9 rfl rfl ?_
  refine j_iconst (v := (1 : Int32)) C dX6_change_10 rfl ?_
  refine j_icmp_ge C 17 dX6_change_11 rfl (fun c_9 => ?_) (fun c_9 => ?_)
  · have hF := (if_pos c_9).symm.trans hF
    refine j_iload_n C 3 dX6_change_17 rfl rfl ?_
    refine j_iconst (v := (1 : Int32)) C dX6_change_18 rfl ?_
    refine j_icmp_lt C 27 dX6_change_19 rfl (fun c_8 => ?_) (fun c_8 => ?_)
    · have hF := (if_pos c_8).symm.trans hF
      refine j_bipush (v := (-102 : Int32)) C dX6_change_27 rfl ?_
      cases hF
      exact j_iret C Rk dX6_change_29
    · have hF := (if_neg c_8).symm.trans hF
      refine j_iload_n C 3 dX6_change_22 rfl rfl ?_
      refine j_iconst (v := (3 : Int32)) C dX6_change_23 rfl ?_
      refine j_icmp_le C 30 dX6_change_24 rfl (fun c_7 => ?_) (fun c_7 => ?_)
      · have hF := (if_pos c_7).symm.trans hF
        refine j_aload_n C 1 dX6_change_30 rfl rfl ?_
        refine j_get (h := fun a => h a 0) (v := .ref (h 3 0)) C 0 2 rfl rfl (Nat.le_of_ble_eq_true rfl) rfl rfl in1_X6 (List.mem_cons_of_mem _ mw_1_23) dX6_change_31 ?_
        refine j_iload_n C 2 dX6_change_34 rfl rfl ?_
        refine j_iload_n C 3 dX6_change_35 rfl rfl ?_
        obtain ⟨s_3, k_4, hF⟩ := gb1 hF
        obtain ⟨M_5, e_6, hF⟩ := glT hF
        refine j_callVv C (os' := (osX6 h M_5)) [.int x1, .int x2] (kX2_setKind g 60 (h 3) x1 x2 (M 3) k_4) [3] rfl rfl rfl (by rw [e_6]; rfl) 3 rfl rfl (wl_gV mw_20_6 mw_20_7 mw_20_8 mw_1_22 mw_20_9) rfl 2 rfl hd_X2_setKind ⟨Nat.le_of_ble_eq_true rfl, Nat.le_of_ble_eq_true rfl⟩ (Nat.le_of_ble_eq_true rfl) rfl dX6_change_36 ?_
        refine j_iload_n C 0 dX6_change_39 rfl rfl ?_
        cases hF
        exact j_iret C Rk dX6_change_40
      · have hF := (if_neg c_7).symm.trans hF
        refine j_bipush (v := (-102 : Int32)) C dX6_change_27 rfl ?_
        cases hF
        exact j_iret C Rk dX6_change_29
  · have hF := (if_neg c_9).symm.trans hF
    refine j_bipush (v := (-101 : Int32)) C dX6_change_14 rfl ?_
    cases hF
    exact j_iret C Rk dX6_change_16
/-! HeadsMeet.flip -/
def FX6_flip (x1 : Int32) (M : (Nat → Ob)) : Option (Int32 × (Nat → Ob)) :=
  b1 (FX2_kindOf 60 x1 (M 3)) fun r_1 =>
  if (1 : Int32) ≤ r_1 then
    b1 (FX2_swapSides 60 x1 (M 3)) fun s_3 =>
    lT (sM M 3 s_3) fun M_5 =>
    b1 (FX2_port x1 (1 : Int32)) fun r_7 =>
    b1 (FX2_toldAcross 60 r_7 (M_5 3)) fun r_9 =>
    some (r_9, M_5)
  else
    some ((-101 : Int32), M)
set_option maxRecDepth 100000 in
set_option maxHeartbeats 4000000 in
theorem kX6_flip (g : Gl) (h : Nat → Nat → Nat) (x1 : Int32) (M : (Nat → Ob)) {r : Int32} {M' : (Nat → Ob)} (hF : FX6_flip x1 M = some (r, M')) : Ctr g yX6_flip (Cond.code yX6_flip cX6_flip 2 (some .int) :: wsL_law) 2 47 (osX6 h M) (osX6 h M') [.ref (h 0 0), .int x1] (some (.int r)) := by
  refine Ctr.of (cc := cX6_flip) (maxL := 2) (ret := (some .int)) (by decide) rfl (Nat.le_of_ble_eq_true rfl) ?_
  intro X C Rk
  replace C : CxOk g X cX6_flip RX6 (Cond.code yX6_flip cX6_flip 2 (some .int) :: wsL_law) 2 2 47 := C
  show J g X (osX6 h M) 0 [(0, .ref (h 0 0)), (1, .int x1)] []
  unfold FX6_flip at hF
  refine j_aload_n C 0 dX6_flip_0 rfl rfl ?_
  refine j_get (h := fun a => h a 0) (v := .ref (h 3 0)) C 0 2 rfl rfl (Nat.le_of_ble_eq_true rfl) rfl rfl in1_X6 (List.mem_cons_of_mem _ mw_1_23) dX6_flip_1 ?_
  refine j_iload_n C 1 dX6_flip_4 rfl rfl ?_
  obtain ⟨r_1, k_2, hF⟩ := gb1 hF
  refine j_callVi C (os' := (osX6 h M)) [.int x1] (kX2_kindOf g 60 (h 3) x1 (M 3) k_2) [3] rfl rfl rfl rfl 3 rfl rfl (wl_gV mw_19_1 mw_13_12 mw_13_13 mw_1_22 mw_13_14) rfl 1 rfl hd_X2_kindOf ⟨Nat.le_of_ble_eq_true rfl, Nat.le_of_ble_eq_true rfl⟩ (Nat.le_of_ble_eq_true rfl) rfl dX6_flip_5 ?_
  refine j_iconst (v := (1 : Int32)) C dX6_flip_8 rfl ?_
  refine j_icmp_ge C 15 dX6_flip_9 rfl (fun c_11 => ?_) (fun c_11 => ?_)
  · have hF := (if_pos c_11).symm.trans hF
    refine j_aload_n C 0 dX6_flip_15 rfl rfl ?_
    refine j_get (h := fun a => h a 0) (v := .ref (h 3 0)) C 0 2 rfl rfl (Nat.le_of_ble_eq_true rfl) rfl rfl in1_X6 (List.mem_cons_of_mem _ mw_1_23) dX6_flip_16 ?_
    refine j_iload_n C 1 dX6_flip_19 rfl rfl ?_
    obtain ⟨s_3, k_4, hF⟩ := gb1 hF
    obtain ⟨M_5, e_6, hF⟩ := glT hF
    refine j_callVv C (os' := (osX6 h M_5)) [.int x1] (kX2_swapSides g 60 (h 3) x1 (M 3) k_4) [3] rfl rfl rfl (by rw [e_6]; rfl) 3 rfl rfl (wl_gV mw_33_4 mw_33_5 mw_33_6 mw_1_22 mw_33_7) rfl 1 rfl hd_X2_swapSides ⟨Nat.le_of_ble_eq_true rfl, Nat.le_of_ble_eq_true rfl⟩ (Nat.le_of_ble_eq_true rfl) rfl dX6_flip_20 ?_
    refine j_aload_n C 0 dX6_flip_23 rfl rfl ?_
    refine j_get (h := fun a => h a 0) (v := .ref (h 3 0)) C 0 2 rfl rfl (Nat.le_of_ble_eq_true rfl) rfl rfl in1_X6 (List.mem_cons_of_mem _ mw_1_23) dX6_flip_24 ?_
    refine j_iload_n C 1 dX6_flip_27 rfl rfl ?_
    refine j_iconst (v := (1 : Int32)) C dX6_flip_28 rfl ?_
    obtain ⟨r_7, k_8, hF⟩ := gb1 hF
    refine j_callSi C (os' := (osX6 h M_5)) [.int x1, .int (1 : Int32)] (kX2_port g x1 (1 : Int32) k_8) [] rfl rfl rfl rfl (wl_gS mw_19_21 mw_9_7 mw_1_22 mw_9_8) rfl 2 rfl hd_X2_port ⟨Nat.le_of_ble_eq_true rfl, Nat.le_of_ble_eq_true rfl⟩ (Nat.le_of_ble_eq_true rfl) rfl dX6_flip_29 ?_
    obtain ⟨r_9, k_10, hF⟩ := gb1 hF
    refine j_callVi C (os' := (osX6 h M_5)) [.int r_7] (kX2_toldAcross g 60 (h 3) r_7 (M_5 3) k_10) [3] rfl rfl rfl rfl 3 rfl rfl (wl_gV mw_19_22 mw_19_23 mw_20_0 mw_1_22 mw_20_1) rfl 1 rfl hd_X2_toldAcross ⟨Nat.le_of_ble_eq_true rfl, Nat.le_of_ble_eq_true rfl⟩ (Nat.le_of_ble_eq_true rfl) rfl dX6_flip_32 ?_
    cases hF
    exact j_iret C Rk dX6_flip_35
  · have hF := (if_neg c_11).symm.trans hF
    refine j_bipush (v := (-101 : Int32)) C dX6_flip_12 rfl ?_
    cases hF
    exact j_iret C Rk dX6_flip_14
/-! HeadsMeet.findEnding -/
def FX6_findEnding_3  (M : (Nat → Ob)) : Option (Int32 × (Nat → Ob)) :=
  b1 (FX2_copyFrom 180 60 (M 5) (M 3)) fun s_1 =>
  lT (sM M 5 s_1) fun M_3 =>
  b2 (FX2_finish 180 (M_3 5)) fun r_5 s_6 =>
  lT (sM M_3 5 s_6) fun M_8 =>
  if isb r_5 then
  some (r_5, M_8)
  else none
set_option maxRecDepth 100000 in
set_option maxHeartbeats 4000000 in
theorem kX6_findEnding_3 (g : Gl) (h : Nat → Nat → Nat)  (M : (Nat → Ob)) {r : Int32} {M' : (Nat → Ob)} (hF : FX6_findEnding_3 M = some (r, M')) : Ctr g yX6_findEnding (Cond.code yX6_findEnding cX6_findEnding 2 (some .boolean) :: wsL_law) 5 121 (osX6 h M) (osX6 h M') [.ref (h 0 0), .ref (h 3 0)] (some (.int r)) := by
  refine Ctr.of (cc := cX6_findEnding) (maxL := 2) (ret := (some .boolean)) (by decide) rfl (Nat.le_of_ble_eq_true rfl) ?_
  intro X C Rk
  replace C : CxOk g X cX6_findEnding RX6 (Cond.code yX6_findEnding cX6_findEnding 2 (some .boolean) :: wsL_law) 2 5 121 := C
  show J g X (osX6 h M) 0 [(0, .ref (h 0 0)), (1, .ref (h 3 0))] []
  unfold FX6_findEnding_3 at hF
  refine j_aload_n C 0 dX6_findEnding_0 rfl rfl ?_
  refine j_get (h := fun a => h a 0) (v := .ref (h 5 0)) C 0 4 rfl rfl (Nat.le_of_ble_eq_true rfl) rfl rfl in1_X6 (List.mem_cons_of_mem _ mw_2_1) dX6_findEnding_1 ?_
  refine j_aload_n C 1 dX6_findEnding_4 rfl rfl ?_
  obtain ⟨s_1, k_2, hF⟩ := gb1 hF
  obtain ⟨M_3, e_4, hF⟩ := glT hF
  refine j_callVv C (os' := (osX6 h M_3)) [.ref (h 3 0)] (kX2_copyFrom g 180 60 (h 5) (h 3) (M 5) (M 3) k_2) [5, 3] rfl rfl rfl (by rw [e_4]; rfl) 5 rfl rfl (wl_gV mw_17_13 mw_17_14 mw_17_15 mw_1_22 mw_17_16) rfl 1 rfl hd_X2_copyFrom ⟨Nat.le_of_ble_eq_true rfl, Nat.le_of_ble_eq_true rfl⟩ (Nat.le_of_ble_eq_true rfl) rfl dX6_findEnding_5 ?_
  refine j_aload_n C 0 dX6_findEnding_8 rfl rfl ?_
  refine j_get (h := fun a => h a 0) (v := .ref (h 5 0)) C 0 4 rfl rfl (Nat.le_of_ble_eq_true rfl) rfl rfl in1_X6 (List.mem_cons_of_mem _ mw_2_1) dX6_findEnding_9 ?_
  obtain ⟨r_5, s_6, k_7, hF⟩ := gb2 hF
  obtain ⟨M_8, e_9, hF⟩ := glT hF
  refine j_callVi C (os' := (osX6 h M_8)) [] (kX2_finish g 180 (h 5) (M_3 5) k_7) [5] rfl rfl rfl (by rw [e_9]; rfl) 5 rfl rfl (wl_gV mw_20_10 mw_20_11 mw_20_12 mw_1_22 mw_20_13) rfl 0 rfl hd_X2_finish ⟨Nat.le_of_ble_eq_true rfl, Nat.le_of_ble_eq_true rfl⟩ (Nat.le_of_ble_eq_true rfl) rfl dX6_findEnding_12 ?_
  obtain ⟨z_10, hF⟩ := gi hF
  cases hF
  exact j_zret C (nb_of z_10) Rk dX6_findEnding_15
/-! HeadsMeet.findEnding -/
def FX6_findEnding_4  (M : (Nat → Ob)) : Option (Int32 × (Nat → Ob)) :=
  b1 (FX2_copyFrom 180 60 (M 5) (M 4)) fun s_1 =>
  lT (sM M 5 s_1) fun M_3 =>
  b2 (FX2_finish 180 (M_3 5)) fun r_5 s_6 =>
  lT (sM M_3 5 s_6) fun M_8 =>
  if isb r_5 then
  some (r_5, M_8)
  else none
set_option maxRecDepth 100000 in
set_option maxHeartbeats 4000000 in
theorem kX6_findEnding_4 (g : Gl) (h : Nat → Nat → Nat)  (M : (Nat → Ob)) {r : Int32} {M' : (Nat → Ob)} (hF : FX6_findEnding_4 M = some (r, M')) : Ctr g yX6_findEnding (Cond.code yX6_findEnding cX6_findEnding 2 (some .boolean) :: wsL_law) 5 121 (osX6 h M) (osX6 h M') [.ref (h 0 0), .ref (h 4 0)] (some (.int r)) := by
  refine Ctr.of (cc := cX6_findEnding) (maxL := 2) (ret := (some .boolean)) (by decide) rfl (Nat.le_of_ble_eq_true rfl) ?_
  intro X C Rk
  replace C : CxOk g X cX6_findEnding RX6 (Cond.code yX6_findEnding cX6_findEnding 2 (some .boolean) :: wsL_law) 2 5 121 := C
  show J g X (osX6 h M) 0 [(0, .ref (h 0 0)), (1, .ref (h 4 0))] []
  unfold FX6_findEnding_4 at hF
  refine j_aload_n C 0 dX6_findEnding_0 rfl rfl ?_
  refine j_get (h := fun a => h a 0) (v := .ref (h 5 0)) C 0 4 rfl rfl (Nat.le_of_ble_eq_true rfl) rfl rfl in1_X6 (List.mem_cons_of_mem _ mw_2_1) dX6_findEnding_1 ?_
  refine j_aload_n C 1 dX6_findEnding_4 rfl rfl ?_
  obtain ⟨s_1, k_2, hF⟩ := gb1 hF
  obtain ⟨M_3, e_4, hF⟩ := glT hF
  refine j_callVv C (os' := (osX6 h M_3)) [.ref (h 4 0)] (kX2_copyFrom g 180 60 (h 5) (h 4) (M 5) (M 4) k_2) [5, 4] rfl rfl rfl (by rw [e_4]; rfl) 5 rfl rfl (wl_gV mw_17_13 mw_17_14 mw_17_15 mw_1_22 mw_17_16) rfl 1 rfl hd_X2_copyFrom ⟨Nat.le_of_ble_eq_true rfl, Nat.le_of_ble_eq_true rfl⟩ (Nat.le_of_ble_eq_true rfl) rfl dX6_findEnding_5 ?_
  refine j_aload_n C 0 dX6_findEnding_8 rfl rfl ?_
  refine j_get (h := fun a => h a 0) (v := .ref (h 5 0)) C 0 4 rfl rfl (Nat.le_of_ble_eq_true rfl) rfl rfl in1_X6 (List.mem_cons_of_mem _ mw_2_1) dX6_findEnding_9 ?_
  obtain ⟨r_5, s_6, k_7, hF⟩ := gb2 hF
  obtain ⟨M_8, e_9, hF⟩ := glT hF
  refine j_callVi C (os' := (osX6 h M_8)) [] (kX2_finish g 180 (h 5) (M_3 5) k_7) [5] rfl rfl rfl (by rw [e_9]; rfl) 5 rfl rfl (wl_gV mw_20_10 mw_20_11 mw_20_12 mw_1_22 mw_20_13) rfl 0 rfl hd_X2_finish ⟨Nat.le_of_ble_eq_true rfl, Nat.le_of_ble_eq_true rfl⟩ (Nat.le_of_ble_eq_true rfl) rfl dX6_findEnding_12 ?_
  obtain ⟨z_10, hF⟩ := gi hF
  cases hF
  exact j_zret C (nb_of z_10) Rk dX6_findEnding_15
/-! HeadsMeet.ending -/
def FX6_ending (x1 : Int32) (M : (Nat → Ob)) : Option (Int32 × (Nat → Ob)) :=
  if x1 < 0 then
    some ((-102 : Int32), M)
  else
    if x1 ≤ (6 : Int32) then
      if (oV (M 0) 10) = 0 then
        some ((-103 : Int32), M)
      else
        b2 (FX6_findEnding_3 M) fun r_1 M_2 =>
        b1 (FX6_toldOfEnding r_1 x1 M_2) fun r_4 =>
        some (r_4, M_2)
    else
      some ((-102 : Int32), M)
set_option maxRecDepth 100000 in
set_option maxHeartbeats 4000000 in
theorem kX6_ending (g : Gl) (h : Nat → Nat → Nat) (x1 : Int32) (M : (Nat → Ob)) {r : Int32} {M' : (Nat → Ob)} (hF : FX6_ending x1 M = some (r, M')) : Ctr g yX6_ending (Cond.code yX6_ending cX6_ending 2 (some .int) :: wsL_law) 6 142 (osX6 h M) (osX6 h M') [.ref (h 0 0), .int x1] (some (.int r)) := by
  refine Ctr.of (cc := cX6_ending) (maxL := 2) (ret := (some .int)) (by decide) rfl (Nat.le_of_ble_eq_true rfl) ?_
  intro X C Rk
  replace C : CxOk g X cX6_ending RX6 (Cond.code yX6_ending cX6_ending 2 (some .int) :: wsL_law) 2 6 142 := C
  show J g X (osX6 h M) 0 [(0, .ref (h 0 0)), (1, .int x1)] []
  unfold FX6_ending at hF
  refine j_iload_n C 1 dX6_ending_0 rfl rfl ?_
  refine j_if_lt C 10 dX6_ending_1 rfl (fun c_8 => ?_) (fun c_8 => ?_)
  · have hF := (if_pos c_8).symm.trans hF
    refine j_bipush (v := (-102 : Int32)) C dX6_ending_10 rfl ?_
    cases hF
    exact j_iret C Rk dX6_ending_12
  · have hF := (if_neg c_8).symm.trans hF
    refine j_iload_n C 1 dX6_ending_4 rfl rfl ?_
    refine j_bipush (v := (6 : Int32)) C dX6_ending_5 rfl ?_
    refine j_icmp_le C 13 dX6_ending_7 rfl (fun c_7 => ?_) (fun c_7 => ?_)
    · have hF := (if_pos c_7).symm.trans hF
      refine j_aload_n C 0 dX6_ending_13 rfl rfl ?_
      refine j_get (h := fun a => h a 0) (v := .int (oV (M 0) 10)) C 0 10 rfl rfl (Nat.le_of_ble_eq_true rfl) rfl rfl in1_X6 (List.mem_cons_of_mem _ mw_16_9) dX6_ending_14 ?_
      refine j_if_ne C 23 dX6_ending_17 rfl (fun c_6 => ?_) (fun c_6 => ?_)
      · have hF := (if_neg c_6).symm.trans hF
        refine j_aload_n C 0 dX6_ending_23 rfl rfl ?_
        refine j_aload_n C 0 dX6_ending_24 rfl rfl ?_
        refine j_aload_n C 0 dX6_ending_25 rfl rfl ?_
        refine j_get (h := fun a => h a 0) (v := .ref (h 3 0)) C 0 2 rfl rfl (Nat.le_of_ble_eq_true rfl) rfl rfl in1_X6 (List.mem_cons_of_mem _ mw_1_23) dX6_ending_26 ?_
        obtain ⟨r_1, M_2, k_3, hF⟩ := gb2 hF
        refine j_callVi (h := fun a => h a 0) C (os' := (osX6 h M_2)) [.ref (h 3 0)] (kX6_findEnding_3 g h M k_3) [0, 1, 2, 3, 4, 5, 6, 7, 8, 9, 10] rfl rfl rfl rfl 0 rfl rfl (wl_gV mw_33_16 mw_33_17 mw_33_18 mw_1_2 mw_33_19) rfl 1 rfl hd_X6_findEnding ⟨Nat.le_of_ble_eq_true rfl, Nat.le_of_ble_eq_true rfl⟩ (Nat.le_of_ble_eq_true rfl) rfl dX6_ending_29 ?_
        refine j_iload_n C 1 dX6_ending_32 rfl rfl ?_
        obtain ⟨r_4, k_5, hF⟩ := gb1 hF
        refine j_callVi (h := fun a => h a 0) C (os' := (osX6 h M_2)) [.int r_1, .int x1] (kX6_toldOfEnding g h r_1 x1 M_2 k_5) [0, 1, 2, 3, 4, 5, 6, 7, 8, 9, 10] rfl rfl rfl rfl 0 rfl rfl (wl_gV mw_22_7 mw_22_8 mw_22_9 mw_1_2 mw_22_10) rfl 2 rfl hd_X6_toldOfEnding ⟨Nat.le_of_ble_eq_true rfl, Nat.le_of_ble_eq_true rfl⟩ (Nat.le_of_ble_eq_true rfl) rfl dX6_ending_33 ?_
        cases hF
        exact j_iret C Rk dX6_ending_36
      · have hF := (if_pos c_6).symm.trans hF
        refine j_bipush (v := (-103 : Int32)) C dX6_ending_20 rfl ?_
        cases hF
        exact j_iret C Rk dX6_ending_22
    · have hF := (if_neg c_7).symm.trans hF
      refine j_bipush (v := (-102 : Int32)) C dX6_ending_10 rfl ?_
      cases hF
      exact j_iret C Rk dX6_ending_12
/-! HeadsMeet.reading -/
def FX6_reading (x1 : Int32) (M : (Nat → Ob)) : Option (Int32 × (Nat → Ob)) :=
  if x1 < 0 then
    some ((-102 : Int32), M)
  else
    if x1 ≤ (999 : Int32) then
      if (oV (M 0) 10) = 0 then
        some ((-103 : Int32), M)
      else
        b1 (FX5_tellAll 60 (M 8) (M 3)) fun s_1 =>
        lT (sM M 8 s_1) fun M_3 =>
        b1 (FX5_at x1 (M_3 8)) fun r_5 =>
        some (r_5, M_3)
    else
      some ((-102 : Int32), M)
set_option maxRecDepth 100000 in
set_option maxHeartbeats 4000000 in
theorem kX6_reading (g : Gl) (h : Nat → Nat → Nat) (x1 : Int32) (M : (Nat → Ob)) {r : Int32} {M' : (Nat → Ob)} (hF : FX6_reading x1 M = some (r, M')) : Ctr g yX6_reading (Cond.code yX6_reading cX6_reading 2 (some .int) :: wsL_law) 7 159 (osX6 h M) (osX6 h M') [.ref (h 0 0), .int x1] (some (.int r)) := by
  refine Ctr.of (cc := cX6_reading) (maxL := 2) (ret := (some .int)) (by decide) rfl (Nat.le_of_ble_eq_true rfl) ?_
  intro X C Rk
  replace C : CxOk g X cX6_reading RX6 (Cond.code yX6_reading cX6_reading 2 (some .int) :: wsL_law) 2 7 159 := C
  show J g X (osX6 h M) 0 [(0, .ref (h 0 0)), (1, .int x1)] []
  unfold FX6_reading at hF
  refine j_iload_n C 1 dX6_reading_0 rfl rfl ?_
  refine j_if_lt C 11 dX6_reading_1 rfl (fun c_9 => ?_) (fun c_9 => ?_)
  · have hF := (if_pos c_9).symm.trans hF
    refine j_bipush (v := (-102 : Int32)) C dX6_reading_11 rfl ?_
    cases hF
    exact j_iret C Rk dX6_reading_13
  · have hF := (if_neg c_9).symm.trans hF
    refine j_iload_n C 1 dX6_reading_4 rfl rfl ?_
    refine j_sipush (v := (999 : Int32)) C dX6_reading_5 rfl ?_
    refine j_icmp_le C 14 dX6_reading_8 rfl (fun c_8 => ?_) (fun c_8 => ?_)
    · have hF := (if_pos c_8).symm.trans hF
      refine j_aload_n C 0 dX6_reading_14 rfl rfl ?_
      refine j_get (h := fun a => h a 0) (v := .int (oV (M 0) 10)) C 0 10 rfl rfl (Nat.le_of_ble_eq_true rfl) rfl rfl in1_X6 (List.mem_cons_of_mem _ mw_16_9) dX6_reading_15 ?_
      refine j_if_ne C 24 dX6_reading_18 rfl (fun c_7 => ?_) (fun c_7 => ?_)
      · have hF := (if_neg c_7).symm.trans hF
        refine j_aload_n C 0 dX6_reading_24 rfl rfl ?_
        refine j_get (h := fun a => h a 0) (v := .ref (h 8 0)) C 0 7 rfl rfl (Nat.le_of_ble_eq_true rfl) rfl rfl in1_X6 (List.mem_cons_of_mem _ mw_2_10) dX6_reading_25 ?_
        refine j_aload_n C 0 dX6_reading_28 rfl rfl ?_
        refine j_get (h := fun a => h a 0) (v := .ref (h 3 0)) C 0 2 rfl rfl (Nat.le_of_ble_eq_true rfl) rfl rfl in1_X6 (List.mem_cons_of_mem _ mw_1_23) dX6_reading_29 ?_
        obtain ⟨s_1, k_2, hF⟩ := gb1 hF
        obtain ⟨M_3, e_4, hF⟩ := glT hF
        refine j_callVv C (os' := (osX6 h M_3)) [.ref (h 3 0)] (kX5_tellAll g 60 (h 8) (h 3) (M 8) (M 3) k_2) [8, 3] rfl rfl rfl (by rw [e_4]; rfl) 8 rfl rfl (wl_gV mw_34_13 mw_34_14 mw_34_15 mw_2_9 mw_34_16) rfl 1 rfl hd_X5_tellAll ⟨Nat.le_of_ble_eq_true rfl, Nat.le_of_ble_eq_true rfl⟩ (Nat.le_of_ble_eq_true rfl) rfl dX6_reading_32 ?_
        refine j_aload_n C 0 dX6_reading_35 rfl rfl ?_
        refine j_get (h := fun a => h a 0) (v := .ref (h 8 0)) C 0 7 rfl rfl (Nat.le_of_ble_eq_true rfl) rfl rfl in1_X6 (List.mem_cons_of_mem _ mw_2_10) dX6_reading_36 ?_
        refine j_iload_n C 1 dX6_reading_39 rfl rfl ?_
        obtain ⟨r_5, k_6, hF⟩ := gb1 hF
        refine j_callVi C (os' := (osX6 h M_3)) [.int x1] (kX5_at g (h 8) x1 (M_3 8) k_6) [8] rfl rfl rfl rfl 8 rfl rfl (wl_gV mw_36_1 mw_36_2 mw_36_3 mw_2_9 mw_36_4) rfl 1 rfl hd_X5_at ⟨Nat.le_of_ble_eq_true rfl, Nat.le_of_ble_eq_true rfl⟩ (Nat.le_of_ble_eq_true rfl) rfl dX6_reading_40 ?_
        cases hF
        exact j_iret C Rk dX6_reading_43
      · have hF := (if_pos c_7).symm.trans hF
        refine j_bipush (v := (-103 : Int32)) C dX6_reading_21 rfl ?_
        cases hF
        exact j_iret C Rk dX6_reading_23
    · have hF := (if_neg c_8).symm.trans hF
      refine j_bipush (v := (-102 : Int32)) C dX6_reading_11 rfl ?_
      cases hF
      exact j_iret C Rk dX6_reading_13
/-! HeadsMeet.endReading -/
def FX6_endReading (x1 : Int32) (M : (Nat → Ob)) : Option (Int32 × (Nat → Ob)) :=
  if x1 < 0 then
    some ((-102 : Int32), M)
  else
    if x1 ≤ (999 : Int32) then
      if (oV (M 0) 10) = 0 then
        some ((-103 : Int32), M)
      else
        b2 (FX6_findEnding_3 M) fun r_1 M_2 =>
        if r_1 = 0 then
          some ((-2 : Int32), M_2)
        else
          b1 (FX5_tellAll 180 (M_2 8) (M_2 5)) fun s_4 =>
          lT (sM M_2 8 s_4) fun M_6 =>
          b1 (FX5_at x1 (M_6 8)) fun r_8 =>
          some (r_8, M_6)
    else
      some ((-102 : Int32), M)
set_option maxRecDepth 100000 in
set_option maxHeartbeats 4000000 in
theorem kX6_endReading (g : Gl) (h : Nat → Nat → Nat) (x1 : Int32) (M : (Nat → Ob)) {r : Int32} {M' : (Nat → Ob)} (hF : FX6_endReading x1 M = some (r, M')) : Ctr g yX6_endReading (Cond.code yX6_endReading cX6_endReading 2 (some .int) :: wsL_law) 7 159 (osX6 h M) (osX6 h M') [.ref (h 0 0), .int x1] (some (.int r)) := by
  refine Ctr.of (cc := cX6_endReading) (maxL := 2) (ret := (some .int)) (by decide) rfl (Nat.le_of_ble_eq_true rfl) ?_
  intro X C Rk
  replace C : CxOk g X cX6_endReading RX6 (Cond.code yX6_endReading cX6_endReading 2 (some .int) :: wsL_law) 2 7 159 := C
  show J g X (osX6 h M) 0 [(0, .ref (h 0 0)), (1, .int x1)] []
  unfold FX6_endReading at hF
  refine j_iload_n C 1 dX6_endReading_0 rfl rfl ?_
  refine j_if_lt C 11 dX6_endReading_1 rfl (fun c_13 => ?_) (fun c_13 => ?_)
  · have hF := (if_pos c_13).symm.trans hF
    refine j_bipush (v := (-102 : Int32)) C dX6_endReading_11 rfl ?_
    cases hF
    exact j_iret C Rk dX6_endReading_13
  · have hF := (if_neg c_13).symm.trans hF
    refine j_iload_n C 1 dX6_endReading_4 rfl rfl ?_
    refine j_sipush (v := (999 : Int32)) C dX6_endReading_5 rfl ?_
    refine j_icmp_le C 14 dX6_endReading_8 rfl (fun c_12 => ?_) (fun c_12 => ?_)
    · have hF := (if_pos c_12).symm.trans hF
      refine j_aload_n C 0 dX6_endReading_14 rfl rfl ?_
      refine j_get (h := fun a => h a 0) (v := .int (oV (M 0) 10)) C 0 10 rfl rfl (Nat.le_of_ble_eq_true rfl) rfl rfl in1_X6 (List.mem_cons_of_mem _ mw_16_9) dX6_endReading_15 ?_
      refine j_if_ne C 24 dX6_endReading_18 rfl (fun c_11 => ?_) (fun c_11 => ?_)
      · have hF := (if_neg c_11).symm.trans hF
        refine j_aload_n C 0 dX6_endReading_24 rfl rfl ?_
        refine j_aload_n C 0 dX6_endReading_25 rfl rfl ?_
        refine j_get (h := fun a => h a 0) (v := .ref (h 3 0)) C 0 2 rfl rfl (Nat.le_of_ble_eq_true rfl) rfl rfl in1_X6 (List.mem_cons_of_mem _ mw_1_23) dX6_endReading_26 ?_
        obtain ⟨r_1, M_2, k_3, hF⟩ := gb2 hF
        refine j_callVi (h := fun a => h a 0) C (os' := (osX6 h M_2)) [.ref (h 3 0)] (kX6_findEnding_3 g h M k_3) [0, 1, 2, 3, 4, 5, 6, 7, 8, 9, 10] rfl rfl rfl rfl 0 rfl rfl (wl_gV mw_33_16 mw_33_17 mw_33_18 mw_1_2 mw_33_19) rfl 1 rfl hd_X6_findEnding ⟨Nat.le_of_ble_eq_true rfl, Nat.le_of_ble_eq_true rfl⟩ (Nat.le_of_ble_eq_true rfl) rfl dX6_endReading_29 ?_
        refine j_if_ne C 38 dX6_endReading_32 rfl (fun c_10 => ?_) (fun c_10 => ?_)
        · have hF := (if_neg c_10).symm.trans hF
          refine j_aload_n C 0 dX6_endReading_38 rfl rfl ?_
          refine j_get (h := fun a => h a 0) (v := .ref (h 8 0)) C 0 7 rfl rfl (Nat.le_of_ble_eq_true rfl) rfl rfl in1_X6 (List.mem_cons_of_mem _ mw_2_10) dX6_endReading_39 ?_
          refine j_aload_n C 0 dX6_endReading_42 rfl rfl ?_
          refine j_get (h := fun a => h a 0) (v := .ref (h 5 0)) C 0 4 rfl rfl (Nat.le_of_ble_eq_true rfl) rfl rfl in1_X6 (List.mem_cons_of_mem _ mw_2_1) dX6_endReading_43 ?_
          obtain ⟨s_4, k_5, hF⟩ := gb1 hF
          obtain ⟨M_6, e_7, hF⟩ := glT hF
          refine j_callVv C (os' := (osX6 h M_6)) [.ref (h 5 0)] (kX5_tellAll g 180 (h 8) (h 5) (M_2 8) (M_2 5) k_5) [8, 5] rfl rfl rfl (by rw [e_7]; rfl) 8 rfl rfl (wl_gV mw_34_13 mw_34_14 mw_34_15 mw_2_9 mw_34_16) rfl 1 rfl hd_X5_tellAll ⟨Nat.le_of_ble_eq_true rfl, Nat.le_of_ble_eq_true rfl⟩ (Nat.le_of_ble_eq_true rfl) rfl dX6_endReading_46 ?_
          refine j_aload_n C 0 dX6_endReading_49 rfl rfl ?_
          refine j_get (h := fun a => h a 0) (v := .ref (h 8 0)) C 0 7 rfl rfl (Nat.le_of_ble_eq_true rfl) rfl rfl in1_X6 (List.mem_cons_of_mem _ mw_2_10) dX6_endReading_50 ?_
          refine j_iload_n C 1 dX6_endReading_53 rfl rfl ?_
          obtain ⟨r_8, k_9, hF⟩ := gb1 hF
          refine j_callVi C (os' := (osX6 h M_6)) [.int x1] (kX5_at g (h 8) x1 (M_6 8) k_9) [8] rfl rfl rfl rfl 8 rfl rfl (wl_gV mw_36_1 mw_36_2 mw_36_3 mw_2_9 mw_36_4) rfl 1 rfl hd_X5_at ⟨Nat.le_of_ble_eq_true rfl, Nat.le_of_ble_eq_true rfl⟩ (Nat.le_of_ble_eq_true rfl) rfl dX6_endReading_54 ?_
          cases hF
          exact j_iret C Rk dX6_endReading_57
        · have hF := (if_pos c_10).symm.trans hF
          refine j_bipush (v := (-2 : Int32)) C dX6_endReading_35 rfl ?_
          cases hF
          exact j_iret C Rk dX6_endReading_37
      · have hF := (if_pos c_11).symm.trans hF
        refine j_bipush (v := (-103 : Int32)) C dX6_endReading_21 rfl ?_
        cases hF
        exact j_iret C Rk dX6_endReading_23
    · have hF := (if_neg c_12).symm.trans hF
      refine j_bipush (v := (-102 : Int32)) C dX6_endReading_11 rfl ?_
      cases hF
      exact j_iret C Rk dX6_endReading_13
/-! HeadsMeet.same -/
def BX6_same_118 (M : (Nat → Ob)) : Option (Int32 × (Nat → Ob)) :=
  if (0 : Int32) = 0 then
    some ((0 : Int32), M)
  else
    some ((1 : Int32), M)
def FX6_same  (M : (Nat → Ob)) : Option (Int32 × (Nat → Ob)) :=
  if (oV (M 0) 10) = 0 then
    some ((-103 : Int32), M)
  else
    if (oV (M 0) 11) = 0 then
      some ((-103 : Int32), M)
    else
      b2 (FX6_findEnding_4 M) fun r_1 M_2 =>
      if r_1 = 0 then
        some ((-2 : Int32), M_2)
      else
        b1 (FX5_tellAll 180 (M_2 9) (M_2 5)) fun s_4 =>
        lT (sM M_2 9 s_4) fun M_6 =>
        b1 (FX2_rings 180 (M_6 5)) fun r_8 =>
        b2 (FX6_findEnding_3 M_6) fun r_10 M_11 =>
        if r_10 = 0 then
          some ((-2 : Int32), M_11)
        else
          b1 (FX5_tellAll 180 (M_11 8) (M_11 5)) fun s_13 =>
          lT (sM M_11 8 s_13) fun M_15 =>
          b1 (FX2_rings 180 (M_15 5)) fun r_17 =>
          if r_17 = r_8 then
            b1 (FX2_hasOpenWiresOf 60 60 (M_15 3) (M_15 4)) fun r_19 =>
            if r_19 = 0 then
              BX6_same_118 M_15
            else
              b1 (FX5_areLike (M_15 8) (M_15 9)) fun r_21 =>
              if r_21 = 0 then
                BX6_same_118 M_15
              else
                if (1 : Int32) = 0 then
                  some ((0 : Int32), M_15)
                else
                  some ((1 : Int32), M_15)
          else
            BX6_same_118 M_15
set_option maxRecDepth 100000 in
set_option maxHeartbeats 4000000 in
theorem bX6_same_118 {g : Gl} {X : Cxt} (C : CxOk g X cX6_same RX6 (Cond.code yX6_same cX6_same 3 (some .int) :: wsL_law) 3 7 159) {r : Int32} {M' : (Nat → Ob)} (h : Nat → Nat → Nat) (M : (Nat → Ob))  (Rk : RetOk g X (osX6 h M') (some (.int r)) (some .int))  (hF : BX6_same_118  M = some (r, M')) : J g X (osX6 h M) 118 [] [] := by
  unfold BX6_same_118 at hF
  refine j_iconst (v := (0 : Int32)) C dX6_same_118 rfl ?_
  refine j_istore_n C [(2, .int (0 : Int32))] dX6_same_119 rfl (Nat.le_of_ble_eq_true rfl) rfl rfl ?_
  refine j_iload_n C 0 dX6_same_120 rfl rfl ?_
  refine j_if_eq C 128 dX6_same_121 rfl (fun c_24 => ?_) (fun c_24 => ?_)
  · have hF := (if_pos c_24).symm.trans hF
    refine j_iconst (v := (0 : Int32)) C dX6_same_128 rfl ?_
    cases hF
    exact j_iret C Rk dX6_same_129
  · have hF := (if_neg c_24).symm.trans hF
    refine j_iconst (v := (1 : Int32)) C dX6_same_124 rfl ?_
    refine j_goto C 129 dX6_same_125 rfl ?_
    cases hF
    exact j_iret C Rk dX6_same_129
set_option maxRecDepth 100000 in
set_option maxHeartbeats 4000000 in
theorem kX6_same (g : Gl) (h : Nat → Nat → Nat)  (M : (Nat → Ob)) {r : Int32} {M' : (Nat → Ob)} (hF : FX6_same M = some (r, M')) : Ctr g yX6_same (Cond.code yX6_same cX6_same 3 (some .int) :: wsL_law) 7 159 (osX6 h M) (osX6 h M') [.ref (h 0 0)] (some (.int r)) := by
  refine Ctr.of (cc := cX6_same) (maxL := 3) (ret := (some .int)) (by decide) rfl (Nat.le_of_ble_eq_true rfl) ?_
  intro X C Rk
  replace C : CxOk g X cX6_same RX6 (Cond.code yX6_same cX6_same 3 (some .int) :: wsL_law) 3 7 159 := C
  show J g X (osX6 h M) 0 [(0, .ref (h 0 0))] []
  unfold FX6_same at hF
  refine j_aload_n C 0 dX6_same_0 rfl rfl ?_
  refine j_get (h := fun a => h a 0) (v := .int (oV (M 0) 10)) C 0 10 rfl rfl (Nat.le_of_ble_eq_true rfl) rfl rfl in1_X6 (List.mem_cons_of_mem _ mw_16_9) dX6_same_1 ?_
  refine j_if_eq C 14 dX6_same_4 rfl (fun c_31 => ?_) (fun c_31 => ?_)
  · have hF := (if_pos c_31).symm.trans hF
    refine j_bipush (v := (-103 : Int32)) C dX6_same_14 rfl ?_
    cases hF
    exact j_iret C Rk dX6_same_16
  · have hF := (if_neg c_31).symm.trans hF
    refine j_aload_n C 0 dX6_same_7 rfl rfl ?_
    refine j_get (h := fun a => h a 0) (v := .int (oV (M 0) 11)) C 0 11 rfl rfl (Nat.le_of_ble_eq_true rfl) rfl rfl in1_X6 (List.mem_cons_of_mem _ mw_16_10) dX6_same_8 ?_
    refine j_if_ne C 17 dX6_same_11 rfl (fun c_30 => ?_) (fun c_30 => ?_)
    · have hF := (if_neg c_30).symm.trans hF
      refine j_aload_n C 0 dX6_same_17 rfl rfl ?_
      refine j_aload_n C 0 dX6_same_18 rfl rfl ?_
      refine j_get (h := fun a => h a 0) (v := .ref (h 4 0)) C 0 3 rfl rfl (Nat.le_of_ble_eq_true rfl) rfl rfl in1_X6 (List.mem_cons_of_mem _ mw_2_0) dX6_same_19 ?_
      obtain ⟨r_1, M_2, k_3, hF⟩ := gb2 hF
      refine j_callVi (h := fun a => h a 0) C (os' := (osX6 h M_2)) [.ref (h 4 0)] (kX6_findEnding_4 g h M k_3) [0, 1, 2, 3, 4, 5, 6, 7, 8, 9, 10] rfl rfl rfl rfl 0 rfl rfl (wl_gV mw_33_16 mw_33_17 mw_33_18 mw_1_2 mw_33_19) rfl 1 rfl hd_X6_findEnding ⟨Nat.le_of_ble_eq_true rfl, Nat.le_of_ble_eq_true rfl⟩ (Nat.le_of_ble_eq_true rfl) rfl dX6_same_22 ?_
      refine j_if_ne C 31 dX6_same_25 rfl (fun c_29 => ?_) (fun c_29 => ?_)
      · have hF := (if_neg c_29).symm.trans hF
        refine j_aload_n C 0 dX6_same_31 rfl rfl ?_
        refine j_get (h := fun a => h a 0) (v := .ref (h 9 0)) C 0 8 rfl rfl (Nat.le_of_ble_eq_true rfl) rfl rfl in1_X6 (List.mem_cons_of_mem _ mw_2_11) dX6_same_32 ?_
        refine j_aload_n C 0 dX6_same_35 rfl rfl ?_
        refine j_get (h := fun a => h a 0) (v := .ref (h 5 0)) C 0 4 rfl rfl (Nat.le_of_ble_eq_true rfl) rfl rfl in1_X6 (List.mem_cons_of_mem _ mw_2_1) dX6_same_36 ?_
        obtain ⟨s_4, k_5, hF⟩ := gb1 hF
        obtain ⟨M_6, e_7, hF⟩ := glT hF
        refine j_callVv C (os' := (osX6 h M_6)) [.ref (h 5 0)] (kX5_tellAll g 180 (h 9) (h 5) (M_2 9) (M_2 5) k_5) [9, 5] rfl rfl rfl (by rw [e_7]; rfl) 9 rfl rfl (wl_gV mw_34_13 mw_34_14 mw_34_15 mw_2_9 mw_34_16) rfl 1 rfl hd_X5_tellAll ⟨Nat.le_of_ble_eq_true rfl, Nat.le_of_ble_eq_true rfl⟩ (Nat.le_of_ble_eq_true rfl) rfl dX6_same_39 ?_
        refine j_aload_n C 0 dX6_same_42 rfl rfl ?_
        refine j_get (h := fun a => h a 0) (v := .ref (h 5 0)) C 0 4 rfl rfl (Nat.le_of_ble_eq_true rfl) rfl rfl in1_X6 (List.mem_cons_of_mem _ mw_2_1) dX6_same_43 ?_
        obtain ⟨r_8, k_9, hF⟩ := gb1 hF
        refine j_callVi C (os' := (osX6 h M_6)) [] (kX2_rings g 180 (h 5) (M_6 5) k_9) [5] rfl rfl rfl rfl 5 rfl rfl (wl_gV mw_22_15 mw_22_16 mw_22_17 mw_1_22 mw_22_18) rfl 0 rfl hd_X2_rings ⟨Nat.le_of_ble_eq_true rfl, Nat.le_of_ble_eq_true rfl⟩ (Nat.le_of_ble_eq_true rfl) rfl dX6_same_46 ?_
        refine j_istore_n C [(1, .int r_8), (0, .ref (h 0 0))] dX6_same_49 rfl (Nat.le_of_ble_eq_true rfl) rfl rfl ?_
        refine j_aload_n C 1 dX6_same_50 rfl rfl ?_
        refine j_aload_n C 1 dX6_same_51 rfl rfl ?_
        refine j_get (h := fun a => h a 0) (v := .ref (h 3 0)) C 0 2 rfl rfl (Nat.le_of_ble_eq_true rfl) rfl rfl in1_X6 (List.mem_cons_of_mem _ mw_1_23) dX6_same_52 ?_
        obtain ⟨r_10, M_11, k_12, hF⟩ := gb2 hF
        refine j_callVi (h := fun a => h a 0) C (os' := (osX6 h M_11)) [.ref (h 3 0)] (kX6_findEnding_3 g h M_6 k_12) [0, 1, 2, 3, 4, 5, 6, 7, 8, 9, 10] rfl rfl rfl rfl 0 rfl rfl (wl_gV mw_33_16 mw_33_17 mw_33_18 mw_1_2 mw_33_19) rfl 1 rfl hd_X6_findEnding ⟨Nat.le_of_ble_eq_true rfl, Nat.le_of_ble_eq_true rfl⟩ (Nat.le_of_ble_eq_true rfl) rfl dX6_same_55 ?_
        refine j_if_ne C 64 dX6_same_58 rfl (fun c_28 => ?_) (fun c_28 => ?_)
        · have hF := (if_neg c_28).symm.trans hF
          refine j_aload_n C 1 dX6_same_64 rfl rfl ?_
          refine j_get (h := fun a => h a 0) (v := .ref (h 8 0)) C 0 7 rfl rfl (Nat.le_of_ble_eq_true rfl) rfl rfl in1_X6 (List.mem_cons_of_mem _ mw_2_10) dX6_same_65 ?_
          refine j_aload_n C 1 dX6_same_68 rfl rfl ?_
          refine j_get (h := fun a => h a 0) (v := .ref (h 5 0)) C 0 4 rfl rfl (Nat.le_of_ble_eq_true rfl) rfl rfl in1_X6 (List.mem_cons_of_mem _ mw_2_1) dX6_same_69 ?_
          obtain ⟨s_13, k_14, hF⟩ := gb1 hF
          obtain ⟨M_15, e_16, hF⟩ := glT hF
          refine j_callVv C (os' := (osX6 h M_15)) [.ref (h 5 0)] (kX5_tellAll g 180 (h 8) (h 5) (M_11 8) (M_11 5) k_14) [8, 5] rfl rfl rfl (by rw [e_16]; rfl) 8 rfl rfl (wl_gV mw_34_13 mw_34_14 mw_34_15 mw_2_9 mw_34_16) rfl 1 rfl hd_X5_tellAll ⟨Nat.le_of_ble_eq_true rfl, Nat.le_of_ble_eq_true rfl⟩ (Nat.le_of_ble_eq_true rfl) rfl dX6_same_72 ?_
          refine j_aload_n C 1 dX6_same_75 rfl rfl ?_
          refine j_get (h := fun a => h a 0) (v := .ref (h 5 0)) C 0 4 rfl rfl (Nat.le_of_ble_eq_true rfl) rfl rfl in1_X6 (List.mem_cons_of_mem _ mw_2_1) dX6_same_76 ?_
          obtain ⟨r_17, k_18, hF⟩ := gb1 hF
          refine j_callVi C (os' := (osX6 h M_15)) [] (kX2_rings g 180 (h 5) (M_15 5) k_18) [5] rfl rfl rfl rfl 5 rfl rfl (wl_gV mw_22_15 mw_22_16 mw_22_17 mw_1_22 mw_22_18) rfl 0 rfl hd_X2_rings ⟨Nat.le_of_ble_eq_true rfl, Nat.le_of_ble_eq_true rfl⟩ (Nat.le_of_ble_eq_true rfl) rfl dX6_same_79 ?_
          refine j_iload_n C 0 dX6_same_82 rfl rfl ?_
          refine j_icmp_ne C 118 dX6_same_83 rfl (fun c_27 => ?_) (fun c_27 => ?_)
          · have hF := (if_neg c_27).symm.trans hF
            refine j_sub [] [] rfl ?_
            exact bX6_same_118 C h _ Rk  hF
          · have hF := (if_pos c_27).symm.trans hF
            refine j_aload_n C 1 dX6_same_86 rfl rfl ?_
            refine j_get (h := fun a => h a 0) (v := .ref (h 3 0)) C 0 2 rfl rfl (Nat.le_of_ble_eq_true rfl) rfl rfl in1_X6 (List.mem_cons_of_mem _ mw_1_23) dX6_same_87 ?_
            refine j_aload_n C 1 dX6_same_90 rfl rfl ?_
            refine j_get (h := fun a => h a 0) (v := .ref (h 4 0)) C 0 3 rfl rfl (Nat.le_of_ble_eq_true rfl) rfl rfl in1_X6 (List.mem_cons_of_mem _ mw_2_0) dX6_same_91 ?_
            obtain ⟨r_19, k_20, hF⟩ := gb1 hF
            refine j_callVi C (os' := (osX6 h M_15)) [.ref (h 4 0)] (kX2_hasOpenWiresOf g 60 60 (h 3) (h 4) (M_15 3) (M_15 4) k_20) [3, 4] rfl rfl rfl rfl 3 rfl rfl (wl_gV mw_37_16 mw_37_17 mw_37_18 mw_1_22 mw_37_19) rfl 1 rfl hd_X2_hasOpenWiresOf ⟨Nat.le_of_ble_eq_true rfl, Nat.le_of_ble_eq_true rfl⟩ (Nat.le_of_ble_eq_true rfl) rfl dX6_same_94 ?_
            refine j_if_eq C 118 dX6_same_97 rfl (fun c_26 => ?_) (fun c_26 => ?_)
            · have hF := (if_pos c_26).symm.trans hF
              refine j_sub [] [] rfl ?_
              exact bX6_same_118 C h _ Rk  hF
            · have hF := (if_neg c_26).symm.trans hF
              refine j_aload_n C 1 dX6_same_100 rfl rfl ?_
              refine j_get (h := fun a => h a 0) (v := .ref (h 8 0)) C 0 7 rfl rfl (Nat.le_of_ble_eq_true rfl) rfl rfl in1_X6 (List.mem_cons_of_mem _ mw_2_10) dX6_same_101 ?_
              refine j_aload_n C 1 dX6_same_104 rfl rfl ?_
              refine j_get (h := fun a => h a 0) (v := .ref (h 9 0)) C 0 8 rfl rfl (Nat.le_of_ble_eq_true rfl) rfl rfl in1_X6 (List.mem_cons_of_mem _ mw_2_11) dX6_same_105 ?_
              obtain ⟨r_21, k_22, hF⟩ := gb1 hF
              refine j_callVi C (os' := (osX6 h M_15)) [.ref (h 9 0)] (kX5_areLike g (h 8) (h 9) (M_15 8) (M_15 9) k_22) [8, 9] rfl rfl rfl rfl 8 rfl rfl (wl_gV mw_37_21 mw_37_22 mw_37_23 mw_2_9 mw_38_0) rfl 1 rfl hd_X5_areLike ⟨Nat.le_of_ble_eq_true rfl, Nat.le_of_ble_eq_true rfl⟩ (Nat.le_of_ble_eq_true rfl) rfl dX6_same_108 ?_
              refine j_if_eq C 118 dX6_same_111 rfl (fun c_25 => ?_) (fun c_25 => ?_)
              · have hF := (if_pos c_25).symm.trans hF
                refine j_sub [] [] rfl ?_
                exact bX6_same_118 C h _ Rk  hF
              · have hF := (if_neg c_25).symm.trans hF
                refine j_iconst (v := (1 : Int32)) C dX6_same_114 rfl ?_
                refine j_goto C 119 dX6_same_115 rfl ?_
                refine j_istore_n C [(2, .int (1 : Int32)), (1, .int r_8), (0, .ref (h 0 0))] dX6_same_119 rfl (Nat.le_of_ble_eq_true rfl) rfl rfl ?_
                refine j_iload_n C 0 dX6_same_120 rfl rfl ?_
                refine j_if_eq C 128 dX6_same_121 rfl (fun c_23 => ?_) (fun c_23 => ?_)
                · have hF := (if_pos c_23).symm.trans hF
                  refine j_iconst (v := (0 : Int32)) C dX6_same_128 rfl ?_
                  cases hF
                  exact j_iret C Rk dX6_same_129
                · have hF := (if_neg c_23).symm.trans hF
                  refine j_iconst (v := (1 : Int32)) C dX6_same_124 rfl ?_
                  refine j_goto C 129 dX6_same_125 rfl ?_
                  cases hF
                  exact j_iret C Rk dX6_same_129
        · have hF := (if_pos c_28).symm.trans hF
          refine j_bipush (v := (-2 : Int32)) C dX6_same_61 rfl ?_
          cases hF
          exact j_iret C Rk dX6_same_63
      · have hF := (if_pos c_29).symm.trans hF
        refine j_bipush (v := (-2 : Int32)) C dX6_same_28 rfl ?_
        cases hF
        exact j_iret C Rk dX6_same_30
    · have hF := (if_pos c_30).symm.trans hF
      refine j_bipush (v := (-103 : Int32)) C dX6_same_14 rfl ?_
      cases hF
      exact j_iret C Rk dX6_same_16
/-! HeadsMeet.see -/
def FX6_see (x1 : Int32) (x2 : Int32) (x3 : Int32) (M : (Nat → Ob)) : Option (Int32 × (Nat → Ob)) :=
  b1 (FX2_kindOf 60 x1 (M 3)) fun r_1 =>
  if (1 : Int32) ≤ r_1 then
    if x2 < 0 then
      some ((-102 : Int32), M)
    else
      if (4 : Int32) ≤ x2 then
        some ((-102 : Int32), M)
      else
        if x3 < (-1 : Int32) then
          some ((-102 : Int32), M)
        else
          if x3 ≤ (60 : Int32) then
            b2 (FX4_add x1 x2 x3 (M 6)) fun r_3 s_4 =>
            lT (sM M 6 s_4) fun M_6 =>
            if r_3 = 0 then
              some ((-104 : Int32), M_6)
            else
              b1 (FX4_size (M_6 6)) fun r_8 =>
              some (r_8, M_6)
          else
            some ((-102 : Int32), M)
  else
    some ((-101 : Int32), M)
set_option maxRecDepth 100000 in
set_option maxHeartbeats 4000000 in
theorem kX6_see (g : Gl) (h : Nat → Nat → Nat) (x1 : Int32) (x2 : Int32) (x3 : Int32) (M : (Nat → Ob)) {r : Int32} {M' : (Nat → Ob)} (hF : FX6_see x1 x2 x3 M = some (r, M')) : Ctr g yX6_see (Cond.code yX6_see cX6_see 4 (some .int) :: wsL_law) 1 23 (osX6 h M) (osX6 h M') [.ref (h 0 0), .int x1, .int x2, .int x3] (some (.int r)) := by
  refine Ctr.of (cc := cX6_see) (maxL := 4) (ret := (some .int)) (by decide) rfl (Nat.le_of_ble_eq_true rfl) ?_
  intro X C Rk
  replace C : CxOk g X cX6_see RX6 (Cond.code yX6_see cX6_see 4 (some .int) :: wsL_law) 4 1 23 := C
  show J g X (osX6 h M) 0 [(0, .ref (h 0 0)), (1, .int x1), (2, .int x2), (3, .int x3)] []
  unfold FX6_see at hF
  refine j_aload_n C 0 dX6_see_0 rfl rfl ?_
  refine j_get (h := fun a => h a 0) (v := .ref (h 3 0)) C 0 2 rfl rfl (Nat.le_of_ble_eq_true rfl) rfl rfl in1_X6 (List.mem_cons_of_mem _ mw_1_23) dX6_see_1 ?_
  refine j_iload_n C 1 dX6_see_4 rfl rfl ?_
  obtain ⟨r_1, k_2, hF⟩ := gb1 hF
  refine j_callVi C (os' := (osX6 h M)) [.int x1] (kX2_kindOf g 60 (h 3) x1 (M 3) k_2) [3] rfl rfl rfl rfl 3 rfl rfl (wl_gV mw_19_1 mw_13_12 mw_13_13 mw_1_22 mw_13_14) rfl 1 rfl hd_X2_kindOf ⟨Nat.le_of_ble_eq_true rfl, Nat.le_of_ble_eq_true rfl⟩ (Nat.le_of_ble_eq_true rfl) rfl dX6_see_5 ?_
  refine j_iconst (v := (1 : Int32)) C dX6_see_8 rfl ?_
  refine j_icmp_ge C 15 dX6_see_9 rfl (fun c_15 => ?_) (fun c_15 => ?_)
  · have hF := (if_pos c_15).symm.trans hF
    refine j_iload_n C 2 dX6_see_15 rfl rfl ?_
    refine j_if_lt C 35 dX6_see_16 rfl (fun c_14 => ?_) (fun c_14 => ?_)
    · have hF := (if_pos c_14).symm.trans hF
      refine j_bipush (v := (-102 : Int32)) C dX6_see_35 rfl ?_
      cases hF
      exact j_iret C Rk dX6_see_37
    · have hF := (if_neg c_14).symm.trans hF
      refine j_iload_n C 2 dX6_see_19 rfl rfl ?_
      refine j_iconst (v := (4 : Int32)) C dX6_see_20 rfl ?_
      refine j_icmp_ge C 35 dX6_see_21 rfl (fun c_13 => ?_) (fun c_13 => ?_)
      · have hF := (if_pos c_13).symm.trans hF
        refine j_bipush (v := (-102 : Int32)) C dX6_see_35 rfl ?_
        cases hF
        exact j_iret C Rk dX6_see_37
      · have hF := (if_neg c_13).symm.trans hF
        refine j_iload_n C 3 dX6_see_24 rfl rfl ?_
        refine j_iconst (v := (-1 : Int32)) C dX6_see_25 rfl ?_
        refine j_icmp_lt C 35 dX6_see_26 rfl (fun c_12 => ?_) (fun c_12 => ?_)
        · have hF := (if_pos c_12).symm.trans hF
          refine j_bipush (v := (-102 : Int32)) C dX6_see_35 rfl ?_
          cases hF
          exact j_iret C Rk dX6_see_37
        · have hF := (if_neg c_12).symm.trans hF
          refine j_iload_n C 3 dX6_see_29 rfl rfl ?_
          refine j_bipush (v := (60 : Int32)) C dX6_see_30 rfl ?_
          refine j_icmp_le C 38 dX6_see_32 rfl (fun c_11 => ?_) (fun c_11 => ?_)
          · have hF := (if_pos c_11).symm.trans hF
            refine j_aload_n C 0 dX6_see_38 rfl rfl ?_
            refine j_get (h := fun a => h a 0) (v := .ref (h 6 0)) C 0 5 rfl rfl (Nat.le_of_ble_eq_true rfl) rfl rfl in1_X6 (List.mem_cons_of_mem _ mw_2_5) dX6_see_39 ?_
            refine j_iload_n C 1 dX6_see_42 rfl rfl ?_
            refine j_iload_n C 2 dX6_see_43 rfl rfl ?_
            refine j_iload_n C 3 dX6_see_44 rfl rfl ?_
            obtain ⟨r_3, s_4, k_5, hF⟩ := gb2 hF
            obtain ⟨M_6, e_7, hF⟩ := glT hF
            refine j_callVi C (os' := (osX6 h M_6)) [.int x1, .int x2, .int x3] (kX4_add g (h 6) x1 x2 x3 (M 6) k_5) [6] rfl rfl rfl (by rw [e_7]; rfl) 6 rfl rfl (wl_gV mw_38_12 mw_38_13 mw_38_14 mw_2_4 mw_38_15) rfl 3 rfl hd_X4_add ⟨Nat.le_of_ble_eq_true rfl, Nat.le_of_ble_eq_true rfl⟩ (Nat.le_of_ble_eq_true rfl) rfl dX6_see_45 ?_
            refine j_if_eq C 61 dX6_see_48 rfl (fun c_10 => ?_) (fun c_10 => ?_)
            · have hF := (if_pos c_10).symm.trans hF
              refine j_bipush (v := (-104 : Int32)) C dX6_see_61 rfl ?_
              cases hF
              exact j_iret C Rk dX6_see_63
            · have hF := (if_neg c_10).symm.trans hF
              refine j_aload_n C 0 dX6_see_51 rfl rfl ?_
              refine j_get (h := fun a => h a 0) (v := .ref (h 6 0)) C 0 5 rfl rfl (Nat.le_of_ble_eq_true rfl) rfl rfl in1_X6 (List.mem_cons_of_mem _ mw_2_5) dX6_see_52 ?_
              obtain ⟨r_8, k_9, hF⟩ := gb1 hF
              refine j_callVi C (os' := (osX6 h M_6)) [] (kX4_size g (h 6) (M_6 6) k_9) [6] rfl rfl rfl rfl 6 rfl rfl (wl_gV mw_38_16 mw_38_17 mw_38_18 mw_2_4 mw_38_19) rfl 0 rfl hd_X4_size ⟨Nat.le_of_ble_eq_true rfl, Nat.le_of_ble_eq_true rfl⟩ (Nat.le_of_ble_eq_true rfl) rfl dX6_see_55 ?_
              refine j_goto C 63 dX6_see_58 rfl ?_
              cases hF
              exact j_iret C Rk dX6_see_63
          · have hF := (if_neg c_11).symm.trans hF
            refine j_bipush (v := (-102 : Int32)) C dX6_see_35 rfl ?_
            cases hF
            exact j_iret C Rk dX6_see_37
  · have hF := (if_neg c_15).symm.trans hF
    refine j_bipush (v := (-101 : Int32)) C dX6_see_12 rfl ?_
    cases hF
    exact j_iret C Rk dX6_see_14
/-! HeadsMeet.forget -/
def FX6_forget  (M : (Nat → Ob)) : Option (Int32 × (Nat → Ob)) :=
  b2 (FX4_clear (M 6)) fun r_1 s_2 =>
  lT (sM M 6 s_2) fun M_4 =>
  some (r_1, M_4)
set_option maxRecDepth 100000 in
set_option maxHeartbeats 4000000 in
theorem kX6_forget (g : Gl) (h : Nat → Nat → Nat)  (M : (Nat → Ob)) {r : Int32} {M' : (Nat → Ob)} (hF : FX6_forget M = some (r, M')) : Ctr g yX6_forget (Cond.code yX6_forget cX6_forget 1 (some .int) :: wsL_law) 1 21 (osX6 h M) (osX6 h M') [.ref (h 0 0)] (some (.int r)) := by
  refine Ctr.of (cc := cX6_forget) (maxL := 1) (ret := (some .int)) (by decide) rfl (Nat.le_of_ble_eq_true rfl) ?_
  intro X C Rk
  replace C : CxOk g X cX6_forget RX6 (Cond.code yX6_forget cX6_forget 1 (some .int) :: wsL_law) 1 1 21 := C
  show J g X (osX6 h M) 0 [(0, .ref (h 0 0))] []
  unfold FX6_forget at hF
  refine j_aload_n C 0 dX6_forget_0 rfl rfl ?_
  refine j_get (h := fun a => h a 0) (v := .ref (h 6 0)) C 0 5 rfl rfl (Nat.le_of_ble_eq_true rfl) rfl rfl in1_X6 (List.mem_cons_of_mem _ mw_2_5) dX6_forget_1 ?_
  obtain ⟨r_1, s_2, k_3, hF⟩ := gb2 hF
  obtain ⟨M_4, e_5, hF⟩ := glT hF
  refine j_callVi C (os' := (osX6 h M_4)) [] (kX4_clear g (h 6) (M 6) k_3) [6] rfl rfl rfl (by rw [e_5]; rfl) 6 rfl rfl (wl_gV mw_17_22 mw_17_23 mw_18_0 mw_2_4 mw_18_1) rfl 0 rfl hd_X4_clear ⟨Nat.le_of_ble_eq_true rfl, Nat.le_of_ble_eq_true rfl⟩ (Nat.le_of_ble_eq_true rfl) rfl dX6_forget_4 ?_
  cases hF
  exact j_iret C Rk dX6_forget_7
/-! HeadsMeet.nextSeed -/
def FX6_nextSeed (x0 : Int32)  : Option (Int32) :=
  some (((((1103515245 : Int64) * x0.toInt64) + (12345 : Int64)) &&& (2147483647 : Int64)).toInt32)
set_option maxRecDepth 100000 in
set_option maxHeartbeats 4000000 in
theorem kX6_nextSeed (g : Gl)  (x0 : Int32)  {r : Int32} (hF : FX6_nextSeed x0 = some r) : Ctr g yX6_nextSeed (Cond.code yX6_nextSeed cX6_nextSeed 1 (some .int) :: wsL_law) 0 0 [] [] [.int x0] (some (.int r)) := by
  refine Ctr.of (cc := cX6_nextSeed) (maxL := 1) (ret := (some .int)) (by decide) rfl (Nat.le_of_ble_eq_true rfl) ?_
  intro X C Rk
  replace C : CxOk g X cX6_nextSeed RX6 (Cond.code yX6_nextSeed cX6_nextSeed 1 (some .int) :: wsL_law) 1 0 0 := C
  show J g X [] 0 [(0, .int x0)] []
  unfold FX6_nextSeed at hF
  refine j_ldc2 (v := (1103515245 : Int64)) C (List.mem_cons_of_mem _ mw_39_17) dX6_nextSeed_0 ?_
  refine j_iload_n C 0 dX6_nextSeed_3 rfl rfl ?_
  refine j_i2l C dX6_nextSeed_4 ?_
  refine j_lmul C dX6_nextSeed_5 ?_
  refine j_ldc2 (v := (12345 : Int64)) C (List.mem_cons_of_mem _ mw_39_18) dX6_nextSeed_6 ?_
  refine j_ladd C dX6_nextSeed_9 ?_
  refine j_ldc2 (v := (2147483647 : Int64)) C (List.mem_cons_of_mem _ mw_39_19) dX6_nextSeed_10 ?_
  refine j_land C dX6_nextSeed_13 ?_
  refine j_l2i C dX6_nextSeed_14 ?_
  cases hF
  exact j_iret C Rk dX6_nextSeed_15
/-! HeadsMeet.runs -/
def LX6_runs_63 (x1 : Int32) (x3 : Int32) (E136 : Int32 → Int32 → Int32 → (Nat → Ob) → Option (Int32 × (Nat → Ob))) (E83 : Int32 → Int32 → Int32 → (Nat → Ob) → Option (Int32 × (Nat → Ob))) : Nat → Int32 → Int32 → Int32 → (Nat → Ob) → Option (Int32 × (Nat → Ob))
  | 0, _, _, _, _ => none
  | n + 1, x4, x5, x6, M =>
    if x1 ≤ x6 then
      E136 x4 x5 x6 M
    else
      b2 (FX2_listMeetings 180 (M 5)) fun r_7 s_8 =>
      lT (sM M 5 s_8) fun M_10 =>
      if 0 < r_7 then
        b1 (FX6_nextSeed x4) fun r_12 =>
        if ¬ r_7 = 0 then
        b1 (FX2_listedAt 180 ((r_12 / (65536 : Int32)) - (r_12 / (65536 : Int32)) / r_7 * r_7) (M_10 5)) fun r_15 =>
        b2 (FX2_perform 180 r_15 (M_10 5)) fun r_17 s_18 =>
        lT (sM M_10 5 s_18) fun M_20 =>
        b1 (FX2_nodes 180 (M_20 5)) fun r_22 =>
        lT (if x5 < r_22 then r_22 else x5) fun x5_24 =>
        lT (x6 + (1 : Int32)) fun x6_26 =>
        LX6_runs_63 x1 x3 E136 E83 n r_12 x5_24 x6_26 M_20
        else none
      else
        E83 x4 x5 x6 M_10
def FX6_runs (x1 : Int32) (x2 : Int32) (x3 : Int32) (M : (Nat → Ob)) : Option (Int32 × (Nat → Ob)) :=
  if x1 < (1 : Int32) then
    some ((-102 : Int32), M)
  else
    if (60 : Int32) < x1 then
      some ((-102 : Int32), M)
    else
      if x2 < 0 then
        some ((-102 : Int32), M)
      else
        if x3 < 0 then
          some ((-102 : Int32), M)
        else
          if x3 ≤ (2 : Int32) then
            if (oV (M 0) 10) = 0 then
              some ((-103 : Int32), M)
            else
              b1 (FX2_copyFrom 180 60 (M 5) (M 3)) fun s_1 =>
              lT (sM M 5 s_1) fun M_3 =>
              b1 (FX2_nodes 180 (M_3 5)) fun r_5 =>
              LX6_runs_63 x1 x3 (fun x4_30 x5_31 x6_32 M_33 =>
               if x3 = 0 then
                some (x6_32, M_33)
               else
                if x3 = (1 : Int32) then
                 some (x5_31, M_33)
                else
                 some (x4_30, M_33)) (fun x4_36 x5_37 x6_38 M_39 =>
               if x3 = 0 then
                some (x6_38, M_39)
               else
                if x3 = (1 : Int32) then
                 some (x5_37, M_39)
                else
                 some (x4_36, M_39)) fu x2 r_5 (0 : Int32) M_3
          else
            some ((-102 : Int32), M)
set_option maxRecDepth 100000 in
set_option maxHeartbeats 4000000 in
theorem lX6_runs_63 {g : Gl} {X : Cxt} (C : CxOk g X cX6_runs RX6 (Cond.code yX6_runs cX6_runs 8 (some .int) :: wsL_law) 8 4 98) {r : Int32} {M' : (Nat → Ob)} (h : Nat → Nat → Nat) (x1 : Int32) (x3 : Int32) (E136 : Int32 → Int32 → Int32 → (Nat → Ob) → Option (Int32 × (Nat → Ob))) (E83 : Int32 → Int32 → Int32 → (Nat → Ob) → Option (Int32 × (Nat → Ob))) (Rk : RetOk g X (osX6 h M') (some (.int r)) (some .int)) (hE136 : ∀ (x4 : Int32) (x5 : Int32) (x6 : Int32) (M : (Nat → Ob)), E136 x4 x5 x6 M = some (r, M') → J g X (osX6 h M) 136 [(3, .int x3), (4, .int x4), (5, .int x5), (6, .int x6)] []) (hE83 : ∀ (x4 : Int32) (x5 : Int32) (x6 : Int32) (M : (Nat → Ob)), E83 x4 x5 x6 M = some (r, M') → J g X (osX6 h M) 83 [(3, .int x3), (4, .int x4), (5, .int x5), (6, .int x6)] []) : ∀ (n : Nat) (x4 : Int32) (x5 : Int32) (x6 : Int32) (M : (Nat → Ob)), LX6_runs_63 x1 x3 E136 E83 n x4 x5 x6 M = some (r, M') → J g X (osX6 h M) 63 [(0, .ref (h 0 0)), (1, .int x1), (3, .int x3), (4, .int x4), (5, .int x5), (6, .int x6)] [] := by
  intro n
  induction n with
  | zero =>
    intro x4 x5 x6 M hF
    cases hF
  | succ n ih =>
    intro x4 x5 x6 M hF
    rw [LX6_runs_63.eq_2] at hF
    refine j_iload C 5 dX6_runs_63 rfl ?_
    refine j_iload_n C 1 dX6_runs_65 rfl rfl ?_
    refine j_icmp_ge C 136 dX6_runs_66 rfl (fun c_29 => ?_) (fun c_29 => ?_)
    · have hF := (if_pos c_29).symm.trans hF
      refine j_sub [(3, .int x3), (4, .int x4), (5, .int x5), (6, .int x6)] [2, 3, 4, 5] rfl ?_
      exact hE136 _ _ _ _ hF
    · have hF := (if_neg c_29).symm.trans hF
      refine j_aload_n C 0 dX6_runs_69 rfl rfl ?_
      refine j_get (h := fun a => h a 0) (v := .ref (h 5 0)) C 0 4 rfl rfl (Nat.le_of_ble_eq_true rfl) rfl rfl in1_X6 (List.mem_cons_of_mem _ mw_2_1) dX6_runs_70 ?_
      obtain ⟨r_7, s_8, k_9, hF⟩ := gb2 hF
      obtain ⟨M_10, e_11, hF⟩ := glT hF
      refine j_callVi C (os' := (osX6 h M_10)) [] (kX2_listMeetings g 180 (h 5) (M 5) k_9) [5] rfl rfl rfl (by rw [e_11]; rfl) 5 rfl rfl (wl_gV mw_30_1 mw_20_16 mw_20_17 mw_1_22 mw_20_18) rfl 0 rfl hd_X2_listMeetings ⟨Nat.le_of_ble_eq_true rfl, Nat.le_of_ble_eq_true rfl⟩ (Nat.le_of_ble_eq_true rfl) rfl dX6_runs_73 ?_
      refine j_istore C [(7, .int r_7), (0, .ref (h 0 0)), (1, .int x1), (3, .int x3), (4, .int x4), (5, .int x5), (6, .int x6)] dX6_runs_76 (Nat.le_of_ble_eq_true rfl) rfl rfl ?_
      refine j_iload C 0 dX6_runs_78 rfl ?_
      refine j_if_gt C 86 dX6_runs_80 rfl (fun c_28 => ?_) (fun c_28 => ?_)
      · have hF := (if_pos c_28).symm.trans hF
        refine j_iload C 4 dX6_runs_86 rfl ?_
        obtain ⟨r_12, k_13, hF⟩ := gb1 hF
        refine j_callSi C (os' := (osX6 h M_10)) [.int x4] (kX6_nextSeed g x4 k_13) [] rfl rfl rfl rfl (wl_gS mw_39_14 mw_39_15 mw_1_2 mw_39_16) rfl 1 rfl hd_X6_nextSeed ⟨Nat.le_of_ble_eq_true rfl, Nat.le_of_ble_eq_true rfl⟩ (Nat.le_of_ble_eq_true rfl) rfl dX6_runs_88 ?_
        refine j_istore C [(4, .int r_12), (7, .int r_7), (0, .ref (h 0 0)), (1, .int x1), (3, .int x3), (5, .int x5), (6, .int x6)] dX6_runs_91 (Nat.le_of_ble_eq_true rfl) rfl rfl ?_
        refine j_aload_n C 2 dX6_runs_93 rfl rfl ?_
        refine j_get (h := fun a => h a 0) (v := .ref (h 5 0)) C 0 4 rfl rfl (Nat.le_of_ble_eq_true rfl) rfl rfl in1_X6 (List.mem_cons_of_mem _ mw_2_1) dX6_runs_94 ?_
        refine j_aload_n C 2 dX6_runs_97 rfl rfl ?_
        refine j_get (h := fun a => h a 0) (v := .ref (h 5 0)) C 0 4 rfl rfl (Nat.le_of_ble_eq_true rfl) rfl rfl in1_X6 (List.mem_cons_of_mem _ mw_2_1) dX6_runs_98 ?_
        refine j_iload C 0 dX6_runs_101 rfl ?_
        refine j_ldc (v := (65536 : Int32)) C (List.mem_cons_of_mem _ mw_39_12) dX6_runs_103 ?_
        refine j_idiv C (by decide) dX6_runs_105 ?_
        refine j_iload C 1 dX6_runs_106 rfl ?_
        obtain ⟨z_14, hF⟩ := gi hF
        refine j_irem C z_14 dX6_runs_108 ?_
        obtain ⟨r_15, k_16, hF⟩ := gb1 hF
        refine j_callVi C (os' := (osX6 h M_10)) [.int ((r_12 / (65536 : Int32)) - (r_12 / (65536 : Int32)) / r_7 * r_7)] (kX2_listedAt g 180 (h 5) ((r_12 / (65536 : Int32)) - (r_12 / (65536 : Int32)) / r_7 * r_7) (M_10 5) k_16) [5] rfl rfl rfl rfl 5 rfl rfl (wl_gV mw_30_2 mw_20_21 mw_20_22 mw_1_22 mw_20_23) rfl 1 rfl hd_X2_listedAt ⟨Nat.le_of_ble_eq_true rfl, Nat.le_of_ble_eq_true rfl⟩ (Nat.le_of_ble_eq_true rfl) rfl dX6_runs_109 ?_
        obtain ⟨r_17, s_18, k_19, hF⟩ := gb2 hF
        obtain ⟨M_20, e_21, hF⟩ := glT hF
        refine j_callVi C (os' := (osX6 h M_20)) [.int r_15] (kX2_perform g 180 (h 5) r_15 (M_10 5) k_19) [5] rfl rfl rfl (by rw [e_21]; rfl) 5 rfl rfl (wl_gV mw_30_20 mw_21_1 mw_21_2 mw_1_22 mw_21_3) rfl 1 rfl hd_X2_perform ⟨Nat.le_of_ble_eq_true rfl, Nat.le_of_ble_eq_true rfl⟩ (Nat.le_of_ble_eq_true rfl) rfl dX6_runs_112 ?_
        refine j_pop C rfl dX6_runs_115 ?_
        refine j_iload C 5 dX6_runs_116 rfl ?_
        refine j_aload_n C 2 dX6_runs_118 rfl rfl ?_
        refine j_get (h := fun a => h a 0) (v := .ref (h 5 0)) C 0 4 rfl rfl (Nat.le_of_ble_eq_true rfl) rfl rfl in1_X6 (List.mem_cons_of_mem _ mw_2_1) dX6_runs_119 ?_
        obtain ⟨r_22, k_23, hF⟩ := gb1 hF
        refine j_callVi C (os' := (osX6 h M_20)) [] (kX2_nodes g 180 (h 5) (M_20 5) k_23) [5] rfl rfl rfl rfl 5 rfl rfl (wl_gV mw_16_16 mw_16_17 mw_16_18 mw_1_22 mw_16_19) rfl 0 rfl hd_X2_nodes ⟨Nat.le_of_ble_eq_true rfl, Nat.le_of_ble_eq_true rfl⟩ (Nat.le_of_ble_eq_true rfl) rfl dX6_runs_122 ?_
        refine j_mmax C (List.mem_cons_of_mem _ mw_39_13) (List.mem_cons_of_mem _ mw_10_18) (List.mem_cons_of_mem _ mw_10_19) (List.mem_cons_of_mem _ mw_10_20) (Nat.le_of_ble_eq_true rfl) (Nat.le_of_ble_eq_true rfl) dX6_runs_125 ?_
        obtain ⟨x5_24, e_25, hF⟩ := glT hF
        refine j_istore C [(5, .int x5_24), (4, .int r_12), (7, .int r_7), (0, .ref (h 0 0)), (1, .int x1), (3, .int x3), (6, .int x6)] dX6_runs_128 (Nat.le_of_ble_eq_true rfl) e_25 rfl ?_
        obtain ⟨x6_26, e_27, hF⟩ := glT hF
        refine j_iinc C 6 [(6, .int x6_26), (5, .int x5_24), (4, .int r_12), (7, .int r_7), (0, .ref (h 0 0)), (1, .int x1), (3, .int x3)] dX6_runs_130 rfl e_27.symm (Nat.le_of_ble_eq_true rfl) rfl ?_
        refine j_goto C 63 dX6_runs_133 rfl ?_
        refine j_sub [(0, .ref (h 0 0)), (1, .int x1), (3, .int x3), (4, .int r_12), (5, .int x5_24), (6, .int x6_26)] [4, 5, 6, 2, 1, 0] rfl ?_
        exact ih _ _ _ _ hF
      · have hF := (if_neg c_28).symm.trans hF
        refine j_sub [(3, .int x3), (4, .int x4), (5, .int x5), (6, .int x6)] [3, 4, 5, 6] rfl ?_
        exact hE83 _ _ _ _ hF
set_option maxRecDepth 100000 in
set_option maxHeartbeats 4000000 in
theorem kX6_runs (g : Gl) (h : Nat → Nat → Nat) (x1 : Int32) (x2 : Int32) (x3 : Int32) (M : (Nat → Ob)) {r : Int32} {M' : (Nat → Ob)} (hF : FX6_runs x1 x2 x3 M = some (r, M')) : Ctr g yX6_runs (Cond.code yX6_runs cX6_runs 8 (some .int) :: wsL_law) 4 98 (osX6 h M) (osX6 h M') [.ref (h 0 0), .int x1, .int x2, .int x3] (some (.int r)) := by
  refine Ctr.of (cc := cX6_runs) (maxL := 8) (ret := (some .int)) (by decide) rfl (Nat.le_of_ble_eq_true rfl) ?_
  intro X C Rk
  replace C : CxOk g X cX6_runs RX6 (Cond.code yX6_runs cX6_runs 8 (some .int) :: wsL_law) 8 4 98 := C
  show J g X (osX6 h M) 0 [(0, .ref (h 0 0)), (1, .int x1), (2, .int x2), (3, .int x3)] []
  unfold FX6_runs at hF
  refine j_iload_n C 1 dX6_runs_0 rfl rfl ?_
  refine j_iconst (v := (1 : Int32)) C dX6_runs_1 rfl ?_
  refine j_icmp_lt C 24 dX6_runs_2 rfl (fun c_47 => ?_) (fun c_47 => ?_)
  · have hF := (if_pos c_47).symm.trans hF
    refine j_bipush (v := (-102 : Int32)) C dX6_runs_24 rfl ?_
    cases hF
    exact j_iret C Rk dX6_runs_26
  · have hF := (if_neg c_47).symm.trans hF
    refine j_iload_n C 1 dX6_runs_5 rfl rfl ?_
    refine j_bipush (v := (60 : Int32)) C dX6_runs_6 rfl ?_
    refine j_icmp_gt C 24 dX6_runs_8 rfl (fun c_46 => ?_) (fun c_46 => ?_)
    · have hF := (if_pos c_46).symm.trans hF
      refine j_bipush (v := (-102 : Int32)) C dX6_runs_24 rfl ?_
      cases hF
      exact j_iret C Rk dX6_runs_26
    · have hF := (if_neg c_46).symm.trans hF
      refine j_iload_n C 2 dX6_runs_11 rfl rfl ?_
      refine j_if_lt C 24 dX6_runs_12 rfl (fun c_45 => ?_) (fun c_45 => ?_)
      · have hF := (if_pos c_45).symm.trans hF
        refine j_bipush (v := (-102 : Int32)) C dX6_runs_24 rfl ?_
        cases hF
        exact j_iret C Rk dX6_runs_26
      · have hF := (if_neg c_45).symm.trans hF
        refine j_iload_n C 3 dX6_runs_15 rfl rfl ?_
        refine j_if_lt C 24 dX6_runs_16 rfl (fun c_44 => ?_) (fun c_44 => ?_)
        · have hF := (if_pos c_44).symm.trans hF
          refine j_bipush (v := (-102 : Int32)) C dX6_runs_24 rfl ?_
          cases hF
          exact j_iret C Rk dX6_runs_26
        · have hF := (if_neg c_44).symm.trans hF
          refine j_iload_n C 3 dX6_runs_19 rfl rfl ?_
          refine j_iconst (v := (2 : Int32)) C dX6_runs_20 rfl ?_
          refine j_icmp_le C 27 dX6_runs_21 rfl (fun c_43 => ?_) (fun c_43 => ?_)
          · have hF := (if_pos c_43).symm.trans hF
            refine j_aload_n C 0 dX6_runs_27 rfl rfl ?_
            refine j_get (h := fun a => h a 0) (v := .int (oV (M 0) 10)) C 0 10 rfl rfl (Nat.le_of_ble_eq_true rfl) rfl rfl in1_X6 (List.mem_cons_of_mem _ mw_16_9) dX6_runs_28 ?_
            refine j_if_ne C 37 dX6_runs_31 rfl (fun c_42 => ?_) (fun c_42 => ?_)
            · have hF := (if_neg c_42).symm.trans hF
              refine j_aload_n C 0 dX6_runs_37 rfl rfl ?_
              refine j_get (h := fun a => h a 0) (v := .ref (h 5 0)) C 0 4 rfl rfl (Nat.le_of_ble_eq_true rfl) rfl rfl in1_X6 (List.mem_cons_of_mem _ mw_2_1) dX6_runs_38 ?_
              refine j_aload_n C 0 dX6_runs_41 rfl rfl ?_
              refine j_get (h := fun a => h a 0) (v := .ref (h 3 0)) C 0 2 rfl rfl (Nat.le_of_ble_eq_true rfl) rfl rfl in1_X6 (List.mem_cons_of_mem _ mw_1_23) dX6_runs_42 ?_
              obtain ⟨s_1, k_2, hF⟩ := gb1 hF
              obtain ⟨M_3, e_4, hF⟩ := glT hF
              refine j_callVv C (os' := (osX6 h M_3)) [.ref (h 3 0)] (kX2_copyFrom g 180 60 (h 5) (h 3) (M 5) (M 3) k_2) [5, 3] rfl rfl rfl (by rw [e_4]; rfl) 5 rfl rfl (wl_gV mw_17_13 mw_17_14 mw_17_15 mw_1_22 mw_17_16) rfl 1 rfl hd_X2_copyFrom ⟨Nat.le_of_ble_eq_true rfl, Nat.le_of_ble_eq_true rfl⟩ (Nat.le_of_ble_eq_true rfl) rfl dX6_runs_45 ?_
              refine j_iload_n C 2 dX6_runs_48 rfl rfl ?_
              refine j_istore C [(4, .int x2), (0, .ref (h 0 0)), (1, .int x1), (2, .int x2), (3, .int x3)] dX6_runs_49 (Nat.le_of_ble_eq_true rfl) rfl rfl ?_
              refine j_aload_n C 1 dX6_runs_51 rfl rfl ?_
              refine j_get (h := fun a => h a 0) (v := .ref (h 5 0)) C 0 4 rfl rfl (Nat.le_of_ble_eq_true rfl) rfl rfl in1_X6 (List.mem_cons_of_mem _ mw_2_1) dX6_runs_52 ?_
              obtain ⟨r_5, k_6, hF⟩ := gb1 hF
              refine j_callVi C (os' := (osX6 h M_3)) [] (kX2_nodes g 180 (h 5) (M_3 5) k_6) [5] rfl rfl rfl rfl 5 rfl rfl (wl_gV mw_16_16 mw_16_17 mw_16_18 mw_1_22 mw_16_19) rfl 0 rfl hd_X2_nodes ⟨Nat.le_of_ble_eq_true rfl, Nat.le_of_ble_eq_true rfl⟩ (Nat.le_of_ble_eq_true rfl) rfl dX6_runs_55 ?_
              refine j_istore C [(5, .int r_5), (4, .int x2), (0, .ref (h 0 0)), (1, .int x1), (2, .int x2), (3, .int x3)] dX6_runs_58 (Nat.le_of_ble_eq_true rfl) rfl rfl ?_
              refine j_iconst (v := (0 : Int32)) C dX6_runs_60 rfl ?_
              refine j_istore C [(6, .int (0 : Int32)), (5, .int r_5), (4, .int x2), (0, .ref (h 0 0)), (1, .int x1), (2, .int x2), (3, .int x3)] dX6_runs_61 (Nat.le_of_ble_eq_true rfl) rfl rfl ?_
              refine j_sub [(0, .ref (h 0 0)), (1, .int x1), (3, .int x3), (4, .int x2), (5, .int r_5), (6, .int (0 : Int32))] [3, 4, 6, 2, 1, 0] rfl ?_
              refine lX6_runs_63 C h x1 x3 _ _ Rk (fun x4_30 x5_31 x6_32 M_33 hF => ?_) (fun x4_36 x5_37 x6_38 M_39 hF => ?_) _ _ _ _ _ hF
              · refine j_iload_n C 0 dX6_runs_136 rfl rfl ?_
                refine j_if_ne C 145 dX6_runs_137 rfl (fun c_35 => ?_) (fun c_35 => ?_)
                · have hF := (if_neg c_35).symm.trans hF
                  refine j_iload_n C 0 dX6_runs_145 rfl rfl ?_
                  refine j_iconst (v := (1 : Int32)) C dX6_runs_146 rfl ?_
                  refine j_icmp_ne C 155 dX6_runs_147 rfl (fun c_34 => ?_) (fun c_34 => ?_)
                  · have hF := (if_neg c_34).symm.trans hF
                    refine j_iload C 1 dX6_runs_155 rfl ?_
                    cases hF
                    exact j_iret C Rk dX6_runs_157
                  · have hF := (if_pos c_34).symm.trans hF
                    refine j_iload C 2 dX6_runs_150 rfl ?_
                    refine j_goto C 157 dX6_runs_152 rfl ?_
                    cases hF
                    exact j_iret C Rk dX6_runs_157
                · have hF := (if_pos c_35).symm.trans hF
                  refine j_iload C 3 dX6_runs_140 rfl ?_
                  refine j_goto C 157 dX6_runs_142 rfl ?_
                  cases hF
                  exact j_iret C Rk dX6_runs_157
              · refine j_goto C 136 dX6_runs_83 rfl ?_
                refine j_iload_n C 0 dX6_runs_136 rfl rfl ?_
                refine j_if_ne C 145 dX6_runs_137 rfl (fun c_41 => ?_) (fun c_41 => ?_)
                · have hF := (if_neg c_41).symm.trans hF
                  refine j_iload_n C 0 dX6_runs_145 rfl rfl ?_
                  refine j_iconst (v := (1 : Int32)) C dX6_runs_146 rfl ?_
                  refine j_icmp_ne C 155 dX6_runs_147 rfl (fun c_40 => ?_) (fun c_40 => ?_)
                  · have hF := (if_neg c_40).symm.trans hF
                    refine j_iload C 1 dX6_runs_155 rfl ?_
                    cases hF
                    exact j_iret C Rk dX6_runs_157
                  · have hF := (if_pos c_40).symm.trans hF
                    refine j_iload C 2 dX6_runs_150 rfl ?_
                    refine j_goto C 157 dX6_runs_152 rfl ?_
                    cases hF
                    exact j_iret C Rk dX6_runs_157
                · have hF := (if_pos c_41).symm.trans hF
                  refine j_iload C 3 dX6_runs_140 rfl ?_
                  refine j_goto C 157 dX6_runs_142 rfl ?_
                  cases hF
                  exact j_iret C Rk dX6_runs_157
            · have hF := (if_pos c_42).symm.trans hF
              refine j_bipush (v := (-103 : Int32)) C dX6_runs_34 rfl ?_
              cases hF
              exact j_iret C Rk dX6_runs_36
          · have hF := (if_neg c_43).symm.trans hF
            refine j_bipush (v := (-102 : Int32)) C dX6_runs_24 rfl ?_
            cases hF
            exact j_iret C Rk dX6_runs_26
/-! HeadsMeet.image -/
def FX6_image  (M : (Nat → Ob)) : Option (Int32 × (Nat → Ob)) :=
  if (oV (M 0) 10) = 0 then
    some ((-103 : Int32), M)
  else
    b1 (FX2_copyFrom 60 60 (M 4) (M 3)) fun s_1 =>
    lT (sM M 4 s_1) fun M_3 =>
    b1 (FX4_copyFrom (M_3 7) (M_3 6)) fun s_5 =>
    lT (sM M_3 7 s_5) fun M_7 =>
    lT (sM M_7 0 (sV (M_7 0) 11 (1 : Int32))) fun M_10 =>
    b1 (FX2_done 60 (0 : Int32) (M_10 4)) fun r_11 =>
    some (r_11, M_10)
set_option maxRecDepth 100000 in
set_option maxHeartbeats 4000000 in
theorem kX6_image (g : Gl) (h : Nat → Nat → Nat)  (M : (Nat → Ob)) {r : Int32} {M' : (Nat → Ob)} (hF : FX6_image M = some (r, M')) : Ctr g yX6_image (Cond.code yX6_image cX6_image 1 (some .int) :: wsL_law) 2 81 (osX6 h M) (osX6 h M') [.ref (h 0 0)] (some (.int r)) := by
  refine Ctr.of (cc := cX6_image) (maxL := 1) (ret := (some .int)) (by decide) rfl (Nat.le_of_ble_eq_true rfl) ?_
  intro X C Rk
  replace C : CxOk g X cX6_image RX6 (Cond.code yX6_image cX6_image 1 (some .int) :: wsL_law) 1 2 81 := C
  show J g X (osX6 h M) 0 [(0, .ref (h 0 0))] []
  unfold FX6_image at hF
  refine j_aload_n C 0 dX6_image_0 rfl rfl ?_
  refine j_get (h := fun a => h a 0) (v := .int (oV (M 0) 10)) C 0 10 rfl rfl (Nat.le_of_ble_eq_true rfl) rfl rfl in1_X6 (List.mem_cons_of_mem _ mw_16_9) dX6_image_1 ?_
  refine j_if_ne C 10 dX6_image_4 rfl (fun c_13 => ?_) (fun c_13 => ?_)
  · have hF := (if_neg c_13).symm.trans hF
    refine j_aload_n C 0 dX6_image_10 rfl rfl ?_
    refine j_get (h := fun a => h a 0) (v := .ref (h 4 0)) C 0 3 rfl rfl (Nat.le_of_ble_eq_true rfl) rfl rfl in1_X6 (List.mem_cons_of_mem _ mw_2_0) dX6_image_11 ?_
    refine j_aload_n C 0 dX6_image_14 rfl rfl ?_
    refine j_get (h := fun a => h a 0) (v := .ref (h 3 0)) C 0 2 rfl rfl (Nat.le_of_ble_eq_true rfl) rfl rfl in1_X6 (List.mem_cons_of_mem _ mw_1_23) dX6_image_15 ?_
    obtain ⟨s_1, k_2, hF⟩ := gb1 hF
    obtain ⟨M_3, e_4, hF⟩ := glT hF
    refine j_callVv C (os' := (osX6 h M_3)) [.ref (h 3 0)] (kX2_copyFrom g 60 60 (h 4) (h 3) (M 4) (M 3) k_2) [4, 3] rfl rfl rfl (by rw [e_4]; rfl) 4 rfl rfl (wl_gV mw_17_13 mw_17_14 mw_17_15 mw_1_22 mw_17_16) rfl 1 rfl hd_X2_copyFrom ⟨Nat.le_of_ble_eq_true rfl, Nat.le_of_ble_eq_true rfl⟩ (Nat.le_of_ble_eq_true rfl) rfl dX6_image_18 ?_
    refine j_aload_n C 0 dX6_image_21 rfl rfl ?_
    refine j_get (h := fun a => h a 0) (v := .ref (h 7 0)) C 0 6 rfl rfl (Nat.le_of_ble_eq_true rfl) rfl rfl in1_X6 (List.mem_cons_of_mem _ mw_2_6) dX6_image_22 ?_
    refine j_aload_n C 0 dX6_image_25 rfl rfl ?_
    refine j_get (h := fun a => h a 0) (v := .ref (h 6 0)) C 0 5 rfl rfl (Nat.le_of_ble_eq_true rfl) rfl rfl in1_X6 (List.mem_cons_of_mem _ mw_2_5) dX6_image_26 ?_
    obtain ⟨s_5, k_6, hF⟩ := gb1 hF
    obtain ⟨M_7, e_8, hF⟩ := glT hF
    refine j_callVv C (os' := (osX6 h M_7)) [.ref (h 6 0)] (kX4_copyFrom g (h 7) (h 6) (M_3 7) (M_3 6) k_6) [7, 6] rfl rfl rfl (by rw [e_8]; rfl) 7 rfl rfl (wl_gV mw_40_17 mw_40_18 mw_40_19 mw_2_4 mw_40_20) rfl 1 rfl hd_X4_copyFrom ⟨Nat.le_of_ble_eq_true rfl, Nat.le_of_ble_eq_true rfl⟩ (Nat.le_of_ble_eq_true rfl) rfl dX6_image_29 ?_
    refine j_aload_n C 0 dX6_image_32 rfl rfl ?_
    refine j_iconst (v := (1 : Int32)) C dX6_image_33 rfl ?_
    obtain ⟨M_10, e_9, hF⟩ := glT hF
    refine j_putV (h := fun a => h a 0) C tyX6_ok nmX6 0 11 rfl rfl (Nat.le_of_ble_eq_true rfl) rfl in1_X6 (List.mem_cons_of_mem _ mw_16_10) rfl fd_X6_11 rfl rfl (osX6 h M_10) (by rw [e_9]; rfl) dX6_image_34 ?_
    refine j_aload_n C 0 dX6_image_37 rfl rfl ?_
    refine j_get (h := fun a => h a 0) (v := .ref (h 4 0)) C 0 3 rfl rfl (Nat.le_of_ble_eq_true rfl) rfl rfl in1_X6 (List.mem_cons_of_mem _ mw_2_0) dX6_image_38 ?_
    refine j_iconst (v := (0 : Int32)) C dX6_image_41 rfl ?_
    obtain ⟨r_11, k_12, hF⟩ := gb1 hF
    refine j_callVi C (os' := (osX6 h M_10)) [.int (0 : Int32)] (kX2_done g 60 (h 4) (0 : Int32) (M_10 4) k_12) [4] rfl rfl rfl rfl 4 rfl rfl (wl_gV mw_22_19 mw_22_20 mw_22_21 mw_1_22 mw_22_22) rfl 1 rfl hd_X2_done ⟨Nat.le_of_ble_eq_true rfl, Nat.le_of_ble_eq_true rfl⟩ (Nat.le_of_ble_eq_true rfl) rfl dX6_image_42 ?_
    cases hF
    exact j_iret C Rk dX6_image_45
  · have hF := (if_pos c_13).symm.trans hF
    refine j_bipush (v := (-103 : Int32)) C dX6_image_7 rfl ?_
    cases hF
    exact j_iret C Rk dX6_image_9
/-! HeadsMeet.restore -/
def FX6_restore  (M : (Nat → Ob)) : Option (Int32 × (Nat → Ob)) :=
  if (oV (M 0) 11) = 0 then
    some ((-103 : Int32), M)
  else
    b1 (FX2_copyFrom 60 60 (M 3) (M 4)) fun s_1 =>
    lT (sM M 3 s_1) fun M_3 =>
    b1 (FX4_copyFrom (M_3 6) (M_3 7)) fun s_5 =>
    lT (sM M_3 6 s_5) fun M_7 =>
    b1 (FX2_done 60 (0 : Int32) (M_7 3)) fun r_9 =>
    some (r_9, M_7)
set_option maxRecDepth 100000 in
set_option maxHeartbeats 4000000 in
theorem kX6_restore (g : Gl) (h : Nat → Nat → Nat)  (M : (Nat → Ob)) {r : Int32} {M' : (Nat → Ob)} (hF : FX6_restore M = some (r, M')) : Ctr g yX6_restore (Cond.code yX6_restore cX6_restore 1 (some .int) :: wsL_law) 2 81 (osX6 h M) (osX6 h M') [.ref (h 0 0)] (some (.int r)) := by
  refine Ctr.of (cc := cX6_restore) (maxL := 1) (ret := (some .int)) (by decide) rfl (Nat.le_of_ble_eq_true rfl) ?_
  intro X C Rk
  replace C : CxOk g X cX6_restore RX6 (Cond.code yX6_restore cX6_restore 1 (some .int) :: wsL_law) 1 2 81 := C
  show J g X (osX6 h M) 0 [(0, .ref (h 0 0))] []
  unfold FX6_restore at hF
  refine j_aload_n C 0 dX6_restore_0 rfl rfl ?_
  refine j_get (h := fun a => h a 0) (v := .int (oV (M 0) 11)) C 0 11 rfl rfl (Nat.le_of_ble_eq_true rfl) rfl rfl in1_X6 (List.mem_cons_of_mem _ mw_16_10) dX6_restore_1 ?_
  refine j_if_ne C 10 dX6_restore_4 rfl (fun c_11 => ?_) (fun c_11 => ?_)
  · have hF := (if_neg c_11).symm.trans hF
    refine j_aload_n C 0 dX6_restore_10 rfl rfl ?_
    refine j_get (h := fun a => h a 0) (v := .ref (h 3 0)) C 0 2 rfl rfl (Nat.le_of_ble_eq_true rfl) rfl rfl in1_X6 (List.mem_cons_of_mem _ mw_1_23) dX6_restore_11 ?_
    refine j_aload_n C 0 dX6_restore_14 rfl rfl ?_
    refine j_get (h := fun a => h a 0) (v := .ref (h 4 0)) C 0 3 rfl rfl (Nat.le_of_ble_eq_true rfl) rfl rfl in1_X6 (List.mem_cons_of_mem _ mw_2_0) dX6_restore_15 ?_
    obtain ⟨s_1, k_2, hF⟩ := gb1 hF
    obtain ⟨M_3, e_4, hF⟩ := glT hF
    refine j_callVv C (os' := (osX6 h M_3)) [.ref (h 4 0)] (kX2_copyFrom g 60 60 (h 3) (h 4) (M 3) (M 4) k_2) [3, 4] rfl rfl rfl (by rw [e_4]; rfl) 3 rfl rfl (wl_gV mw_17_13 mw_17_14 mw_17_15 mw_1_22 mw_17_16) rfl 1 rfl hd_X2_copyFrom ⟨Nat.le_of_ble_eq_true rfl, Nat.le_of_ble_eq_true rfl⟩ (Nat.le_of_ble_eq_true rfl) rfl dX6_restore_18 ?_
    refine j_aload_n C 0 dX6_restore_21 rfl rfl ?_
    refine j_get (h := fun a => h a 0) (v := .ref (h 6 0)) C 0 5 rfl rfl (Nat.le_of_ble_eq_true rfl) rfl rfl in1_X6 (List.mem_cons_of_mem _ mw_2_5) dX6_restore_22 ?_
    refine j_aload_n C 0 dX6_restore_25 rfl rfl ?_
    refine j_get (h := fun a => h a 0) (v := .ref (h 7 0)) C 0 6 rfl rfl (Nat.le_of_ble_eq_true rfl) rfl rfl in1_X6 (List.mem_cons_of_mem _ mw_2_6) dX6_restore_26 ?_
    obtain ⟨s_5, k_6, hF⟩ := gb1 hF
    obtain ⟨M_7, e_8, hF⟩ := glT hF
    refine j_callVv C (os' := (osX6 h M_7)) [.ref (h 7 0)] (kX4_copyFrom g (h 6) (h 7) (M_3 6) (M_3 7) k_6) [6, 7] rfl rfl rfl (by rw [e_8]; rfl) 6 rfl rfl (wl_gV mw_40_17 mw_40_18 mw_40_19 mw_2_4 mw_40_20) rfl 1 rfl hd_X4_copyFrom ⟨Nat.le_of_ble_eq_true rfl, Nat.le_of_ble_eq_true rfl⟩ (Nat.le_of_ble_eq_true rfl) rfl dX6_restore_29 ?_
    refine j_aload_n C 0 dX6_restore_32 rfl rfl ?_
    refine j_get (h := fun a => h a 0) (v := .ref (h 3 0)) C 0 2 rfl rfl (Nat.le_of_ble_eq_true rfl) rfl rfl in1_X6 (List.mem_cons_of_mem _ mw_1_23) dX6_restore_33 ?_
    refine j_iconst (v := (0 : Int32)) C dX6_restore_36 rfl ?_
    obtain ⟨r_9, k_10, hF⟩ := gb1 hF
    refine j_callVi C (os' := (osX6 h M_7)) [.int (0 : Int32)] (kX2_done g 60 (h 3) (0 : Int32) (M_7 3) k_10) [3] rfl rfl rfl rfl 3 rfl rfl (wl_gV mw_22_19 mw_22_20 mw_22_21 mw_1_22 mw_22_22) rfl 1 rfl hd_X2_done ⟨Nat.le_of_ble_eq_true rfl, Nat.le_of_ble_eq_true rfl⟩ (Nat.le_of_ble_eq_true rfl) rfl dX6_restore_37 ?_
    cases hF
    exact j_iret C Rk dX6_restore_40
  · have hF := (if_pos c_11).symm.trans hF
    refine j_bipush (v := (-103 : Int32)) C dX6_restore_7 rfl ?_
    cases hF
    exact j_iret C Rk dX6_restore_9
/-! HeadsMeet.count -/
def BX6_count_119 (x1 : Int32) (M : (Nat → Ob)) : Option (Int32 × (Nat → Ob)) :=
  b1 (FX2_done 60 (x1 - (8 : Int32)) (M 3)) fun r_20 =>
  some (r_20, M)
def BX6_count_84 (x1 : Int32) (M : (Nat → Ob)) : Option (Int32 × (Nat → Ob)) :=
  b1 (FX2_nodesOfKind 60 (x1 - (1 : Int32)) (M 3)) fun r_31 =>
  some (r_31, M)
def FX6_count (x1 : Int32) (M : (Nat → Ob)) : Option (Int32 × (Nat → Ob)) :=
  if x1 = 0 then
    b1 (FX2_nodes 60 (M 3)) fun r_33 =>
    some (r_33, M)
  else
    if x1 = 1 then
      BX6_count_84 x1 M
    else
      if x1 = 2 then
        BX6_count_84 x1 M
      else
        if x1 = 3 then
          BX6_count_84 x1 M
        else
          if x1 = 4 then
            BX6_count_84 x1 M
          else
            if x1 = 5 then
              b1 (FX2_openWires 60 (M 3)) fun r_29 =>
              some (r_29, M)
            else
              if x1 = 6 then
                b1 (FX2_rings 60 (M 3)) fun r_27 =>
                some (r_27, M)
              else
                if x1 = 7 then
                  b2 (FX2_listMeetings 60 (M 3)) fun r_22 s_23 =>
                  lT (sM M 3 s_23) fun M_25 =>
                  some (r_22, M_25)
                else
                  if x1 = 8 then
                    BX6_count_119 x1 M
                  else
                    if x1 = 9 then
                      BX6_count_119 x1 M
                    else
                      if x1 = 10 then
                        BX6_count_119 x1 M
                      else
                        if x1 = 11 then
                          BX6_count_119 x1 M
                        else
                          if x1 = 12 then
                            b1 (FX4_size (M 6)) fun r_18 =>
                            some (r_18, M)
                          else
                            if x1 = 13 then
                              b1 (FX3_size (M 1)) fun r_16 =>
                              some (r_16, M)
                            else
                              if x1 = 14 then
                                some (oV (M 0) 12, M)
                              else
                                some ((-102 : Int32), M)
set_option maxRecDepth 100000 in
set_option maxHeartbeats 4000000 in
theorem bX6_count_119 {g : Gl} {X : Cxt} (C : CxOk g X cX6_count RX6 (Cond.code yX6_count cX6_count 2 (some .int) :: wsL_law) 2 3 64) {r : Int32} {M' : (Nat → Ob)} (h : Nat → Nat → Nat) (x1 : Int32) (M : (Nat → Ob))  (Rk : RetOk g X (osX6 h M') (some (.int r)) (some .int))  (hF : BX6_count_119  x1 M = some (r, M')) : J g X (osX6 h M) 119 [(0, .ref (h 0 0)), (1, .int x1)] [] := by
  unfold BX6_count_119 at hF
  refine j_aload_n C 0 dX6_count_119 rfl rfl ?_
  refine j_get (h := fun a => h a 0) (v := .ref (h 3 0)) C 0 2 rfl rfl (Nat.le_of_ble_eq_true rfl) rfl rfl in1_X6 (List.mem_cons_of_mem _ mw_1_23) dX6_count_120 ?_
  refine j_iload_n C 1 dX6_count_123 rfl rfl ?_
  refine j_bipush (v := (8 : Int32)) C dX6_count_124 rfl ?_
  refine j_isub C dX6_count_126 ?_
  obtain ⟨r_20, k_21, hF⟩ := gb1 hF
  refine j_callVi C (os' := (osX6 h M)) [.int (x1 - (8 : Int32))] (kX2_done g 60 (h 3) (x1 - (8 : Int32)) (M 3) k_21) [3] rfl rfl rfl rfl 3 rfl rfl (wl_gV mw_22_19 mw_22_20 mw_22_21 mw_1_22 mw_22_22) rfl 1 rfl hd_X2_done ⟨Nat.le_of_ble_eq_true rfl, Nat.le_of_ble_eq_true rfl⟩ (Nat.le_of_ble_eq_true rfl) rfl dX6_count_127 ?_
  cases hF
  exact j_iret C Rk dX6_count_130
set_option maxRecDepth 100000 in
set_option maxHeartbeats 4000000 in
theorem bX6_count_84 {g : Gl} {X : Cxt} (C : CxOk g X cX6_count RX6 (Cond.code yX6_count cX6_count 2 (some .int) :: wsL_law) 2 3 64) {r : Int32} {M' : (Nat → Ob)} (h : Nat → Nat → Nat) (x1 : Int32) (M : (Nat → Ob))  (Rk : RetOk g X (osX6 h M') (some (.int r)) (some .int))  (hF : BX6_count_84  x1 M = some (r, M')) : J g X (osX6 h M) 84 [(0, .ref (h 0 0)), (1, .int x1)] [] := by
  unfold BX6_count_84 at hF
  refine j_aload_n C 0 dX6_count_84 rfl rfl ?_
  refine j_get (h := fun a => h a 0) (v := .ref (h 3 0)) C 0 2 rfl rfl (Nat.le_of_ble_eq_true rfl) rfl rfl in1_X6 (List.mem_cons_of_mem _ mw_1_23) dX6_count_85 ?_
  refine j_iload_n C 1 dX6_count_88 rfl rfl ?_
  refine j_iconst (v := (1 : Int32)) C dX6_count_89 rfl ?_
  refine j_isub C dX6_count_90 ?_
  obtain ⟨r_31, k_32, hF⟩ := gb1 hF
  refine j_callVi C (os' := (osX6 h M)) [.int (x1 - (1 : Int32))] (kX2_nodesOfKind g 60 (h 3) (x1 - (1 : Int32)) (M 3) k_32) [3] rfl rfl rfl rfl 3 rfl rfl (wl_gV mw_41_19 mw_41_20 mw_41_21 mw_1_22 mw_41_22) rfl 1 rfl hd_X2_nodesOfKind ⟨Nat.le_of_ble_eq_true rfl, Nat.le_of_ble_eq_true rfl⟩ (Nat.le_of_ble_eq_true rfl) rfl dX6_count_91 ?_
  cases hF
  exact j_iret C Rk dX6_count_94
set_option maxRecDepth 100000 in
set_option maxHeartbeats 4000000 in
theorem kX6_count (g : Gl) (h : Nat → Nat → Nat) (x1 : Int32) (M : (Nat → Ob)) {r : Int32} {M' : (Nat → Ob)} (hF : FX6_count x1 M = some (r, M')) : Ctr g yX6_count (Cond.code yX6_count cX6_count 2 (some .int) :: wsL_law) 3 64 (osX6 h M) (osX6 h M') [.ref (h 0 0), .int x1] (some (.int r)) := by
  refine Ctr.of (cc := cX6_count) (maxL := 2) (ret := (some .int)) (by decide) rfl (Nat.le_of_ble_eq_true rfl) ?_
  intro X C Rk
  replace C : CxOk g X cX6_count RX6 (Cond.code yX6_count cX6_count 2 (some .int) :: wsL_law) 2 3 64 := C
  show J g X (osX6 h M) 0 [(0, .ref (h 0 0)), (1, .int x1)] []
  unfold FX6_count at hF
  refine j_iload_n C 1 dX6_count_0 rfl rfl ?_
  by_cases c_1 : x1 = 0
  · have hF := (if_pos c_1).symm.trans hF
    refine j_tableIn (off := 75) C 76 dX6_count_1 (by rw [c_1]; decide) (by rw [c_1]; decide) (by rw [c_1]; rfl) rfl ?_
    refine j_aload_n C 0 dX6_count_76 rfl rfl ?_
    refine j_get (h := fun a => h a 0) (v := .ref (h 3 0)) C 0 2 rfl rfl (Nat.le_of_ble_eq_true rfl) rfl rfl in1_X6 (List.mem_cons_of_mem _ mw_1_23) dX6_count_77 ?_
    obtain ⟨r_33, k_34, hF⟩ := gb1 hF
    refine j_callVi C (os' := (osX6 h M)) [] (kX2_nodes g 60 (h 3) (M 3) k_34) [3] rfl rfl rfl rfl 3 rfl rfl (wl_gV mw_16_16 mw_16_17 mw_16_18 mw_1_22 mw_16_19) rfl 0 rfl hd_X2_nodes ⟨Nat.le_of_ble_eq_true rfl, Nat.le_of_ble_eq_true rfl⟩ (Nat.le_of_ble_eq_true rfl) rfl dX6_count_80 ?_
    cases hF
    exact j_iret C Rk dX6_count_83
  · have hF := (if_neg c_1).symm.trans hF
    by_cases c_2 : x1 = 1
    · have hF := (if_pos c_2).symm.trans hF
      refine j_tableIn (off := 83) C 84 dX6_count_1 (by rw [c_2]; decide) (by rw [c_2]; decide) (by rw [c_2]; rfl) rfl ?_
      exact bX6_count_84 C h _ _ Rk  hF
    · have hF := (if_neg c_2).symm.trans hF
      by_cases c_3 : x1 = 2
      · have hF := (if_pos c_3).symm.trans hF
        refine j_tableIn (off := 83) C 84 dX6_count_1 (by rw [c_3]; decide) (by rw [c_3]; decide) (by rw [c_3]; rfl) rfl ?_
        exact bX6_count_84 C h _ _ Rk  hF
      · have hF := (if_neg c_3).symm.trans hF
        by_cases c_4 : x1 = 3
        · have hF := (if_pos c_4).symm.trans hF
          refine j_tableIn (off := 83) C 84 dX6_count_1 (by rw [c_4]; decide) (by rw [c_4]; decide) (by rw [c_4]; rfl) rfl ?_
          exact bX6_count_84 C h _ _ Rk  hF
        · have hF := (if_neg c_4).symm.trans hF
          by_cases c_5 : x1 = 4
          · have hF := (if_pos c_5).symm.trans hF
            refine j_tableIn (off := 83) C 84 dX6_count_1 (by rw [c_5]; decide) (by rw [c_5]; decide) (by rw [c_5]; rfl) rfl ?_
            exact bX6_count_84 C h _ _ Rk  hF
          · have hF := (if_neg c_5).symm.trans hF
            by_cases c_6 : x1 = 5
            · have hF := (if_pos c_6).symm.trans hF
              refine j_tableIn (off := 94) C 95 dX6_count_1 (by rw [c_6]; decide) (by rw [c_6]; decide) (by rw [c_6]; rfl) rfl ?_
              refine j_aload_n C 0 dX6_count_95 rfl rfl ?_
              refine j_get (h := fun a => h a 0) (v := .ref (h 3 0)) C 0 2 rfl rfl (Nat.le_of_ble_eq_true rfl) rfl rfl in1_X6 (List.mem_cons_of_mem _ mw_1_23) dX6_count_96 ?_
              obtain ⟨r_29, k_30, hF⟩ := gb1 hF
              refine j_callVi C (os' := (osX6 h M)) [] (kX2_openWires g 60 (h 3) (M 3) k_30) [3] rfl rfl rfl rfl 3 rfl rfl (wl_gV mw_41_23 mw_42_0 mw_42_1 mw_1_22 mw_42_2) rfl 0 rfl hd_X2_openWires ⟨Nat.le_of_ble_eq_true rfl, Nat.le_of_ble_eq_true rfl⟩ (Nat.le_of_ble_eq_true rfl) rfl dX6_count_99 ?_
              cases hF
              exact j_iret C Rk dX6_count_102
            · have hF := (if_neg c_6).symm.trans hF
              by_cases c_7 : x1 = 6
              · have hF := (if_pos c_7).symm.trans hF
                refine j_tableIn (off := 102) C 103 dX6_count_1 (by rw [c_7]; decide) (by rw [c_7]; decide) (by rw [c_7]; rfl) rfl ?_
                refine j_aload_n C 0 dX6_count_103 rfl rfl ?_
                refine j_get (h := fun a => h a 0) (v := .ref (h 3 0)) C 0 2 rfl rfl (Nat.le_of_ble_eq_true rfl) rfl rfl in1_X6 (List.mem_cons_of_mem _ mw_1_23) dX6_count_104 ?_
                obtain ⟨r_27, k_28, hF⟩ := gb1 hF
                refine j_callVi C (os' := (osX6 h M)) [] (kX2_rings g 60 (h 3) (M 3) k_28) [3] rfl rfl rfl rfl 3 rfl rfl (wl_gV mw_22_15 mw_22_16 mw_22_17 mw_1_22 mw_22_18) rfl 0 rfl hd_X2_rings ⟨Nat.le_of_ble_eq_true rfl, Nat.le_of_ble_eq_true rfl⟩ (Nat.le_of_ble_eq_true rfl) rfl dX6_count_107 ?_
                cases hF
                exact j_iret C Rk dX6_count_110
              · have hF := (if_neg c_7).symm.trans hF
                by_cases c_8 : x1 = 7
                · have hF := (if_pos c_8).symm.trans hF
                  refine j_tableIn (off := 110) C 111 dX6_count_1 (by rw [c_8]; decide) (by rw [c_8]; decide) (by rw [c_8]; rfl) rfl ?_
                  refine j_aload_n C 0 dX6_count_111 rfl rfl ?_
                  refine j_get (h := fun a => h a 0) (v := .ref (h 3 0)) C 0 2 rfl rfl (Nat.le_of_ble_eq_true rfl) rfl rfl in1_X6 (List.mem_cons_of_mem _ mw_1_23) dX6_count_112 ?_
                  obtain ⟨r_22, s_23, k_24, hF⟩ := gb2 hF
                  obtain ⟨M_25, e_26, hF⟩ := glT hF
                  refine j_callVi C (os' := (osX6 h M_25)) [] (kX2_listMeetings g 60 (h 3) (M 3) k_24) [3] rfl rfl rfl (by rw [e_26]; rfl) 3 rfl rfl (wl_gV mw_30_1 mw_20_16 mw_20_17 mw_1_22 mw_20_18) rfl 0 rfl hd_X2_listMeetings ⟨Nat.le_of_ble_eq_true rfl, Nat.le_of_ble_eq_true rfl⟩ (Nat.le_of_ble_eq_true rfl) rfl dX6_count_115 ?_
                  cases hF
                  exact j_iret C Rk dX6_count_118
                · have hF := (if_neg c_8).symm.trans hF
                  by_cases c_9 : x1 = 8
                  · have hF := (if_pos c_9).symm.trans hF
                    refine j_tableIn (off := 118) C 119 dX6_count_1 (by rw [c_9]; decide) (by rw [c_9]; decide) (by rw [c_9]; rfl) rfl ?_
                    exact bX6_count_119 C h _ _ Rk  hF
                  · have hF := (if_neg c_9).symm.trans hF
                    by_cases c_10 : x1 = 9
                    · have hF := (if_pos c_10).symm.trans hF
                      refine j_tableIn (off := 118) C 119 dX6_count_1 (by rw [c_10]; decide) (by rw [c_10]; decide) (by rw [c_10]; rfl) rfl ?_
                      exact bX6_count_119 C h _ _ Rk  hF
                    · have hF := (if_neg c_10).symm.trans hF
                      by_cases c_11 : x1 = 10
                      · have hF := (if_pos c_11).symm.trans hF
                        refine j_tableIn (off := 118) C 119 dX6_count_1 (by rw [c_11]; decide) (by rw [c_11]; decide) (by rw [c_11]; rfl) rfl ?_
                        exact bX6_count_119 C h _ _ Rk  hF
                      · have hF := (if_neg c_11).symm.trans hF
                        by_cases c_12 : x1 = 11
                        · have hF := (if_pos c_12).symm.trans hF
                          refine j_tableIn (off := 118) C 119 dX6_count_1 (by rw [c_12]; decide) (by rw [c_12]; decide) (by rw [c_12]; rfl) rfl ?_
                          exact bX6_count_119 C h _ _ Rk  hF
                        · have hF := (if_neg c_12).symm.trans hF
                          by_cases c_13 : x1 = 12
                          · have hF := (if_pos c_13).symm.trans hF
                            refine j_tableIn (off := 130) C 131 dX6_count_1 (by rw [c_13]; decide) (by rw [c_13]; decide) (by rw [c_13]; rfl) rfl ?_
                            refine j_aload_n C 0 dX6_count_131 rfl rfl ?_
                            refine j_get (h := fun a => h a 0) (v := .ref (h 6 0)) C 0 5 rfl rfl (Nat.le_of_ble_eq_true rfl) rfl rfl in1_X6 (List.mem_cons_of_mem _ mw_2_5) dX6_count_132 ?_
                            obtain ⟨r_18, k_19, hF⟩ := gb1 hF
                            refine j_callVi C (os' := (osX6 h M)) [] (kX4_size g (h 6) (M 6) k_19) [6] rfl rfl rfl rfl 6 rfl rfl (wl_gV mw_38_16 mw_38_17 mw_38_18 mw_2_4 mw_38_19) rfl 0 rfl hd_X4_size ⟨Nat.le_of_ble_eq_true rfl, Nat.le_of_ble_eq_true rfl⟩ (Nat.le_of_ble_eq_true rfl) rfl dX6_count_135 ?_
                            cases hF
                            exact j_iret C Rk dX6_count_138
                          · have hF := (if_neg c_13).symm.trans hF
                            by_cases c_14 : x1 = 13
                            · have hF := (if_pos c_14).symm.trans hF
                              refine j_tableIn (off := 138) C 139 dX6_count_1 (by rw [c_14]; decide) (by rw [c_14]; decide) (by rw [c_14]; rfl) rfl ?_
                              refine j_aload_n C 0 dX6_count_139 rfl rfl ?_
                              refine j_get (h := fun a => h a 0) (v := .ref (h 1 0)) C 0 0 rfl rfl (Nat.le_of_ble_eq_true rfl) rfl rfl in1_X6 (List.mem_cons_of_mem _ mw_1_15) dX6_count_140 ?_
                              obtain ⟨r_16, k_17, hF⟩ := gb1 hF
                              refine j_callVi C (os' := (osX6 h M)) [] (kX3_size g (h 1) (M 1) k_17) [1] rfl rfl rfl rfl 1 rfl rfl (wl_gV mw_6_9 mw_6_10 mw_6_11 mw_1_14 mw_6_12) rfl 0 rfl hd_X3_size ⟨Nat.le_of_ble_eq_true rfl, Nat.le_of_ble_eq_true rfl⟩ (Nat.le_of_ble_eq_true rfl) rfl dX6_count_143 ?_
                              cases hF
                              exact j_iret C Rk dX6_count_146
                            · have hF := (if_neg c_14).symm.trans hF
                              by_cases c_15 : x1 = 14
                              · have hF := (if_pos c_15).symm.trans hF
                                refine j_tableIn (off := 146) C 147 dX6_count_1 (by rw [c_15]; decide) (by rw [c_15]; decide) (by rw [c_15]; rfl) rfl ?_
                                refine j_aload_n C 0 dX6_count_147 rfl rfl ?_
                                refine j_get (h := fun a => h a 0) (v := .int (oV (M 0) 12)) C 0 12 rfl rfl (Nat.le_of_ble_eq_true rfl) rfl rfl in1_X6 (List.mem_cons_of_mem _ mw_16_11) dX6_count_148 ?_
                                cases hF
                                exact j_iret C Rk dX6_count_151
                              · have hF := (if_neg c_15).symm.trans hF
                                refine j_tableOut C 152 dX6_count_1 (by have q0 := ne_i c_1 (a := 0) rfl; have q1 := ne_i c_2 (a := 1) rfl; have q2 := ne_i c_3 (a := 2) rfl; have q3 := ne_i c_4 (a := 3) rfl; have q4 := ne_i c_5 (a := 4) rfl; have q5 := ne_i c_6 (a := 5) rfl; have q6 := ne_i c_7 (a := 6) rfl; have q7 := ne_i c_8 (a := 7) rfl; have q8 := ne_i c_9 (a := 8) rfl; have q9 := ne_i c_10 (a := 9) rfl; have q10 := ne_i c_11 (a := 10) rfl; have q11 := ne_i c_12 (a := 11) rfl; have q12 := ne_i c_13 (a := 12) rfl; have q13 := ne_i c_14 (a := 13) rfl; have q14 := ne_i c_15 (a := 14) rfl; omega) rfl ?_
                                refine j_bipush (v := (-102 : Int32)) C dX6_count_152 rfl ?_
                                cases hF
                                exact j_iret C Rk dX6_count_154
/-! HeadsMeet.hashOfNodes -/
def LX6_hashOfNodes_38 (x5 : Int32) (M : (Nat → Ob)) (E66 : Int64 → Option (Int64)) : Nat → Int64 → Int32 → Option (Int64)
  | 0, _, _ => none
  | n + 1, x3, x6 =>
    if (4 : Int32) < x6 then
      E66 x3
    else
      b1 (FX6_toldOfNode x5 x6 M) fun r_5 =>
      lT (((31 : Int64) * x3) + r_5.toInt64) fun x3_7 =>
      lT (x6 + (1 : Int32)) fun x6_9 =>
      LX6_hashOfNodes_38 x5 M E66 n x3_7 x6_9
def LX6_hashOfNodes_5 (M : (Nat → Ob)) : Nat → Int64 → Int32 → Option (Int64)
  | 0, _, _ => none
  | n + 1, x3, x5 =>
    if (60 : Int32) ≤ x5 then
      some x3
    else
      b1 (FX2_kindOf 60 x5 (M 3)) fun r_1 =>
      if r_1 = (-1 : Int32) then
        lT (x5 + (1 : Int32)) fun x5_15 =>
        LX6_hashOfNodes_5 M n x3 x5_15
      else
        lT (((31 : Int64) * x3) + x5.toInt64) fun x3_3 =>
        LX6_hashOfNodes_38 x5 M (fun x3_12 =>
         lT (x5 + (1 : Int32)) fun x5_13 =>
         LX6_hashOfNodes_5 M n x3_12 x5_13) fu x3_3 (0 : Int32)
def FX6_hashOfNodes (x1 : Int64) (M : (Nat → Ob)) : Option (Int64) :=
  LX6_hashOfNodes_5 M fu x1 (0 : Int32)
set_option maxRecDepth 100000 in
set_option maxHeartbeats 4000000 in
theorem lX6_hashOfNodes_38 {g : Gl} {X : Cxt} (C : CxOk g X cX6_hashOfNodes RX6 (Cond.code yX6_hashOfNodes cX6_hashOfNodes 7 (some .long) :: wsL_law) 7 4 85) {r : Int64} (h : Nat → Nat → Nat) (x5 : Int32) (M : (Nat → Ob)) (E66 : Int64 → Option (Int64)) (Rk : RetOk g X (osX6 h M) (some (.long r)) (some .long)) (hE66 : ∀ (x3 : Int64), E66 x3 = some r → J g X (osX6 h M) 66 [(0, .ref (h 0 0)), (3, .long x3), (5, .int x5)] []) : ∀ (n : Nat) (x3 : Int64) (x6 : Int32), LX6_hashOfNodes_38 x5 M E66 n x3 x6 = some r → J g X (osX6 h M) 38 [(0, .ref (h 0 0)), (3, .long x3), (5, .int x5), (6, .int x6)] [] := by
  intro n
  induction n with
  | zero =>
    intro x3 x6 hF
    cases hF
  | succ n ih =>
    intro x3 x6 hF
    rw [LX6_hashOfNodes_38.eq_2] at hF
    refine j_iload C 3 dX6_hashOfNodes_38 rfl ?_
    refine j_iconst (v := (4 : Int32)) C dX6_hashOfNodes_40 rfl ?_
    refine j_icmp_gt C 66 dX6_hashOfNodes_41 rfl (fun c_11 => ?_) (fun c_11 => ?_)
    · have hF := (if_pos c_11).symm.trans hF
      refine j_sub [(0, .ref (h 0 0)), (3, .long x3), (5, .int x5)] [0, 1, 2] rfl ?_
      exact hE66 _ hF
    · have hF := (if_neg c_11).symm.trans hF
      refine j_ldc2 (v := (31 : Int64)) C (List.mem_cons_of_mem _ mw_43_0) dX6_hashOfNodes_44 ?_
      refine j_lload_n C 1 dX6_hashOfNodes_47 rfl rfl ?_
      refine j_lmul C dX6_hashOfNodes_48 ?_
      refine j_aload_n C 0 dX6_hashOfNodes_49 rfl rfl ?_
      refine j_iload C 2 dX6_hashOfNodes_50 rfl ?_
      refine j_iload C 3 dX6_hashOfNodes_52 rfl ?_
      obtain ⟨r_5, k_6, hF⟩ := gb1 hF
      refine j_callVi (h := fun a => h a 0) C (os' := (osX6 h M)) [.int x5, .int x6] (kX6_toldOfNode g h x5 x6 M k_6) [0, 1, 2, 3, 4, 5, 6, 7, 8, 9, 10] rfl rfl rfl rfl 0 rfl rfl (wl_gV mw_19_2 mw_19_3 mw_19_4 mw_1_2 mw_19_5) rfl 2 rfl hd_X6_toldOfNode ⟨Nat.le_of_ble_eq_true rfl, Nat.le_of_ble_eq_true rfl⟩ (Nat.le_of_ble_eq_true rfl) rfl dX6_hashOfNodes_54 ?_
      refine j_i2l C dX6_hashOfNodes_57 ?_
      refine j_ladd C dX6_hashOfNodes_58 ?_
      obtain ⟨x3_7, e_8, hF⟩ := glT hF
      refine j_lstore_n C [(3, .long x3_7), (0, .ref (h 0 0)), (5, .int x5), (6, .int x6)] dX6_hashOfNodes_59 rfl (Nat.le_of_ble_eq_true rfl) e_8 rfl ?_
      obtain ⟨x6_9, e_10, hF⟩ := glT hF
      refine j_iinc C 3 [(6, .int x6_9), (3, .long x3_7), (0, .ref (h 0 0)), (5, .int x5)] dX6_hashOfNodes_60 rfl e_10.symm (Nat.le_of_ble_eq_true rfl) rfl ?_
      refine j_goto C 38 dX6_hashOfNodes_63 rfl ?_
      refine j_sub [(0, .ref (h 0 0)), (3, .long x3_7), (5, .int x5), (6, .int x6_9)] [2, 1, 3, 0] rfl ?_
      exact ih _ _ hF
set_option maxRecDepth 100000 in
set_option maxHeartbeats 4000000 in
theorem lX6_hashOfNodes_5 {g : Gl} {X : Cxt} (C : CxOk g X cX6_hashOfNodes RX6 (Cond.code yX6_hashOfNodes cX6_hashOfNodes 7 (some .long) :: wsL_law) 7 4 85) {r : Int64} (h : Nat → Nat → Nat) (M : (Nat → Ob))  (Rk : RetOk g X (osX6 h M) (some (.long r)) (some .long))  : ∀ (n : Nat) (x3 : Int64) (x5 : Int32), LX6_hashOfNodes_5 M n x3 x5 = some r → J g X (osX6 h M) 5 [(0, .ref (h 0 0)), (3, .long x3), (5, .int x5)] [] := by
  intro n
  induction n with
  | zero =>
    intro x3 x5 hF
    cases hF
  | succ n ih =>
    intro x3 x5 hF
    rw [LX6_hashOfNodes_5.eq_2] at hF
    refine j_iload C 2 dX6_hashOfNodes_5 rfl ?_
    refine j_bipush (v := (60 : Int32)) C dX6_hashOfNodes_7 rfl ?_
    refine j_icmp_ge C 72 dX6_hashOfNodes_9 rfl (fun c_18 => ?_) (fun c_18 => ?_)
    · have hF := (if_pos c_18).symm.trans hF
      refine j_lload_n C 1 dX6_hashOfNodes_72 rfl rfl ?_
      cases hF
      exact j_lret C Rk dX6_hashOfNodes_73
    · have hF := (if_neg c_18).symm.trans hF
      refine j_aload_n C 0 dX6_hashOfNodes_12 rfl rfl ?_
      refine j_get (h := fun a => h a 0) (v := .ref (h 3 0)) C 0 2 rfl rfl (Nat.le_of_ble_eq_true rfl) rfl rfl in1_X6 (List.mem_cons_of_mem _ mw_1_23) dX6_hashOfNodes_13 ?_
      refine j_iload C 2 dX6_hashOfNodes_16 rfl ?_
      obtain ⟨r_1, k_2, hF⟩ := gb1 hF
      refine j_callVi C (os' := (osX6 h M)) [.int x5] (kX2_kindOf g 60 (h 3) x5 (M 3) k_2) [3] rfl rfl rfl rfl 3 rfl rfl (wl_gV mw_19_1 mw_13_12 mw_13_13 mw_1_22 mw_13_14) rfl 1 rfl hd_X2_kindOf ⟨Nat.le_of_ble_eq_true rfl, Nat.le_of_ble_eq_true rfl⟩ (Nat.le_of_ble_eq_true rfl) rfl dX6_hashOfNodes_18 ?_
      refine j_iconst (v := (-1 : Int32)) C dX6_hashOfNodes_21 rfl ?_
      refine j_icmp_eq C 66 dX6_hashOfNodes_22 rfl (fun c_17 => ?_) (fun c_17 => ?_)
      · have hF := (if_pos c_17).symm.trans hF
        obtain ⟨x5_15, e_16, hF⟩ := glT hF
        refine j_iinc C 2 [(5, .int x5_15), (0, .ref (h 0 0)), (3, .long x3)] dX6_hashOfNodes_66 rfl e_16.symm (Nat.le_of_ble_eq_true rfl) rfl ?_
        refine j_goto C 5 dX6_hashOfNodes_69 rfl ?_
        refine j_sub [(0, .ref (h 0 0)), (3, .long x3), (5, .int x5_15)] [1, 2, 0] rfl ?_
        exact ih _ _ hF
      · have hF := (if_neg c_17).symm.trans hF
        refine j_ldc2 (v := (31 : Int64)) C (List.mem_cons_of_mem _ mw_43_0) dX6_hashOfNodes_25 ?_
        refine j_lload_n C 1 dX6_hashOfNodes_28 rfl rfl ?_
        refine j_lmul C dX6_hashOfNodes_29 ?_
        refine j_iload C 2 dX6_hashOfNodes_30 rfl ?_
        refine j_i2l C dX6_hashOfNodes_32 ?_
        refine j_ladd C dX6_hashOfNodes_33 ?_
        obtain ⟨x3_3, e_4, hF⟩ := glT hF
        refine j_lstore_n C [(3, .long x3_3), (0, .ref (h 0 0)), (5, .int x5)] dX6_hashOfNodes_34 rfl (Nat.le_of_ble_eq_true rfl) e_4 rfl ?_
        refine j_iconst (v := (0 : Int32)) C dX6_hashOfNodes_35 rfl ?_
        refine j_istore C [(6, .int (0 : Int32)), (3, .long x3_3), (0, .ref (h 0 0)), (5, .int x5)] dX6_hashOfNodes_36 (Nat.le_of_ble_eq_true rfl) rfl rfl ?_
        refine j_sub [(0, .ref (h 0 0)), (3, .long x3_3), (5, .int x5), (6, .int (0 : Int32))] [2, 1, 3, 0] rfl ?_
        refine lX6_hashOfNodes_38 C h x5 M _ Rk (fun x3_12 hF => ?_) _ _ _ hF
        obtain ⟨x5_13, e_14, hF⟩ := glT hF
        refine j_iinc C 2 [(5, .int x5_13), (0, .ref (h 0 0)), (3, .long x3_12)] dX6_hashOfNodes_66 rfl e_14.symm (Nat.le_of_ble_eq_true rfl) rfl ?_
        refine j_goto C 5 dX6_hashOfNodes_69 rfl ?_
        refine j_sub [(0, .ref (h 0 0)), (3, .long x3_12), (5, .int x5_13)] [1, 2, 0] rfl ?_
        exact ih _ _ hF
set_option maxRecDepth 100000 in
set_option maxHeartbeats 4000000 in
theorem kX6_hashOfNodes (g : Gl) (h : Nat → Nat → Nat) (x1 : Int64) (M : (Nat → Ob)) {r : Int64} (hF : FX6_hashOfNodes x1 M = some r) : Ctr g yX6_hashOfNodes (Cond.code yX6_hashOfNodes cX6_hashOfNodes 7 (some .long) :: wsL_law) 4 85 (osX6 h M) (osX6 h M) [.ref (h 0 0), .long x1] (some (.long r)) := by
  refine Ctr.of (cc := cX6_hashOfNodes) (maxL := 7) (ret := (some .long)) (by decide) rfl (Nat.le_of_ble_eq_true rfl) ?_
  intro X C Rk
  replace C : CxOk g X cX6_hashOfNodes RX6 (Cond.code yX6_hashOfNodes cX6_hashOfNodes 7 (some .long) :: wsL_law) 7 4 85 := C
  show J g X (osX6 h M) 0 [(0, .ref (h 0 0)), (1, .long x1)] []
  unfold FX6_hashOfNodes at hF
  refine j_lload_n C 1 dX6_hashOfNodes_0 rfl rfl ?_
  refine j_lstore_n C [(3, .long x1), (0, .ref (h 0 0)), (1, .long x1)] dX6_hashOfNodes_1 rfl (Nat.le_of_ble_eq_true rfl) rfl rfl ?_
  refine j_iconst (v := (0 : Int32)) C dX6_hashOfNodes_2 rfl ?_
  refine j_istore C [(5, .int (0 : Int32)), (3, .long x1), (0, .ref (h 0 0)), (1, .long x1)] dX6_hashOfNodes_3 (Nat.le_of_ble_eq_true rfl) rfl rfl ?_
  refine j_sub [(0, .ref (h 0 0)), (3, .long x1), (5, .int (0 : Int32))] [2, 1, 0] rfl ?_
  refine lX6_hashOfNodes_5 C h M Rk  _ _ _ hF
/-! HeadsMeet.hashOfWires -/
def LX6_hashOfWires_5 (M : (Nat → Ob)) : Nat → Int64 → Int32 → Option (Int64)
  | 0, _, _ => none
  | n + 1, x3, x5 =>
    if (8 : Int32) ≤ x5 then
      some x3
    else
      b1 (FX2_isOpen 60 x5 (M 3)) fun r_1 =>
      if r_1 = 0 then
        lT (x5 + (1 : Int32)) fun x5_11 =>
        LX6_hashOfWires_5 M n x3 x5_11
      else
        lT (((31 : Int64) * x3) + x5.toInt64) fun x3_3 =>
        b1 (FX2_toldAcross 60 x5 (M 3)) fun r_5 =>
        lT (((31 : Int64) * x3_3) + r_5.toInt64) fun x3_7 =>
        lT (x5 + (1 : Int32)) fun x5_9 =>
        LX6_hashOfWires_5 M n x3_7 x5_9
def FX6_hashOfWires (x1 : Int64) (M : (Nat → Ob)) : Option (Int64) :=
  LX6_hashOfWires_5 M fu x1 (0 : Int32)
set_option maxRecDepth 100000 in
set_option maxHeartbeats 4000000 in
theorem lX6_hashOfWires_5 {g : Gl} {X : Cxt} (C : CxOk g X cX6_hashOfWires RX6 (Cond.code yX6_hashOfWires cX6_hashOfWires 6 (some .long) :: wsL_law) 6 2 43) {r : Int64} (h : Nat → Nat → Nat) (M : (Nat → Ob))  (Rk : RetOk g X (osX6 h M) (some (.long r)) (some .long))  : ∀ (n : Nat) (x3 : Int64) (x5 : Int32), LX6_hashOfWires_5 M n x3 x5 = some r → J g X (osX6 h M) 5 [(0, .ref (h 0 0)), (3, .long x3), (5, .int x5)] [] := by
  intro n
  induction n with
  | zero =>
    intro x3 x5 hF
    cases hF
  | succ n ih =>
    intro x3 x5 hF
    rw [LX6_hashOfWires_5.eq_2] at hF
    refine j_iload C 2 dX6_hashOfWires_5 rfl ?_
    refine j_bipush (v := (8 : Int32)) C dX6_hashOfWires_7 rfl ?_
    refine j_icmp_ge C 57 dX6_hashOfWires_9 rfl (fun c_14 => ?_) (fun c_14 => ?_)
    · have hF := (if_pos c_14).symm.trans hF
      refine j_lload_n C 1 dX6_hashOfWires_57 rfl rfl ?_
      cases hF
      exact j_lret C Rk dX6_hashOfWires_58
    · have hF := (if_neg c_14).symm.trans hF
      refine j_aload_n C 0 dX6_hashOfWires_12 rfl rfl ?_
      refine j_get (h := fun a => h a 0) (v := .ref (h 3 0)) C 0 2 rfl rfl (Nat.le_of_ble_eq_true rfl) rfl rfl in1_X6 (List.mem_cons_of_mem _ mw_1_23) dX6_hashOfWires_13 ?_
      refine j_iload C 2 dX6_hashOfWires_16 rfl ?_
      obtain ⟨r_1, k_2, hF⟩ := gb1 hF
      refine j_callVi C (os' := (osX6 h M)) [.int x5] (kX2_isOpen g 60 (h 3) x5 (M 3) k_2) [3] rfl rfl rfl rfl 3 rfl rfl (wl_gV mw_29_9 mw_29_10 mw_29_11 mw_1_22 mw_29_12) rfl 1 rfl hd_X2_isOpen ⟨Nat.le_of_ble_eq_true rfl, Nat.le_of_ble_eq_true rfl⟩ (Nat.le_of_ble_eq_true rfl) rfl dX6_hashOfWires_18 ?_
      refine j_if_eq C 51 dX6_hashOfWires_21 rfl (fun c_13 => ?_) (fun c_13 => ?_)
      · have hF := (if_pos c_13).symm.trans hF
        obtain ⟨x5_11, e_12, hF⟩ := glT hF
        refine j_iinc C 2 [(5, .int x5_11), (0, .ref (h 0 0)), (3, .long x3)] dX6_hashOfWires_51 rfl e_12.symm (Nat.le_of_ble_eq_true rfl) rfl ?_
        refine j_goto C 5 dX6_hashOfWires_54 rfl ?_
        refine j_sub [(0, .ref (h 0 0)), (3, .long x3), (5, .int x5_11)] [1, 2, 0] rfl ?_
        exact ih _ _ hF
      · have hF := (if_neg c_13).symm.trans hF
        refine j_ldc2 (v := (31 : Int64)) C (List.mem_cons_of_mem _ mw_43_0) dX6_hashOfWires_24 ?_
        refine j_lload_n C 1 dX6_hashOfWires_27 rfl rfl ?_
        refine j_lmul C dX6_hashOfWires_28 ?_
        refine j_iload C 2 dX6_hashOfWires_29 rfl ?_
        refine j_i2l C dX6_hashOfWires_31 ?_
        refine j_ladd C dX6_hashOfWires_32 ?_
        obtain ⟨x3_3, e_4, hF⟩ := glT hF
        refine j_lstore_n C [(3, .long x3_3), (0, .ref (h 0 0)), (5, .int x5)] dX6_hashOfWires_33 rfl (Nat.le_of_ble_eq_true rfl) e_4 rfl ?_
        refine j_ldc2 (v := (31 : Int64)) C (List.mem_cons_of_mem _ mw_43_0) dX6_hashOfWires_34 ?_
        refine j_lload_n C 0 dX6_hashOfWires_37 rfl rfl ?_
        refine j_lmul C dX6_hashOfWires_38 ?_
        refine j_aload_n C 1 dX6_hashOfWires_39 rfl rfl ?_
        refine j_get (h := fun a => h a 0) (v := .ref (h 3 0)) C 0 2 rfl rfl (Nat.le_of_ble_eq_true rfl) rfl rfl in1_X6 (List.mem_cons_of_mem _ mw_1_23) dX6_hashOfWires_40 ?_
        refine j_iload C 2 dX6_hashOfWires_43 rfl ?_
        obtain ⟨r_5, k_6, hF⟩ := gb1 hF
        refine j_callVi C (os' := (osX6 h M)) [.int x5] (kX2_toldAcross g 60 (h 3) x5 (M 3) k_6) [3] rfl rfl rfl rfl 3 rfl rfl (wl_gV mw_19_22 mw_19_23 mw_20_0 mw_1_22 mw_20_1) rfl 1 rfl hd_X2_toldAcross ⟨Nat.le_of_ble_eq_true rfl, Nat.le_of_ble_eq_true rfl⟩ (Nat.le_of_ble_eq_true rfl) rfl dX6_hashOfWires_45 ?_
        refine j_i2l C dX6_hashOfWires_48 ?_
        refine j_ladd C dX6_hashOfWires_49 ?_
        obtain ⟨x3_7, e_8, hF⟩ := glT hF
        refine j_lstore_n C [(3, .long x3_7), (0, .ref (h 0 0)), (5, .int x5)] dX6_hashOfWires_50 rfl (Nat.le_of_ble_eq_true rfl) e_8 rfl ?_
        obtain ⟨x5_9, e_10, hF⟩ := glT hF
        refine j_iinc C 2 [(5, .int x5_9), (3, .long x3_7), (0, .ref (h 0 0))] dX6_hashOfWires_51 rfl e_10.symm (Nat.le_of_ble_eq_true rfl) rfl ?_
        refine j_goto C 5 dX6_hashOfWires_54 rfl ?_
        refine j_sub [(0, .ref (h 0 0)), (3, .long x3_7), (5, .int x5_9)] [2, 1, 0] rfl ?_
        exact ih _ _ hF
set_option maxRecDepth 100000 in
set_option maxHeartbeats 4000000 in
theorem kX6_hashOfWires (g : Gl) (h : Nat → Nat → Nat) (x1 : Int64) (M : (Nat → Ob)) {r : Int64} (hF : FX6_hashOfWires x1 M = some r) : Ctr g yX6_hashOfWires (Cond.code yX6_hashOfWires cX6_hashOfWires 6 (some .long) :: wsL_law) 2 43 (osX6 h M) (osX6 h M) [.ref (h 0 0), .long x1] (some (.long r)) := by
  refine Ctr.of (cc := cX6_hashOfWires) (maxL := 6) (ret := (some .long)) (by decide) rfl (Nat.le_of_ble_eq_true rfl) ?_
  intro X C Rk
  replace C : CxOk g X cX6_hashOfWires RX6 (Cond.code yX6_hashOfWires cX6_hashOfWires 6 (some .long) :: wsL_law) 6 2 43 := C
  show J g X (osX6 h M) 0 [(0, .ref (h 0 0)), (1, .long x1)] []
  unfold FX6_hashOfWires at hF
  refine j_lload_n C 1 dX6_hashOfWires_0 rfl rfl ?_
  refine j_lstore_n C [(3, .long x1), (0, .ref (h 0 0)), (1, .long x1)] dX6_hashOfWires_1 rfl (Nat.le_of_ble_eq_true rfl) rfl rfl ?_
  refine j_iconst (v := (0 : Int32)) C dX6_hashOfWires_2 rfl ?_
  refine j_istore C [(5, .int (0 : Int32)), (3, .long x1), (0, .ref (h 0 0)), (1, .long x1)] dX6_hashOfWires_3 (Nat.le_of_ble_eq_true rfl) rfl rfl ?_
  refine j_sub [(0, .ref (h 0 0)), (3, .long x1), (5, .int (0 : Int32))] [2, 1, 0] rfl ?_
  refine lX6_hashOfWires_5 C h M Rk  _ _ _ hF
/-! HeadsMeet.hashOfEnding -/
def LX6_hashOfEnding_6 (x3 : Int32) (M : (Nat → Ob)) (E36 : Int64 → Option (Int64 × (Nat → Ob))) : Nat → Int64 → Int32 → Option (Int64 × (Nat → Ob))
  | 0, _, _ => none
  | n + 1, x4, x6 =>
    if (6 : Int32) < x6 then
      E36 x4
    else
      b1 (FX6_toldOfEnding x3 x6 M) fun r_1 =>
      lT (((31 : Int64) * x4) + r_1.toInt64) fun x4_3 =>
      lT (x6 + (1 : Int32)) fun x6_5 =>
      LX6_hashOfEnding_6 x3 M E36 n x4_3 x6_5
def FX6_hashOfEnding (x1 : Int64) (x3 : Int32) (M : (Nat → Ob)) : Option (Int64 × (Nat → Ob)) :=
  LX6_hashOfEnding_6 x3 M (fun x4_8 =>
   if x3 = 0 then
    some (x4_8, M)
   else
    b1 (FX5_tellAll 180 (M 8) (M 5)) fun s_9 =>
    lT (sM M 8 s_9) fun M_11 =>
    b1 (FX5_hashedInto x4_8 (M_11 8)) fun r_13 =>
    some (r_13, M_11)) fu x1 (0 : Int32)
set_option maxRecDepth 100000 in
set_option maxHeartbeats 4000000 in
theorem lX6_hashOfEnding_6 {g : Gl} {X : Cxt} (C : CxOk g X cX6_hashOfEnding RX6 (Cond.code yX6_hashOfEnding cX6_hashOfEnding 7 (some .long) :: wsL_law) 7 7 159) {r : Int64} {M' : (Nat → Ob)} (h : Nat → Nat → Nat) (x3 : Int32) (M : (Nat → Ob)) (E36 : Int64 → Option (Int64 × (Nat → Ob))) (Rk : RetOk g X (osX6 h M') (some (.long r)) (some .long)) (hE36 : ∀ (x4 : Int64), E36 x4 = some (r, M') → J g X (osX6 h M) 36 [(0, .ref (h 0 0)), (3, .int x3), (4, .long x4)] []) : ∀ (n : Nat) (x4 : Int64) (x6 : Int32), LX6_hashOfEnding_6 x3 M E36 n x4 x6 = some (r, M') → J g X (osX6 h M) 6 [(0, .ref (h 0 0)), (3, .int x3), (4, .long x4), (6, .int x6)] [] := by
  intro n
  induction n with
  | zero =>
    intro x4 x6 hF
    cases hF
  | succ n ih =>
    intro x4 x6 hF
    rw [LX6_hashOfEnding_6.eq_2] at hF
    refine j_iload C 3 dX6_hashOfEnding_6 rfl ?_
    refine j_bipush (v := (6 : Int32)) C dX6_hashOfEnding_8 rfl ?_
    refine j_icmp_gt C 36 dX6_hashOfEnding_10 rfl (fun c_7 => ?_) (fun c_7 => ?_)
    · have hF := (if_pos c_7).symm.trans hF
      refine j_sub [(0, .ref (h 0 0)), (3, .int x3), (4, .long x4)] [0, 1, 2] rfl ?_
      exact hE36 _ hF
    · have hF := (if_neg c_7).symm.trans hF
      refine j_ldc2 (v := (31 : Int64)) C (List.mem_cons_of_mem _ mw_43_0) dX6_hashOfEnding_13 ?_
      refine j_lload C 2 dX6_hashOfEnding_16 rfl ?_
      refine j_lmul C dX6_hashOfEnding_18 ?_
      refine j_aload_n C 0 dX6_hashOfEnding_19 rfl rfl ?_
      refine j_iload_n C 1 dX6_hashOfEnding_20 rfl rfl ?_
      refine j_iload C 3 dX6_hashOfEnding_21 rfl ?_
      obtain ⟨r_1, k_2, hF⟩ := gb1 hF
      refine j_callVi (h := fun a => h a 0) C (os' := (osX6 h M)) [.int x3, .int x6] (kX6_toldOfEnding g h x3 x6 M k_2) [0, 1, 2, 3, 4, 5, 6, 7, 8, 9, 10] rfl rfl rfl rfl 0 rfl rfl (wl_gV mw_22_7 mw_22_8 mw_22_9 mw_1_2 mw_22_10) rfl 2 rfl hd_X6_toldOfEnding ⟨Nat.le_of_ble_eq_true rfl, Nat.le_of_ble_eq_true rfl⟩ (Nat.le_of_ble_eq_true rfl) rfl dX6_hashOfEnding_23 ?_
      refine j_i2l C dX6_hashOfEnding_26 ?_
      refine j_ladd C dX6_hashOfEnding_27 ?_
      obtain ⟨x4_3, e_4, hF⟩ := glT hF
      refine j_lstore C [(4, .long x4_3), (0, .ref (h 0 0)), (3, .int x3), (6, .int x6)] dX6_hashOfEnding_28 (Nat.le_of_ble_eq_true rfl) e_4 rfl ?_
      obtain ⟨x6_5, e_6, hF⟩ := glT hF
      refine j_iinc C 3 [(6, .int x6_5), (4, .long x4_3), (0, .ref (h 0 0)), (3, .int x3)] dX6_hashOfEnding_30 rfl e_6.symm (Nat.le_of_ble_eq_true rfl) rfl ?_
      refine j_goto C 6 dX6_hashOfEnding_33 rfl ?_
      refine j_sub [(0, .ref (h 0 0)), (3, .int x3), (4, .long x4_3), (6, .int x6_5)] [2, 3, 1, 0] rfl ?_
      exact ih _ _ hF
set_option maxRecDepth 100000 in
set_option maxHeartbeats 4000000 in
theorem kX6_hashOfEnding (g : Gl) (h : Nat → Nat → Nat) (x1 : Int64) (x3 : Int32) (M : (Nat → Ob)) {r : Int64} {M' : (Nat → Ob)} (hF : FX6_hashOfEnding x1 x3 M = some (r, M')) : Ctr g yX6_hashOfEnding (Cond.code yX6_hashOfEnding cX6_hashOfEnding 7 (some .long) :: wsL_law) 7 159 (osX6 h M) (osX6 h M') [.ref (h 0 0), .long x1, .int x3] (some (.long r)) := by
  refine Ctr.of (cc := cX6_hashOfEnding) (maxL := 7) (ret := (some .long)) (by decide) rfl (Nat.le_of_ble_eq_true rfl) ?_
  intro X C Rk
  replace C : CxOk g X cX6_hashOfEnding RX6 (Cond.code yX6_hashOfEnding cX6_hashOfEnding 7 (some .long) :: wsL_law) 7 7 159 := C
  show J g X (osX6 h M) 0 [(0, .ref (h 0 0)), (1, .long x1), (3, .int x3)] []
  unfold FX6_hashOfEnding at hF
  refine j_lload_n C 1 dX6_hashOfEnding_0 rfl rfl ?_
  refine j_lstore C [(4, .long x1), (0, .ref (h 0 0)), (1, .long x1), (3, .int x3)] dX6_hashOfEnding_1 (Nat.le_of_ble_eq_true rfl) rfl rfl ?_
  refine j_iconst (v := (0 : Int32)) C dX6_hashOfEnding_3 rfl ?_
  refine j_istore C [(6, .int (0 : Int32)), (4, .long x1), (0, .ref (h 0 0)), (1, .long x1), (3, .int x3)] dX6_hashOfEnding_4 (Nat.le_of_ble_eq_true rfl) rfl rfl ?_
  refine j_sub [(0, .ref (h 0 0)), (3, .int x3), (4, .long x1), (6, .int (0 : Int32))] [2, 4, 1, 0] rfl ?_
  refine lX6_hashOfEnding_6 C h x3 M _ Rk (fun x4_8 hF => ?_) _ _ _ hF
  refine j_iload_n C 1 dX6_hashOfEnding_36 rfl rfl ?_
  refine j_if_eq C 62 dX6_hashOfEnding_37 rfl (fun c_15 => ?_) (fun c_15 => ?_)
  · have hF := (if_pos c_15).symm.trans hF
    refine j_lload C 2 dX6_hashOfEnding_62 rfl ?_
    cases hF
    exact j_lret C Rk dX6_hashOfEnding_64
  · have hF := (if_neg c_15).symm.trans hF
    refine j_aload_n C 0 dX6_hashOfEnding_40 rfl rfl ?_
    refine j_get (h := fun a => h a 0) (v := .ref (h 8 0)) C 0 7 rfl rfl (Nat.le_of_ble_eq_true rfl) rfl rfl in1_X6 (List.mem_cons_of_mem _ mw_2_10) dX6_hashOfEnding_41 ?_
    refine j_aload_n C 0 dX6_hashOfEnding_44 rfl rfl ?_
    refine j_get (h := fun a => h a 0) (v := .ref (h 5 0)) C 0 4 rfl rfl (Nat.le_of_ble_eq_true rfl) rfl rfl in1_X6 (List.mem_cons_of_mem _ mw_2_1) dX6_hashOfEnding_45 ?_
    obtain ⟨s_9, k_10, hF⟩ := gb1 hF
    obtain ⟨M_11, e_12, hF⟩ := glT hF
    refine j_callVv C (os' := (osX6 h M_11)) [.ref (h 5 0)] (kX5_tellAll g 180 (h 8) (h 5) (M 8) (M 5) k_10) [8, 5] rfl rfl rfl (by rw [e_12]; rfl) 8 rfl rfl (wl_gV mw_34_13 mw_34_14 mw_34_15 mw_2_9 mw_34_16) rfl 1 rfl hd_X5_tellAll ⟨Nat.le_of_ble_eq_true rfl, Nat.le_of_ble_eq_true rfl⟩ (Nat.le_of_ble_eq_true rfl) rfl dX6_hashOfEnding_48 ?_
    refine j_aload_n C 0 dX6_hashOfEnding_51 rfl rfl ?_
    refine j_get (h := fun a => h a 0) (v := .ref (h 8 0)) C 0 7 rfl rfl (Nat.le_of_ble_eq_true rfl) rfl rfl in1_X6 (List.mem_cons_of_mem _ mw_2_10) dX6_hashOfEnding_52 ?_
    refine j_lload C 2 dX6_hashOfEnding_55 rfl ?_
    obtain ⟨r_13, k_14, hF⟩ := gb1 hF
    refine j_callVl C (os' := (osX6 h M_11)) [.long x4_8] (kX5_hashedInto g (h 8) x4_8 (M_11 8) k_14) [8] rfl rfl rfl rfl 8 rfl rfl (wl_gV mw_43_9 mw_43_10 mw_43_11 mw_2_9 mw_43_12) rfl 1 rfl hd_X5_hashedInto ⟨Nat.le_of_ble_eq_true rfl, Nat.le_of_ble_eq_true rfl⟩ (Nat.le_of_ble_eq_true rfl) rfl dX6_hashOfEnding_57 ?_
    refine j_lstore C [(4, .long r_13), (0, .ref (h 0 0)), (3, .int x3)] dX6_hashOfEnding_60 (Nat.le_of_ble_eq_true rfl) rfl rfl ?_
    refine j_lload C 0 dX6_hashOfEnding_62 rfl ?_
    cases hF
    exact j_lret C Rk dX6_hashOfEnding_64
/-! HeadsMeet.digest -/
def LX6_digest_62  : Nat → Int64 → Int32 → (Nat → Ob) → Option (Int64 × (Nat → Ob))
  | 0, _, _, _ => none
  | n + 1, x1, x3, M =>
    if (14 : Int32) < x3 then
      some (x1, M)
    else
      b2 (FX6_count x3 M) fun r_19 M_20 =>
      lT (((31 : Int64) * x1) + r_19.toInt64) fun x1_22 =>
      lT (x3 + (1 : Int32)) fun x3_24 =>
      LX6_digest_62 n x1_22 x3_24 M_20
def FX6_digest  (M : (Nat → Ob)) : Option (Int64 × (Nat → Ob)) :=
  b1 (FX6_hashOfNodes (1153 : Int64) M) fun r_1 =>
  b1 (FX6_hashOfWires r_1 M) fun r_3 =>
  if (oV (M 0) 10) = 0 then
    b1 (FX3_hashedInto r_3 (M 1)) fun r_27 =>
    LX6_digest_62  fu r_27 (0 : Int32) M
  else
    b1 (FX5_tellAll 60 (M 8) (M 3)) fun s_5 =>
    lT (sM M 8 s_5) fun M_7 =>
    b1 (FX5_hashedInto r_3 (M_7 8)) fun r_9 =>
    b2 (FX6_findEnding_3 M_7) fun r_11 M_12 =>
    b2 (FX6_hashOfEnding r_9 r_11 M_12) fun r_14 M_15 =>
    b1 (FX3_hashedInto r_14 (M_15 1)) fun r_17 =>
    LX6_digest_62  fu r_17 (0 : Int32) M_15
set_option maxRecDepth 100000 in
set_option maxHeartbeats 4000000 in
theorem lX6_digest_62 {g : Gl} {X : Cxt} (C : CxOk g X cX6_digest RX6 (Cond.code yX6_digest cX6_digest 4 (some .long) :: wsL_law) 4 8 185) {r : Int64} {M' : (Nat → Ob)} (h : Nat → Nat → Nat)   (Rk : RetOk g X (osX6 h M') (some (.long r)) (some .long))  : ∀ (n : Nat) (x1 : Int64) (x3 : Int32) (M : (Nat → Ob)), LX6_digest_62  n x1 x3 M = some (r, M') → J g X (osX6 h M) 62 [(0, .ref (h 0 0)), (1, .long x1), (3, .int x3)] [] := by
  intro n
  induction n with
  | zero =>
    intro x1 x3 M hF
    cases hF
  | succ n ih =>
    intro x1 x3 M hF
    rw [LX6_digest_62.eq_2] at hF
    refine j_iload_n C 2 dX6_digest_62 rfl rfl ?_
    refine j_bipush (v := (14 : Int32)) C dX6_digest_63 rfl ?_
    refine j_icmp_gt C 87 dX6_digest_65 rfl (fun c_26 => ?_) (fun c_26 => ?_)
    · have hF := (if_pos c_26).symm.trans hF
      refine j_lload_n C 1 dX6_digest_87 rfl rfl ?_
      cases hF
      exact j_lret C Rk dX6_digest_88
    · have hF := (if_neg c_26).symm.trans hF
      refine j_ldc2 (v := (31 : Int64)) C (List.mem_cons_of_mem _ mw_43_0) dX6_digest_68 ?_
      refine j_lload_n C 1 dX6_digest_71 rfl rfl ?_
      refine j_lmul C dX6_digest_72 ?_
      refine j_aload_n C 0 dX6_digest_73 rfl rfl ?_
      refine j_iload_n C 2 dX6_digest_74 rfl rfl ?_
      obtain ⟨r_19, M_20, k_21, hF⟩ := gb2 hF
      refine j_callVi (h := fun a => h a 0) C (os' := (osX6 h M_20)) [.int x3] (kX6_count g h x3 M k_21) [0, 1, 2, 3, 4, 5, 6, 7, 8, 9, 10] rfl rfl rfl rfl 0 rfl rfl (wl_gV mw_44_0 mw_41_16 mw_41_17 mw_1_2 mw_41_18) rfl 1 rfl hd_X6_count ⟨Nat.le_of_ble_eq_true rfl, Nat.le_of_ble_eq_true rfl⟩ (Nat.le_of_ble_eq_true rfl) rfl dX6_digest_75 ?_
      refine j_i2l C dX6_digest_78 ?_
      refine j_ladd C dX6_digest_79 ?_
      obtain ⟨x1_22, e_23, hF⟩ := glT hF
      refine j_lstore_n C [(1, .long x1_22), (0, .ref (h 0 0)), (3, .int x3)] dX6_digest_80 rfl (Nat.le_of_ble_eq_true rfl) e_23 rfl ?_
      obtain ⟨x3_24, e_25, hF⟩ := glT hF
      refine j_iinc C 2 [(3, .int x3_24), (1, .long x1_22), (0, .ref (h 0 0))] dX6_digest_81 rfl e_25.symm (Nat.le_of_ble_eq_true rfl) rfl ?_
      refine j_goto C 62 dX6_digest_84 rfl ?_
      refine j_sub [(0, .ref (h 0 0)), (1, .long x1_22), (3, .int x3_24)] [2, 1, 0] rfl ?_
      exact ih _ _ _ hF
set_option maxRecDepth 100000 in
set_option maxHeartbeats 4000000 in
theorem kX6_digest (g : Gl) (h : Nat → Nat → Nat)  (M : (Nat → Ob)) {r : Int64} {M' : (Nat → Ob)} (hF : FX6_digest M = some (r, M')) : Ctr g yX6_digest (Cond.code yX6_digest cX6_digest 4 (some .long) :: wsL_law) 8 185 (osX6 h M) (osX6 h M') [.ref (h 0 0)] (some (.long r)) := by
  refine Ctr.of (cc := cX6_digest) (maxL := 4) (ret := (some .long)) (by decide) rfl (Nat.le_of_ble_eq_true rfl) ?_
  intro X C Rk
  replace C : CxOk g X cX6_digest RX6 (Cond.code yX6_digest cX6_digest 4 (some .long) :: wsL_law) 4 8 185 := C
  show J g X (osX6 h M) 0 [(0, .ref (h 0 0))] []
  unfold FX6_digest at hF
  refine j_aload_n C 0 dX6_digest_0 rfl rfl ?_
  refine j_aload_n C 0 dX6_digest_1 rfl rfl ?_
  refine j_ldc2 (v := (1153 : Int64)) C (List.mem_cons_of_mem _ mw_42_23) dX6_digest_2 ?_
  obtain ⟨r_1, k_2, hF⟩ := gb1 hF
  refine j_callVl (h := fun a => h a 0) C (os' := (osX6 h M)) [.long (1153 : Int64)] (kX6_hashOfNodes g h (1153 : Int64) M k_2) [0, 1, 2, 3, 4, 5, 6, 7, 8, 9, 10] rfl rfl rfl rfl 0 rfl rfl (wl_gV mw_43_1 mw_43_2 mw_43_3 mw_1_2 mw_43_4) rfl 1 rfl hd_X6_hashOfNodes ⟨Nat.le_of_ble_eq_true rfl, Nat.le_of_ble_eq_true rfl⟩ (Nat.le_of_ble_eq_true rfl) rfl dX6_digest_5 ?_
  obtain ⟨r_3, k_4, hF⟩ := gb1 hF
  refine j_callVl (h := fun a => h a 0) C (os' := (osX6 h M)) [.long r_1] (kX6_hashOfWires g h r_1 M k_4) [0, 1, 2, 3, 4, 5, 6, 7, 8, 9, 10] rfl rfl rfl rfl 0 rfl rfl (wl_gV mw_43_5 mw_43_6 mw_43_7 mw_1_2 mw_43_8) rfl 1 rfl hd_X6_hashOfWires ⟨Nat.le_of_ble_eq_true rfl, Nat.le_of_ble_eq_true rfl⟩ (Nat.le_of_ble_eq_true rfl) rfl dX6_digest_8 ?_
  refine j_lstore_n C [(1, .long r_3), (0, .ref (h 0 0))] dX6_digest_11 rfl (Nat.le_of_ble_eq_true rfl) rfl rfl ?_
  refine j_aload_n C 1 dX6_digest_12 rfl rfl ?_
  refine j_get (h := fun a => h a 0) (v := .int (oV (M 0) 10)) C 0 10 rfl rfl (Nat.le_of_ble_eq_true rfl) rfl rfl in1_X6 (List.mem_cons_of_mem _ mw_16_9) dX6_digest_13 ?_
  refine j_if_eq C 51 dX6_digest_16 rfl (fun c_29 => ?_) (fun c_29 => ?_)
  · have hF := (if_pos c_29).symm.trans hF
    refine j_aload_n C 1 dX6_digest_51 rfl rfl ?_
    refine j_get (h := fun a => h a 0) (v := .ref (h 1 0)) C 0 0 rfl rfl (Nat.le_of_ble_eq_true rfl) rfl rfl in1_X6 (List.mem_cons_of_mem _ mw_1_15) dX6_digest_52 ?_
    refine j_lload_n C 0 dX6_digest_55 rfl rfl ?_
    obtain ⟨r_27, k_28, hF⟩ := gb1 hF
    refine j_callVl C (os' := (osX6 h M)) [.long r_3] (kX3_hashedInto g (h 1) r_3 (M 1) k_28) [1] rfl rfl rfl rfl 1 rfl rfl (wl_gV mw_43_18 mw_43_19 mw_43_20 mw_1_14 mw_43_21) rfl 1 rfl hd_X3_hashedInto ⟨Nat.le_of_ble_eq_true rfl, Nat.le_of_ble_eq_true rfl⟩ (Nat.le_of_ble_eq_true rfl) rfl dX6_digest_56 ?_
    refine j_lstore_n C [(1, .long r_27), (0, .ref (h 0 0))] dX6_digest_59 rfl (Nat.le_of_ble_eq_true rfl) rfl rfl ?_
    refine j_iconst (v := (0 : Int32)) C dX6_digest_60 rfl ?_
    refine j_istore_n C [(3, .int (0 : Int32)), (1, .long r_27), (0, .ref (h 0 0))] dX6_digest_61 rfl (Nat.le_of_ble_eq_true rfl) rfl rfl ?_
    refine j_sub [(0, .ref (h 0 0)), (1, .long r_27), (3, .int (0 : Int32))] [2, 1, 0] rfl ?_
    refine lX6_digest_62 C h  Rk  _ _ _ _ hF
  · have hF := (if_neg c_29).symm.trans hF
    refine j_aload_n C 1 dX6_digest_19 rfl rfl ?_
    refine j_get (h := fun a => h a 0) (v := .ref (h 8 0)) C 0 7 rfl rfl (Nat.le_of_ble_eq_true rfl) rfl rfl in1_X6 (List.mem_cons_of_mem _ mw_2_10) dX6_digest_20 ?_
    refine j_aload_n C 1 dX6_digest_23 rfl rfl ?_
    refine j_get (h := fun a => h a 0) (v := .ref (h 3 0)) C 0 2 rfl rfl (Nat.le_of_ble_eq_true rfl) rfl rfl in1_X6 (List.mem_cons_of_mem _ mw_1_23) dX6_digest_24 ?_
    obtain ⟨s_5, k_6, hF⟩ := gb1 hF
    obtain ⟨M_7, e_8, hF⟩ := glT hF
    refine j_callVv C (os' := (osX6 h M_7)) [.ref (h 3 0)] (kX5_tellAll g 60 (h 8) (h 3) (M 8) (M 3) k_6) [8, 3] rfl rfl rfl (by rw [e_8]; rfl) 8 rfl rfl (wl_gV mw_34_13 mw_34_14 mw_34_15 mw_2_9 mw_34_16) rfl 1 rfl hd_X5_tellAll ⟨Nat.le_of_ble_eq_true rfl, Nat.le_of_ble_eq_true rfl⟩ (Nat.le_of_ble_eq_true rfl) rfl dX6_digest_27 ?_
    refine j_aload_n C 1 dX6_digest_30 rfl rfl ?_
    refine j_aload_n C 1 dX6_digest_31 rfl rfl ?_
    refine j_get (h := fun a => h a 0) (v := .ref (h 8 0)) C 0 7 rfl rfl (Nat.le_of_ble_eq_true rfl) rfl rfl in1_X6 (List.mem_cons_of_mem _ mw_2_10) dX6_digest_32 ?_
    refine j_lload_n C 0 dX6_digest_35 rfl rfl ?_
    obtain ⟨r_9, k_10, hF⟩ := gb1 hF
    refine j_callVl C (os' := (osX6 h M_7)) [.long r_3] (kX5_hashedInto g (h 8) r_3 (M_7 8) k_10) [8] rfl rfl rfl rfl 8 rfl rfl (wl_gV mw_43_9 mw_43_10 mw_43_11 mw_2_9 mw_43_12) rfl 1 rfl hd_X5_hashedInto ⟨Nat.le_of_ble_eq_true rfl, Nat.le_of_ble_eq_true rfl⟩ (Nat.le_of_ble_eq_true rfl) rfl dX6_digest_36 ?_
    refine j_aload_n C 1 dX6_digest_39 rfl rfl ?_
    refine j_aload_n C 1 dX6_digest_40 rfl rfl ?_
    refine j_get (h := fun a => h a 0) (v := .ref (h 3 0)) C 0 2 rfl rfl (Nat.le_of_ble_eq_true rfl) rfl rfl in1_X6 (List.mem_cons_of_mem _ mw_1_23) dX6_digest_41 ?_
    obtain ⟨r_11, M_12, k_13, hF⟩ := gb2 hF
    refine j_callVi (h := fun a => h a 0) C (os' := (osX6 h M_12)) [.ref (h 3 0)] (kX6_findEnding_3 g h M_7 k_13) [0, 1, 2, 3, 4, 5, 6, 7, 8, 9, 10] rfl rfl rfl rfl 0 rfl rfl (wl_gV mw_33_16 mw_33_17 mw_33_18 mw_1_2 mw_33_19) rfl 1 rfl hd_X6_findEnding ⟨Nat.le_of_ble_eq_true rfl, Nat.le_of_ble_eq_true rfl⟩ (Nat.le_of_ble_eq_true rfl) rfl dX6_digest_44 ?_
    obtain ⟨r_14, M_15, k_16, hF⟩ := gb2 hF
    refine j_callVl (h := fun a => h a 0) C (os' := (osX6 h M_15)) [.long r_9, .int r_11] (kX6_hashOfEnding g h r_9 r_11 M_12 k_16) [0, 1, 2, 3, 4, 5, 6, 7, 8, 9, 10] rfl rfl rfl rfl 0 rfl rfl (wl_gV mw_43_14 mw_43_15 mw_43_16 mw_1_2 mw_43_17) rfl 2 rfl hd_X6_hashOfEnding ⟨Nat.le_of_ble_eq_true rfl, Nat.le_of_ble_eq_true rfl⟩ (Nat.le_of_ble_eq_true rfl) rfl dX6_digest_47 ?_
    refine j_lstore_n C [(1, .long r_14), (0, .ref (h 0 0))] dX6_digest_50 rfl (Nat.le_of_ble_eq_true rfl) rfl rfl ?_
    refine j_aload_n C 1 dX6_digest_51 rfl rfl ?_
    refine j_get (h := fun a => h a 0) (v := .ref (h 1 0)) C 0 0 rfl rfl (Nat.le_of_ble_eq_true rfl) rfl rfl in1_X6 (List.mem_cons_of_mem _ mw_1_15) dX6_digest_52 ?_
    refine j_lload_n C 0 dX6_digest_55 rfl rfl ?_
    obtain ⟨r_17, k_18, hF⟩ := gb1 hF
    refine j_callVl C (os' := (osX6 h M_15)) [.long r_14] (kX3_hashedInto g (h 1) r_14 (M_15 1) k_18) [1] rfl rfl rfl rfl 1 rfl rfl (wl_gV mw_43_18 mw_43_19 mw_43_20 mw_1_14 mw_43_21) rfl 1 rfl hd_X3_hashedInto ⟨Nat.le_of_ble_eq_true rfl, Nat.le_of_ble_eq_true rfl⟩ (Nat.le_of_ble_eq_true rfl) rfl dX6_digest_56 ?_
    refine j_lstore_n C [(1, .long r_17), (0, .ref (h 0 0))] dX6_digest_59 rfl (Nat.le_of_ble_eq_true rfl) rfl rfl ?_
    refine j_iconst (v := (0 : Int32)) C dX6_digest_60 rfl ?_
    refine j_istore_n C [(3, .int (0 : Int32)), (1, .long r_17), (0, .ref (h 0 0))] dX6_digest_61 rfl (Nat.le_of_ble_eq_true rfl) rfl rfl ?_
    refine j_sub [(0, .ref (h 0 0)), (1, .long r_17), (3, .int (0 : Int32))] [2, 1, 0] rfl ?_
    refine lX6_digest_62 C h  Rk  _ _ _ _ hF
