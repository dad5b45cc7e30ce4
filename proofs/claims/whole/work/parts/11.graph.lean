/-! HeadsMeet$Graph.clear -/
def FX2_clear (N0 : Nat)  (o0 : Ob) : Option (Ob) :=
  if (16 + 3 * N0) < 2147483648 then
  lT (sR o0 1 (fl o0 1 (16 + 3 * N0) (-1 : Int32))) fun o0_3 =>
  if 4 < 2147483648 then
  lT (sR o0_3 3 (fl o0_3 3 4 (0 : Int32))) fun o0_6 =>
  lT (sV o0_6 4 (0 : Int32)) fun o0_8 =>
  lT (sV o0_8 5 (0 : Int32)) fun o0_10 =>
  lT (sV o0_10 6 (0 : Int32)) fun o0_12 =>
  lT (sV o0_12 7 (0 : Int32)) fun o0_14 =>
  some o0_14
  else none
  else none
set_option maxRecDepth 100000 in
set_option maxHeartbeats 4000000 in
theorem kX2_clear (g : Gl) (N0 : Nat) (h0 : Nat → Nat)  (o0 : Ob) {o0' : Ob} (hF : FX2_clear N0 o0 = some o0') : Ctr g yX2_clear (Cond.code yX2_clear cX2_clear 1 none :: wsL_law) 1 24 [((shX2 N0), h0, o0)] [((shX2 N0), h0, o0')] [.ref (h0 0)] none := by
  refine Ctr.of (cc := cX2_clear) (maxL := 1) (ret := none) (by decide) rfl (Nat.le_of_ble_eq_true rfl) ?_
  intro X C Rk
  replace C : CxOk g X cX2_clear RX2 (Cond.code yX2_clear cX2_clear 1 none :: wsL_law) 1 1 24 := C
  show J g X [((shX2 N0), h0, o0)] 0 [(0, .ref (h0 0))] []
  unfold FX2_clear at hF
  refine j_aload_n C 0 dX2_clear_0 rfl rfl ?_
  refine j_get (v := .ref (h0 2)) C 0 1 rfl rfl (Nat.le_of_ble_eq_true rfl) rfl rfl in1_X2 (List.mem_cons_of_mem _ mw_3_9) dX2_clear_1 ?_
  refine j_iconst (v := (-1 : Int32)) C dX2_clear_4 rfl ?_
  obtain ⟨z_1, hF⟩ := gi hF
  obtain ⟨o0_3, e_2, hF⟩ := glT hF
  refine j_callSv C (oc := [((shX2 N0), h0, o0)]) (os' := [((shX2 N0), h0, o0_3)]) [.ref (h0 2), .int (-1 : Int32)] (c_fill g (shX2 N0) h0 o0 1 (16 + 3 * N0) rfl z_1 (-1 : Int32)) [0] rfl rfl rfl (by rw [e_2]; rfl) (wl_gS mw_3_11 mw_3_12 mw_3_13 mw_3_14) rfl 2 rfl hd_fill ⟨Nat.le_of_ble_eq_true rfl, Nat.le_of_ble_eq_true rfl⟩ (Nat.le_of_ble_eq_true rfl) rfl dX2_clear_5 ?_
  refine j_aload_n C 0 dX2_clear_8 rfl rfl ?_
  refine j_get (v := .ref (h0 4)) C 0 3 rfl rfl (Nat.le_of_ble_eq_true rfl) rfl rfl in1_X2 (List.mem_cons_of_mem _ mw_3_7) dX2_clear_9 ?_
  refine j_iconst (v := (0 : Int32)) C dX2_clear_12 rfl ?_
  obtain ⟨z_4, hF⟩ := gi hF
  obtain ⟨o0_6, e_5, hF⟩ := glT hF
  refine j_callSv C (oc := [((shX2 N0), h0, o0_3)]) (os' := [((shX2 N0), h0, o0_6)]) [.ref (h0 4), .int (0 : Int32)] (c_fill g (shX2 N0) h0 o0_3 3 4 rfl z_4 (0 : Int32)) [0] rfl rfl rfl (by rw [e_5]; rfl) (wl_gS mw_3_11 mw_3_12 mw_3_13 mw_3_14) rfl 2 rfl hd_fill ⟨Nat.le_of_ble_eq_true rfl, Nat.le_of_ble_eq_true rfl⟩ (Nat.le_of_ble_eq_true rfl) rfl dX2_clear_13 ?_
  refine j_aload_n C 0 dX2_clear_16 rfl rfl ?_
  refine j_iconst (v := (0 : Int32)) C dX2_clear_17 rfl ?_
  obtain ⟨o0_8, e_7, hF⟩ := glT hF
  refine j_putV C tyX2_ok nmX2 0 4 rfl rfl (Nat.le_of_ble_eq_true rfl) rfl in1_X2 (List.mem_cons_of_mem _ mw_7_23) rfl fd_X2_4 rfl rfl [((shX2 N0), h0, o0_8)] (by rw [e_7]; rfl) dX2_clear_18 ?_
  refine j_aload_n C 0 dX2_clear_21 rfl rfl ?_
  refine j_iconst (v := (0 : Int32)) C dX2_clear_22 rfl ?_
  obtain ⟨o0_10, e_9, hF⟩ := glT hF
  refine j_putV C tyX2_ok nmX2 0 5 rfl rfl (Nat.le_of_ble_eq_true rfl) rfl in1_X2 (List.mem_cons_of_mem _ mw_8_0) rfl fd_X2_5 rfl rfl [((shX2 N0), h0, o0_10)] (by rw [e_9]; rfl) dX2_clear_23 ?_
  refine j_aload_n C 0 dX2_clear_26 rfl rfl ?_
  refine j_iconst (v := (0 : Int32)) C dX2_clear_27 rfl ?_
  obtain ⟨o0_12, e_11, hF⟩ := glT hF
  refine j_putV C tyX2_ok nmX2 0 6 rfl rfl (Nat.le_of_ble_eq_true rfl) rfl in1_X2 (List.mem_cons_of_mem _ mw_8_1) rfl fd_X2_6 rfl rfl [((shX2 N0), h0, o0_12)] (by rw [e_11]; rfl) dX2_clear_28 ?_
  refine j_aload_n C 0 dX2_clear_31 rfl rfl ?_
  refine j_iconst (v := (0 : Int32)) C dX2_clear_32 rfl ?_
  obtain ⟨o0_14, e_13, hF⟩ := glT hF
  refine j_putV C tyX2_ok nmX2 0 7 rfl rfl (Nat.le_of_ble_eq_true rfl) rfl in1_X2 (List.mem_cons_of_mem _ mw_8_2) rfl fd_X2_7 rfl rfl [((shX2 N0), h0, o0_14)] (by rw [e_13]; rfl) dX2_clear_33 ?_
  cases hF
  exact j_vret C Rk dX2_clear_36
/-! HeadsMeet$Graph.port -/
def FX2_port (x0 : Int32) (x1 : Int32)  : Option (Int32) :=
  some (((16 : Int32) + ((3 : Int32) * x0)) + x1)
set_option maxRecDepth 100000 in
set_option maxHeartbeats 4000000 in
theorem kX2_port (g : Gl)  (x0 : Int32) (x1 : Int32)  {r : Int32} (hF : FX2_port x0 x1 = some r) : Ctr g yX2_port (Cond.code yX2_port cX2_port 2 (some .int) :: wsL_law) 0 0 [] [] [.int x0, .int x1] (some (.int r)) := by
  refine Ctr.of (cc := cX2_port) (maxL := 2) (ret := (some .int)) (by decide) rfl (Nat.le_of_ble_eq_true rfl) ?_
  intro X C Rk
  replace C : CxOk g X cX2_port RX2 (Cond.code yX2_port cX2_port 2 (some .int) :: wsL_law) 2 0 0 := C
  show J g X [] 0 [(0, .int x0), (1, .int x1)] []
  unfold FX2_port at hF
  refine j_bipush (v := (16 : Int32)) C dX2_port_0 rfl ?_
  refine j_iconst (v := (3 : Int32)) C dX2_port_2 rfl ?_
  refine j_iload_n C 0 dX2_port_3 rfl rfl ?_
  refine j_imul C dX2_port_4 ?_
  refine j_iadd C dX2_port_5 ?_
  refine j_iload_n C 1 dX2_port_6 rfl rfl ?_
  refine j_iadd C dX2_port_7 ?_
  cases hF
  exact j_iret C Rk dX2_port_8
/-! HeadsMeet$Graph.link -/
def FX2_link (N0 : Nat) (x1 : Int32) (x2 : Int32) (o0 : Ob) : Option (Ob) :=
  if x1 < 0 then
    some o0
  else
    if (Int32.ofNat (16 + 3 * N0)) ≤ x1 then
      some o0
    else
      if x2 < 0 then
        some o0
      else
        if (Int32.ofNat (16 + 3 * N0)) ≤ x2 then
          some o0
        else
          if inb x1 (16 + 3 * N0) then
          lT (sA o0 1 x1.toNatClampNeg x2) fun o0_3 =>
          if inb x2 (16 + 3 * N0) then
          lT (sA o0_3 1 x2.toNatClampNeg x1) fun o0_6 =>
          some o0_6
          else none
          else none
set_option maxRecDepth 100000 in
set_option maxHeartbeats 4000000 in
theorem kX2_link (g : Gl) (N0 : Nat) (h0 : Nat → Nat) (x1 : Int32) (x2 : Int32) (o0 : Ob) {o0' : Ob} (hF : FX2_link N0 x1 x2 o0 = some o0') : Ctr g yX2_link (Cond.code yX2_link cX2_link 3 none :: wsL_law) 0 0 [((shX2 N0), h0, o0)] [((shX2 N0), h0, o0')] [.ref (h0 0), .int x1, .int x2] none := by
  refine Ctr.of (cc := cX2_link) (maxL := 3) (ret := none) (by decide) rfl (Nat.le_of_ble_eq_true rfl) ?_
  intro X C Rk
  replace C : CxOk g X cX2_link RX2 (Cond.code yX2_link cX2_link 3 none :: wsL_law) 3 0 0 := C
  show J g X [((shX2 N0), h0, o0)] 0 [(0, .ref (h0 0)), (1, .int x1), (2, .int x2)] []
  unfold FX2_link at hF
  refine j_iload_n C 1 dX2_link_0 rfl rfl ?_
  refine j_if_lt C 40 dX2_link_1 rfl (fun c_10 => ?_) (fun c_10 => ?_)
  · have hF := (if_pos c_10).symm.trans hF
    cases hF
    exact j_vret C Rk dX2_link_40
  · have hF := (if_neg c_10).symm.trans hF
    refine j_iload_n C 1 dX2_link_4 rfl rfl ?_
    refine j_aload_n C 0 dX2_link_5 rfl rfl ?_
    refine j_get (v := .ref (h0 2)) C 0 1 rfl rfl (Nat.le_of_ble_eq_true rfl) rfl rfl in1_X2 (List.mem_cons_of_mem _ mw_3_9) dX2_link_6 ?_
    refine j_alen (v := Int32.ofNat (16 + 3 * N0)) C 0 1 rfl rfl rfl dX2_link_9 ?_
    refine j_icmp_ge C 40 dX2_link_10 rfl (fun c_9 => ?_) (fun c_9 => ?_)
    · have hF := (if_pos c_9).symm.trans hF
      cases hF
      exact j_vret C Rk dX2_link_40
    · have hF := (if_neg c_9).symm.trans hF
      refine j_iload_n C 2 dX2_link_13 rfl rfl ?_
      refine j_if_lt C 40 dX2_link_14 rfl (fun c_8 => ?_) (fun c_8 => ?_)
      · have hF := (if_pos c_8).symm.trans hF
        cases hF
        exact j_vret C Rk dX2_link_40
      · have hF := (if_neg c_8).symm.trans hF
        refine j_iload_n C 2 dX2_link_17 rfl rfl ?_
        refine j_aload_n C 0 dX2_link_18 rfl rfl ?_
        refine j_get (v := .ref (h0 2)) C 0 1 rfl rfl (Nat.le_of_ble_eq_true rfl) rfl rfl in1_X2 (List.mem_cons_of_mem _ mw_3_9) dX2_link_19 ?_
        refine j_alen (v := Int32.ofNat (16 + 3 * N0)) C 0 1 rfl rfl rfl dX2_link_22 ?_
        refine j_icmp_ge C 40 dX2_link_23 rfl (fun c_7 => ?_) (fun c_7 => ?_)
        · have hF := (if_pos c_7).symm.trans hF
          cases hF
          exact j_vret C Rk dX2_link_40
        · have hF := (if_neg c_7).symm.trans hF
          refine j_aload_n C 0 dX2_link_26 rfl rfl ?_
          refine j_get (v := .ref (h0 2)) C 0 1 rfl rfl (Nat.le_of_ble_eq_true rfl) rfl rfl in1_X2 (List.mem_cons_of_mem _ mw_3_9) dX2_link_27 ?_
          refine j_iload_n C 1 dX2_link_30 rfl rfl ?_
          refine j_iload_n C 2 dX2_link_31 rfl rfl ?_
          obtain ⟨z_1, hF⟩ := gi hF
          obtain ⟨o0_3, e_2, hF⟩ := glT hF
          refine j_iast C 0 1 rfl rfl z_1 [((shX2 N0), h0, o0_3)] (by rw [e_2]; rfl) dX2_link_32 ?_
          refine j_aload_n C 0 dX2_link_33 rfl rfl ?_
          refine j_get (v := .ref (h0 2)) C 0 1 rfl rfl (Nat.le_of_ble_eq_true rfl) rfl rfl in1_X2 (List.mem_cons_of_mem _ mw_3_9) dX2_link_34 ?_
          refine j_iload_n C 2 dX2_link_37 rfl rfl ?_
          refine j_iload_n C 1 dX2_link_38 rfl rfl ?_
          obtain ⟨z_4, hF⟩ := gi hF
          obtain ⟨o0_6, e_5, hF⟩ := glT hF
          refine j_iast C 0 1 rfl rfl z_4 [((shX2 N0), h0, o0_6)] (by rw [e_5]; rfl) dX2_link_39 ?_
          cases hF
          exact j_vret C Rk dX2_link_40
/-! HeadsMeet$Graph.kindOf -/
def FX2_kindOf (N0 : Nat) (x1 : Int32) (o0 : Ob) : Option (Int32) :=
  if x1 < 0 then
    some (-1 : Int32)
  else
    if (oV o0 4) ≤ x1 then
      some (-1 : Int32)
    else
      if (Int32.ofNat N0) ≤ x1 then
        some (-1 : Int32)
      else
        if inb x1 N0 then
        some (oA o0 0 x1.toNatClampNeg)
        else none
set_option maxRecDepth 100000 in
set_option maxHeartbeats 4000000 in
theorem kX2_kindOf (g : Gl) (N0 : Nat) (h0 : Nat → Nat) (x1 : Int32) (o0 : Ob) {r : Int32} (hF : FX2_kindOf N0 x1 o0 = some r) : Ctr g yX2_kindOf (Cond.code yX2_kindOf cX2_kindOf 2 (some .int) :: wsL_law) 0 0 [((shX2 N0), h0, o0)] [((shX2 N0), h0, o0)] [.ref (h0 0), .int x1] (some (.int r)) := by
  refine Ctr.of (cc := cX2_kindOf) (maxL := 2) (ret := (some .int)) (by decide) rfl (Nat.le_of_ble_eq_true rfl) ?_
  intro X C Rk
  replace C : CxOk g X cX2_kindOf RX2 (Cond.code yX2_kindOf cX2_kindOf 2 (some .int) :: wsL_law) 2 0 0 := C
  show J g X [((shX2 N0), h0, o0)] 0 [(0, .ref (h0 0)), (1, .int x1)] []
  unfold FX2_kindOf at hF
  refine j_iload_n C 1 dX2_kindOf_0 rfl rfl ?_
  refine j_if_lt C 30 dX2_kindOf_1 rfl (fun c_4 => ?_) (fun c_4 => ?_)
  · have hF := (if_pos c_4).symm.trans hF
    refine j_iconst (v := (-1 : Int32)) C dX2_kindOf_30 rfl ?_
    cases hF
    exact j_iret C Rk dX2_kindOf_31
  · have hF := (if_neg c_4).symm.trans hF
    refine j_iload_n C 1 dX2_kindOf_4 rfl rfl ?_
    refine j_aload_n C 0 dX2_kindOf_5 rfl rfl ?_
    refine j_get (v := .int (oV o0 4)) C 0 4 rfl rfl (Nat.le_of_ble_eq_true rfl) rfl rfl in1_X2 (List.mem_cons_of_mem _ mw_7_23) dX2_kindOf_6 ?_
    refine j_icmp_ge C 30 dX2_kindOf_9 rfl (fun c_3 => ?_) (fun c_3 => ?_)
    · have hF := (if_pos c_3).symm.trans hF
      refine j_iconst (v := (-1 : Int32)) C dX2_kindOf_30 rfl ?_
      cases hF
      exact j_iret C Rk dX2_kindOf_31
    · have hF := (if_neg c_3).symm.trans hF
      refine j_iload_n C 1 dX2_kindOf_12 rfl rfl ?_
      refine j_aload_n C 0 dX2_kindOf_13 rfl rfl ?_
      refine j_get (v := .ref (h0 1)) C 0 0 rfl rfl (Nat.le_of_ble_eq_true rfl) rfl rfl in1_X2 (List.mem_cons_of_mem _ mw_3_8) dX2_kindOf_14 ?_
      refine j_alen (v := Int32.ofNat N0) C 0 0 rfl rfl rfl dX2_kindOf_17 ?_
      refine j_icmp_ge C 30 dX2_kindOf_18 rfl (fun c_2 => ?_) (fun c_2 => ?_)
      · have hF := (if_pos c_2).symm.trans hF
        refine j_iconst (v := (-1 : Int32)) C dX2_kindOf_30 rfl ?_
        cases hF
        exact j_iret C Rk dX2_kindOf_31
      · have hF := (if_neg c_2).symm.trans hF
        refine j_aload_n C 0 dX2_kindOf_21 rfl rfl ?_
        refine j_get (v := .ref (h0 1)) C 0 0 rfl rfl (Nat.le_of_ble_eq_true rfl) rfl rfl in1_X2 (List.mem_cons_of_mem _ mw_3_8) dX2_kindOf_22 ?_
        refine j_iload_n C 1 dX2_kindOf_25 rfl rfl ?_
        obtain ⟨z_1, hF⟩ := gi hF
        refine j_iald C 0 0 rfl rfl z_1 dX2_kindOf_26 ?_
        refine j_goto C 31 dX2_kindOf_27 rfl ?_
        cases hF
        exact j_iret C Rk dX2_kindOf_31
/-! HeadsMeet$Graph.addNode -/
def LX2_addNode_5 (N0 : Nat) (x1 : Int32) (o0 : Ob) (E28 : Int32 → Option (Int32 × Ob)) : Nat → Int32 → Option (Int32 × Ob)
  | 0, _ => none
  | n + 1, x2 =>
    if (oV o0 4) ≤ x2 then
      E28 x2
    else
      b1 (FX2_kindOf N0 x2 o0) fun r_3 =>
      if r_3 = (-1 : Int32) then
        E28 x2
      else
        lT (x2 + (1 : Int32)) fun x2_5 =>
        LX2_addNode_5 N0 x1 o0 E28 n x2_5
def BX2_addNode_28 (N0 : Nat) (x1 : Int32) (x2 : Int32) (o0 : Ob) : Option (Int32 × Ob) :=
  if x2 < 0 then
    some ((-1 : Int32), o0)
  else
    if x2 < (Int32.ofNat N0) then
      lT (sV o0 5 (x2 + (1 : Int32))) fun o0_11 =>
      lT (sV o0_11 4 (if (oV o0_11 4) < (oV o0_11 5) then oV o0_11 5 else oV o0_11 4)) fun o0_13 =>
      if inb x2 N0 then
      lT (sA o0_13 0 x2.toNatClampNeg x1) fun o0_16 =>
      lT (sV o0_16 6 ((oV o0_16 6) + (1 : Int32))) fun o0_18 =>
      some (x2, o0_18)
      else none
    else
      some ((-1 : Int32), o0)
def FX2_addNode (N0 : Nat) (x1 : Int32) (o0 : Ob) : Option (Int32 × Ob) :=
  lT (oV o0 5) fun x2_1 =>
  LX2_addNode_5 N0 x1 o0 (fun x2_9 =>
   BX2_addNode_28 N0 x1 x2_9 o0) fu x2_1
set_option maxRecDepth 100000 in
set_option maxHeartbeats 4000000 in
theorem lX2_addNode_5 {g : Gl} {X : Cxt} (C : CxOk g X cX2_addNode RX2 (Cond.code yX2_addNode cX2_addNode 3 (some .int) :: wsL_law) 3 1 21) {r : Int32} {o0' : Ob} (N0 : Nat) (h0 : Nat → Nat) (x1 : Int32) (o0 : Ob) (E28 : Int32 → Option (Int32 × Ob)) (Rk : RetOk g X [((shX2 N0), h0, o0')] (some (.int r)) (some .int)) (hE28 : ∀ (x2 : Int32), E28 x2 = some (r, o0') → J g X [((shX2 N0), h0, o0)] 28 [(0, .ref (h0 0)), (1, .int x1), (2, .int x2)] []) : ∀ (n : Nat) (x2 : Int32), LX2_addNode_5 N0 x1 o0 E28 n x2 = some (r, o0') → J g X [((shX2 N0), h0, o0)] 5 [(0, .ref (h0 0)), (1, .int x1), (2, .int x2)] [] := by
  intro n
  induction n with
  | zero =>
    intro x2 hF
    cases hF
  | succ n ih =>
    intro x2 hF
    rw [LX2_addNode_5.eq_2] at hF
    refine j_iload_n C 2 dX2_addNode_5 rfl rfl ?_
    refine j_aload_n C 0 dX2_addNode_6 rfl rfl ?_
    refine j_get (v := .int (oV o0 4)) C 0 4 rfl rfl (Nat.le_of_ble_eq_true rfl) rfl rfl in1_X2 (List.mem_cons_of_mem _ mw_7_23) dX2_addNode_7 ?_
    refine j_icmp_ge C 28 dX2_addNode_10 rfl (fun c_8 => ?_) (fun c_8 => ?_)
    · have hF := (if_pos c_8).symm.trans hF
      exact hE28 _ hF
    · have hF := (if_neg c_8).symm.trans hF
      refine j_aload_n C 0 dX2_addNode_13 rfl rfl ?_
      refine j_iload_n C 2 dX2_addNode_14 rfl rfl ?_
      obtain ⟨r_3, k_4, hF⟩ := gb1 hF
      refine j_callVi C (os' := [((shX2 N0), h0, o0)]) [.int x2] (kX2_kindOf g N0 h0 x2 o0 k_4) [0] rfl rfl rfl rfl 0 rfl rfl (wl_gV mw_13_11 mw_13_12 mw_13_13 mw_1_22 mw_13_14) rfl 1 rfl hd_X2_kindOf ⟨Nat.le_of_ble_eq_true rfl, Nat.le_of_ble_eq_true rfl⟩ (Nat.le_of_ble_eq_true rfl) rfl dX2_addNode_15 ?_
      refine j_iconst (v := (-1 : Int32)) C dX2_addNode_18 rfl ?_
      refine j_icmp_eq C 28 dX2_addNode_19 rfl (fun c_7 => ?_) (fun c_7 => ?_)
      · have hF := (if_pos c_7).symm.trans hF
        exact hE28 _ hF
      · have hF := (if_neg c_7).symm.trans hF
        obtain ⟨x2_5, e_6, hF⟩ := glT hF
        refine j_iinc C 2 [(2, .int x2_5), (0, .ref (h0 0)), (1, .int x1)] dX2_addNode_22 rfl e_6.symm (Nat.le_of_ble_eq_true rfl) rfl ?_
        refine j_goto C 5 dX2_addNode_25 rfl ?_
        refine j_sub [(0, .ref (h0 0)), (1, .int x1), (2, .int x2_5)] [1, 2, 0] rfl ?_
        exact ih _ hF
set_option maxRecDepth 100000 in
set_option maxHeartbeats 4000000 in
theorem bX2_addNode_28 {g : Gl} {X : Cxt} (C : CxOk g X cX2_addNode RX2 (Cond.code yX2_addNode cX2_addNode 3 (some .int) :: wsL_law) 3 1 21) {r : Int32} {o0' : Ob} (N0 : Nat) (h0 : Nat → Nat) (x1 : Int32) (x2 : Int32) (o0 : Ob)  (Rk : RetOk g X [((shX2 N0), h0, o0')] (some (.int r)) (some .int))  (hF : BX2_addNode_28 N0  x1 x2 o0 = some (r, o0')) : J g X [((shX2 N0), h0, o0)] 28 [(0, .ref (h0 0)), (1, .int x1), (2, .int x2)] [] := by
  unfold BX2_addNode_28 at hF
  refine j_iload_n C 2 dX2_addNode_28 rfl rfl ?_
  refine j_if_lt C 41 dX2_addNode_29 rfl (fun c_20 => ?_) (fun c_20 => ?_)
  · have hF := (if_pos c_20).symm.trans hF
    refine j_iconst (v := (-1 : Int32)) C dX2_addNode_41 rfl ?_
    cases hF
    exact j_iret C Rk dX2_addNode_42
  · have hF := (if_neg c_20).symm.trans hF
    refine j_iload_n C 2 dX2_addNode_32 rfl rfl ?_
    refine j_aload_n C 0 dX2_addNode_33 rfl rfl ?_
    refine j_get (v := .ref (h0 1)) C 0 0 rfl rfl (Nat.le_of_ble_eq_true rfl) rfl rfl in1_X2 (List.mem_cons_of_mem _ mw_3_8) dX2_addNode_34 ?_
    refine j_alen (v := Int32.ofNat N0) C 0 0 rfl rfl rfl dX2_addNode_37 ?_
    refine j_icmp_lt C 43 dX2_addNode_38 rfl (fun c_19 => ?_) (fun c_19 => ?_)
    · have hF := (if_pos c_19).symm.trans hF
      refine j_aload_n C 0 dX2_addNode_43 rfl rfl ?_
      refine j_iload_n C 2 dX2_addNode_44 rfl rfl ?_
      refine j_iconst (v := (1 : Int32)) C dX2_addNode_45 rfl ?_
      refine j_iadd C dX2_addNode_46 ?_
      obtain ⟨o0_11, e_10, hF⟩ := glT hF
      refine j_putV C tyX2_ok nmX2 0 5 rfl rfl (Nat.le_of_ble_eq_true rfl) rfl in1_X2 (List.mem_cons_of_mem _ mw_8_0) rfl fd_X2_5 rfl rfl [((shX2 N0), h0, o0_11)] (by rw [e_10]; rfl) dX2_addNode_47 ?_
      refine j_aload_n C 0 dX2_addNode_50 rfl rfl ?_
      refine j_aload_n C 0 dX2_addNode_51 rfl rfl ?_
      refine j_get (v := .int (oV o0_11 4)) C 0 4 rfl rfl (Nat.le_of_ble_eq_true rfl) rfl rfl in1_X2 (List.mem_cons_of_mem _ mw_7_23) dX2_addNode_52 ?_
      refine j_aload_n C 0 dX2_addNode_55 rfl rfl ?_
      refine j_get (v := .int (oV o0_11 5)) C 0 5 rfl rfl (Nat.le_of_ble_eq_true rfl) rfl rfl in1_X2 (List.mem_cons_of_mem _ mw_8_0) dX2_addNode_56 ?_
      refine j_mmax C (List.mem_cons_of_mem _ mw_13_10) (List.mem_cons_of_mem _ mw_10_18) (List.mem_cons_of_mem _ mw_10_19) (List.mem_cons_of_mem _ mw_10_20) (Nat.le_of_ble_eq_true rfl) (Nat.le_of_ble_eq_true rfl) dX2_addNode_59 ?_
      obtain ⟨o0_13, e_12, hF⟩ := glT hF
      refine j_putV C tyX2_ok nmX2 0 4 rfl rfl (Nat.le_of_ble_eq_true rfl) rfl in1_X2 (List.mem_cons_of_mem _ mw_7_23) rfl fd_X2_4 rfl rfl [((shX2 N0), h0, o0_13)] (by rw [e_12]; rfl) dX2_addNode_62 ?_
      refine j_aload_n C 0 dX2_addNode_65 rfl rfl ?_
      refine j_get (v := .ref (h0 1)) C 0 0 rfl rfl (Nat.le_of_ble_eq_true rfl) rfl rfl in1_X2 (List.mem_cons_of_mem _ mw_3_8) dX2_addNode_66 ?_
      refine j_iload_n C 2 dX2_addNode_69 rfl rfl ?_
      refine j_iload_n C 1 dX2_addNode_70 rfl rfl ?_
      obtain ⟨z_14, hF⟩ := gi hF
      obtain ⟨o0_16, e_15, hF⟩ := glT hF
      refine j_iast C 0 0 rfl rfl z_14 [((shX2 N0), h0, o0_16)] (by rw [e_15]; rfl) dX2_addNode_71 ?_
      refine j_aload_n C 0 dX2_addNode_72 rfl rfl ?_
      refine j_dup C rfl dX2_addNode_73 ?_
      refine j_get (v := .int (oV o0_16 6)) C 0 6 rfl rfl (Nat.le_of_ble_eq_true rfl) rfl rfl in1_X2 (List.mem_cons_of_mem _ mw_8_1) dX2_addNode_74 ?_
      refine j_iconst (v := (1 : Int32)) C dX2_addNode_77 rfl ?_
      refine j_iadd C dX2_addNode_78 ?_
      obtain ⟨o0_18, e_17, hF⟩ := glT hF
      refine j_putV C tyX2_ok nmX2 0 6 rfl rfl (Nat.le_of_ble_eq_true rfl) rfl in1_X2 (List.mem_cons_of_mem _ mw_8_1) rfl fd_X2_6 rfl rfl [((shX2 N0), h0, o0_18)] (by rw [e_17]; rfl) dX2_addNode_79 ?_
      refine j_iload_n C 2 dX2_addNode_82 rfl rfl ?_
      cases hF
      exact j_iret C Rk dX2_addNode_83
    · have hF := (if_neg c_19).symm.trans hF
      refine j_iconst (v := (-1 : Int32)) C dX2_addNode_41 rfl ?_
      cases hF
      exact j_iret C Rk dX2_addNode_42
set_option maxRecDepth 100000 in
set_option maxHeartbeats 4000000 in
theorem kX2_addNode (g : Gl) (N0 : Nat) (h0 : Nat → Nat) (x1 : Int32) (o0 : Ob) {r : Int32} {o0' : Ob} (hF : FX2_addNode N0 x1 o0 = some (r, o0')) : Ctr g yX2_addNode (Cond.code yX2_addNode cX2_addNode 3 (some .int) :: wsL_law) 1 21 [((shX2 N0), h0, o0)] [((shX2 N0), h0, o0')] [.ref (h0 0), .int x1] (some (.int r)) := by
  refine Ctr.of (cc := cX2_addNode) (maxL := 3) (ret := (some .int)) (by decide) rfl (Nat.le_of_ble_eq_true rfl) ?_
  intro X C Rk
  replace C : CxOk g X cX2_addNode RX2 (Cond.code yX2_addNode cX2_addNode 3 (some .int) :: wsL_law) 3 1 21 := C
  show J g X [((shX2 N0), h0, o0)] 0 [(0, .ref (h0 0)), (1, .int x1)] []
  unfold FX2_addNode at hF
  refine j_aload_n C 0 dX2_addNode_0 rfl rfl ?_
  refine j_get (v := .int (oV o0 5)) C 0 5 rfl rfl (Nat.le_of_ble_eq_true rfl) rfl rfl in1_X2 (List.mem_cons_of_mem _ mw_8_0) dX2_addNode_1 ?_
  obtain ⟨x2_1, e_2, hF⟩ := glT hF
  refine j_istore_n C [(2, .int x2_1), (0, .ref (h0 0)), (1, .int x1)] dX2_addNode_4 rfl (Nat.le_of_ble_eq_true rfl) e_2 rfl ?_
  refine j_sub [(0, .ref (h0 0)), (1, .int x1), (2, .int x2_1)] [1, 2, 0] rfl ?_
  refine lX2_addNode_5 C N0 h0 x1 o0 _ Rk (fun x2_9 hF => ?_) _ _ hF
  exact bX2_addNode_28 C N0 h0 _ _ _ Rk  hF
/-! HeadsMeet$Graph.nodes -/
def FX2_nodes (N0 : Nat)  (o0 : Ob) : Option (Int32) :=
  some (oV o0 6)
set_option maxRecDepth 100000 in
set_option maxHeartbeats 4000000 in
theorem kX2_nodes (g : Gl) (N0 : Nat) (h0 : Nat → Nat)  (o0 : Ob) {r : Int32} (hF : FX2_nodes N0 o0 = some r) : Ctr g yX2_nodes (Cond.code yX2_nodes cX2_nodes 1 (some .int) :: wsL_law) 0 0 [((shX2 N0), h0, o0)] [((shX2 N0), h0, o0)] [.ref (h0 0)] (some (.int r)) := by
  refine Ctr.of (cc := cX2_nodes) (maxL := 1) (ret := (some .int)) (by decide) rfl (Nat.le_of_ble_eq_true rfl) ?_
  intro X C Rk
  replace C : CxOk g X cX2_nodes RX2 (Cond.code yX2_nodes cX2_nodes 1 (some .int) :: wsL_law) 1 0 0 := C
  show J g X [((shX2 N0), h0, o0)] 0 [(0, .ref (h0 0))] []
  unfold FX2_nodes at hF
  refine j_aload_n C 0 dX2_nodes_0 rfl rfl ?_
  refine j_get (v := .int (oV o0 6)) C 0 6 rfl rfl (Nat.le_of_ble_eq_true rfl) rfl rfl in1_X2 (List.mem_cons_of_mem _ mw_8_1) dX2_nodes_1 ?_
  cases hF
  exact j_iret C Rk dX2_nodes_4
/-! HeadsMeet$Graph.across -/
def FX2_across (N0 : Nat) (x1 : Int32) (o0 : Ob) : Option (Int32) :=
  if x1 < 0 then
    some (-1 : Int32)
  else
    if (Int32.ofNat (16 + 3 * N0)) ≤ x1 then
      some (-1 : Int32)
    else
      if inb x1 (16 + 3 * N0) then
      some (oA o0 1 x1.toNatClampNeg)
      else none
set_option maxRecDepth 100000 in
set_option maxHeartbeats 4000000 in
theorem kX2_across (g : Gl) (N0 : Nat) (h0 : Nat → Nat) (x1 : Int32) (o0 : Ob) {r : Int32} (hF : FX2_across N0 x1 o0 = some r) : Ctr g yX2_across (Cond.code yX2_across cX2_across 2 (some .int) :: wsL_law) 0 0 [((shX2 N0), h0, o0)] [((shX2 N0), h0, o0)] [.ref (h0 0), .int x1] (some (.int r)) := by
  refine Ctr.of (cc := cX2_across) (maxL := 2) (ret := (some .int)) (by decide) rfl (Nat.le_of_ble_eq_true rfl) ?_
  intro X C Rk
  replace C : CxOk g X cX2_across RX2 (Cond.code yX2_across cX2_across 2 (some .int) :: wsL_law) 2 0 0 := C
  show J g X [((shX2 N0), h0, o0)] 0 [(0, .ref (h0 0)), (1, .int x1)] []
  unfold FX2_across at hF
  refine j_iload_n C 1 dX2_across_0 rfl rfl ?_
  refine j_if_lt C 22 dX2_across_1 rfl (fun c_3 => ?_) (fun c_3 => ?_)
  · have hF := (if_pos c_3).symm.trans hF
    refine j_iconst (v := (-1 : Int32)) C dX2_across_22 rfl ?_
    cases hF
    exact j_iret C Rk dX2_across_23
  · have hF := (if_neg c_3).symm.trans hF
    refine j_iload_n C 1 dX2_across_4 rfl rfl ?_
    refine j_aload_n C 0 dX2_across_5 rfl rfl ?_
    refine j_get (v := .ref (h0 2)) C 0 1 rfl rfl (Nat.le_of_ble_eq_true rfl) rfl rfl in1_X2 (List.mem_cons_of_mem _ mw_3_9) dX2_across_6 ?_
    refine j_alen (v := Int32.ofNat (16 + 3 * N0)) C 0 1 rfl rfl rfl dX2_across_9 ?_
    refine j_icmp_ge C 22 dX2_across_10 rfl (fun c_2 => ?_) (fun c_2 => ?_)
    · have hF := (if_pos c_2).symm.trans hF
      refine j_iconst (v := (-1 : Int32)) C dX2_across_22 rfl ?_
      cases hF
      exact j_iret C Rk dX2_across_23
    · have hF := (if_neg c_2).symm.trans hF
      refine j_aload_n C 0 dX2_across_13 rfl rfl ?_
      refine j_get (v := .ref (h0 2)) C 0 1 rfl rfl (Nat.le_of_ble_eq_true rfl) rfl rfl in1_X2 (List.mem_cons_of_mem _ mw_3_9) dX2_across_14 ?_
      refine j_iload_n C 1 dX2_across_17 rfl rfl ?_
      obtain ⟨z_1, hF⟩ := gi hF
      refine j_iald C 0 1 rfl rfl z_1 dX2_across_18 ?_
      refine j_goto C 23 dX2_across_19 rfl ?_
      cases hF
      exact j_iret C Rk dX2_across_23
/-! HeadsMeet$Graph.vacate -/
def FX2_vacate (N0 : Nat) (x1 : Int32) (o0 : Ob) : Option (Ob) :=
  if x1 < 0 then
    some o0
  else
    if (Int32.ofNat (16 + 3 * N0)) ≤ x1 then
      some o0
    else
      if inb x1 (16 + 3 * N0) then
      lT (sA o0 1 x1.toNatClampNeg (-1 : Int32)) fun o0_3 =>
      some o0_3
      else none
set_option maxRecDepth 100000 in
set_option maxHeartbeats 4000000 in
theorem kX2_vacate (g : Gl) (N0 : Nat) (h0 : Nat → Nat) (x1 : Int32) (o0 : Ob) {o0' : Ob} (hF : FX2_vacate N0 x1 o0 = some o0') : Ctr g yX2_vacate (Cond.code yX2_vacate cX2_vacate 2 none :: wsL_law) 0 0 [((shX2 N0), h0, o0)] [((shX2 N0), h0, o0')] [.ref (h0 0), .int x1] none := by
  refine Ctr.of (cc := cX2_vacate) (maxL := 2) (ret := none) (by decide) rfl (Nat.le_of_ble_eq_true rfl) ?_
  intro X C Rk
  replace C : CxOk g X cX2_vacate RX2 (Cond.code yX2_vacate cX2_vacate 2 none :: wsL_law) 2 0 0 := C
  show J g X [((shX2 N0), h0, o0)] 0 [(0, .ref (h0 0)), (1, .int x1)] []
  unfold FX2_vacate at hF
  refine j_iload_n C 1 dX2_vacate_0 rfl rfl ?_
  refine j_if_lt C 20 dX2_vacate_1 rfl (fun c_5 => ?_) (fun c_5 => ?_)
  · have hF := (if_pos c_5).symm.trans hF
    cases hF
    exact j_vret C Rk dX2_vacate_20
  · have hF := (if_neg c_5).symm.trans hF
    refine j_iload_n C 1 dX2_vacate_4 rfl rfl ?_
    refine j_aload_n C 0 dX2_vacate_5 rfl rfl ?_
    refine j_get (v := .ref (h0 2)) C 0 1 rfl rfl (Nat.le_of_ble_eq_true rfl) rfl rfl in1_X2 (List.mem_cons_of_mem _ mw_3_9) dX2_vacate_6 ?_
    refine j_alen (v := Int32.ofNat (16 + 3 * N0)) C 0 1 rfl rfl rfl dX2_vacate_9 ?_
    refine j_icmp_ge C 20 dX2_vacate_10 rfl (fun c_4 => ?_) (fun c_4 => ?_)
    · have hF := (if_pos c_4).symm.trans hF
      cases hF
      exact j_vret C Rk dX2_vacate_20
    · have hF := (if_neg c_4).symm.trans hF
      refine j_aload_n C 0 dX2_vacate_13 rfl rfl ?_
      refine j_get (v := .ref (h0 2)) C 0 1 rfl rfl (Nat.le_of_ble_eq_true rfl) rfl rfl in1_X2 (List.mem_cons_of_mem _ mw_3_9) dX2_vacate_14 ?_
      refine j_iload_n C 1 dX2_vacate_17 rfl rfl ?_
      refine j_iconst (v := (-1 : Int32)) C dX2_vacate_18 rfl ?_
      obtain ⟨z_1, hF⟩ := gi hF
      obtain ⟨o0_3, e_2, hF⟩ := glT hF
      refine j_iast C 0 1 rfl rfl z_1 [((shX2 N0), h0, o0_3)] (by rw [e_2]; rfl) dX2_vacate_19 ?_
      cases hF
      exact j_vret C Rk dX2_vacate_20
/-! HeadsMeet$Graph.fuse -/
def FX2_fuse (N0 : Nat) (x1 : Int32) (x2 : Int32) (o0 : Ob) : Option (Ob) :=
  b1 (FX2_across N0 x1 o0) fun r_1 =>
  if r_1 = x2 then
    lT (sV o0 7 ((oV o0 7) + (1 : Int32))) fun o0_4 =>
    b1 (FX2_vacate N0 x1 o0_4) fun o0_5 =>
    b1 (FX2_vacate N0 x2 o0_5) fun o0_7 =>
    some o0_7
  else
    b1 (FX2_across N0 x1 o0) fun r_9 =>
    b1 (FX2_across N0 x2 o0) fun r_11 =>
    b1 (FX2_link N0 r_9 r_11 o0) fun o0_13 =>
    b1 (FX2_vacate N0 x1 o0_13) fun o0_15 =>
    b1 (FX2_vacate N0 x2 o0_15) fun o0_17 =>
    some o0_17
set_option maxRecDepth 100000 in
set_option maxHeartbeats 4000000 in
theorem kX2_fuse (g : Gl) (N0 : Nat) (h0 : Nat → Nat) (x1 : Int32) (x2 : Int32) (o0 : Ob) {o0' : Ob} (hF : FX2_fuse N0 x1 x2 o0 = some o0') : Ctr g yX2_fuse (Cond.code yX2_fuse cX2_fuse 3 none :: wsL_law) 1 22 [((shX2 N0), h0, o0)] [((shX2 N0), h0, o0')] [.ref (h0 0), .int x1, .int x2] none := by
  refine Ctr.of (cc := cX2_fuse) (maxL := 3) (ret := none) (by decide) rfl (Nat.le_of_ble_eq_true rfl) ?_
  intro X C Rk
  replace C : CxOk g X cX2_fuse RX2 (Cond.code yX2_fuse cX2_fuse 3 none :: wsL_law) 3 1 22 := C
  show J g X [((shX2 N0), h0, o0)] 0 [(0, .ref (h0 0)), (1, .int x1), (2, .int x2)] []
  unfold FX2_fuse at hF
  refine j_aload_n C 0 dX2_fuse_0 rfl rfl ?_
  refine j_iload_n C 1 dX2_fuse_1 rfl rfl ?_
  obtain ⟨r_1, k_2, hF⟩ := gb1 hF
  refine j_callVi C (os' := [((shX2 N0), h0, o0)]) [.int x1] (kX2_across g N0 h0 x1 o0 k_2) [0] rfl rfl rfl rfl 0 rfl rfl (wl_gV mw_17_4 mw_17_5 mw_17_6 mw_1_22 mw_17_7) rfl 1 rfl hd_X2_across ⟨Nat.le_of_ble_eq_true rfl, Nat.le_of_ble_eq_true rfl⟩ (Nat.le_of_ble_eq_true rfl) rfl dX2_fuse_2 ?_
  refine j_iload_n C 2 dX2_fuse_5 rfl rfl ?_
  refine j_icmp_ne C 22 dX2_fuse_6 rfl (fun c_19 => ?_) (fun c_19 => ?_)
  · have hF := (if_neg c_19).symm.trans hF
    refine j_aload_n C 0 dX2_fuse_22 rfl rfl ?_
    refine j_aload_n C 0 dX2_fuse_23 rfl rfl ?_
    refine j_iload_n C 1 dX2_fuse_24 rfl rfl ?_
    obtain ⟨r_9, k_10, hF⟩ := gb1 hF
    refine j_callVi C (os' := [((shX2 N0), h0, o0)]) [.int x1] (kX2_across g N0 h0 x1 o0 k_10) [0] rfl rfl rfl rfl 0 rfl rfl (wl_gV mw_17_4 mw_17_5 mw_17_6 mw_1_22 mw_17_7) rfl 1 rfl hd_X2_across ⟨Nat.le_of_ble_eq_true rfl, Nat.le_of_ble_eq_true rfl⟩ (Nat.le_of_ble_eq_true rfl) rfl dX2_fuse_25 ?_
    refine j_aload_n C 0 dX2_fuse_28 rfl rfl ?_
    refine j_iload_n C 2 dX2_fuse_29 rfl rfl ?_
    obtain ⟨r_11, k_12, hF⟩ := gb1 hF
    refine j_callVi C (os' := [((shX2 N0), h0, o0)]) [.int x2] (kX2_across g N0 h0 x2 o0 k_12) [0] rfl rfl rfl rfl 0 rfl rfl (wl_gV mw_17_4 mw_17_5 mw_17_6 mw_1_22 mw_17_7) rfl 1 rfl hd_X2_across ⟨Nat.le_of_ble_eq_true rfl, Nat.le_of_ble_eq_true rfl⟩ (Nat.le_of_ble_eq_true rfl) rfl dX2_fuse_30 ?_
    obtain ⟨o0_13, k_14, hF⟩ := gb1 hF
    refine j_callVv C (os' := [((shX2 N0), h0, o0_13)]) [.int r_9, .int r_11] (kX2_link g N0 h0 r_9 r_11 o0 k_14) [0] rfl rfl rfl rfl 0 rfl rfl (wl_gV mw_17_8 mw_9_10 mw_9_11 mw_1_22 mw_9_12) rfl 2 rfl hd_X2_link ⟨Nat.le_of_ble_eq_true rfl, Nat.le_of_ble_eq_true rfl⟩ (Nat.le_of_ble_eq_true rfl) rfl dX2_fuse_33 ?_
    refine j_aload_n C 0 dX2_fuse_36 rfl rfl ?_
    refine j_iload_n C 1 dX2_fuse_37 rfl rfl ?_
    obtain ⟨o0_15, k_16, hF⟩ := gb1 hF
    refine j_callVv C (os' := [((shX2 N0), h0, o0_15)]) [.int x1] (kX2_vacate g N0 h0 x1 o0_13 k_16) [0] rfl rfl rfl rfl 0 rfl rfl (wl_gV mw_17_9 mw_17_10 mw_17_11 mw_1_22 mw_17_12) rfl 1 rfl hd_X2_vacate ⟨Nat.le_of_ble_eq_true rfl, Nat.le_of_ble_eq_true rfl⟩ (Nat.le_of_ble_eq_true rfl) rfl dX2_fuse_38 ?_
    refine j_aload_n C 0 dX2_fuse_41 rfl rfl ?_
    refine j_iload_n C 2 dX2_fuse_42 rfl rfl ?_
    obtain ⟨o0_17, k_18, hF⟩ := gb1 hF
    refine j_callVv C (os' := [((shX2 N0), h0, o0_17)]) [.int x2] (kX2_vacate g N0 h0 x2 o0_15 k_18) [0] rfl rfl rfl rfl 0 rfl rfl (wl_gV mw_17_9 mw_17_10 mw_17_11 mw_1_22 mw_17_12) rfl 1 rfl hd_X2_vacate ⟨Nat.le_of_ble_eq_true rfl, Nat.le_of_ble_eq_true rfl⟩ (Nat.le_of_ble_eq_true rfl) rfl dX2_fuse_43 ?_
    cases hF
    exact j_vret C Rk dX2_fuse_46
  · have hF := (if_pos c_19).symm.trans hF
    refine j_aload_n C 0 dX2_fuse_9 rfl rfl ?_
    refine j_dup C rfl dX2_fuse_10 ?_
    refine j_get (v := .int (oV o0 7)) C 0 7 rfl rfl (Nat.le_of_ble_eq_true rfl) rfl rfl in1_X2 (List.mem_cons_of_mem _ mw_8_2) dX2_fuse_11 ?_
    refine j_iconst (v := (1 : Int32)) C dX2_fuse_14 rfl ?_
    refine j_iadd C dX2_fuse_15 ?_
    obtain ⟨o0_4, e_3, hF⟩ := glT hF
    refine j_putV C tyX2_ok nmX2 0 7 rfl rfl (Nat.le_of_ble_eq_true rfl) rfl in1_X2 (List.mem_cons_of_mem _ mw_8_2) rfl fd_X2_7 rfl rfl [((shX2 N0), h0, o0_4)] (by rw [e_3]; rfl) dX2_fuse_16 ?_
    refine j_goto C 36 dX2_fuse_19 rfl ?_
    refine j_aload_n C 0 dX2_fuse_36 rfl rfl ?_
    refine j_iload_n C 1 dX2_fuse_37 rfl rfl ?_
    obtain ⟨o0_5, k_6, hF⟩ := gb1 hF
    refine j_callVv C (os' := [((shX2 N0), h0, o0_5)]) [.int x1] (kX2_vacate g N0 h0 x1 o0_4 k_6) [0] rfl rfl rfl rfl 0 rfl rfl (wl_gV mw_17_9 mw_17_10 mw_17_11 mw_1_22 mw_17_12) rfl 1 rfl hd_X2_vacate ⟨Nat.le_of_ble_eq_true rfl, Nat.le_of_ble_eq_true rfl⟩ (Nat.le_of_ble_eq_true rfl) rfl dX2_fuse_38 ?_
    refine j_aload_n C 0 dX2_fuse_41 rfl rfl ?_
    refine j_iload_n C 2 dX2_fuse_42 rfl rfl ?_
    obtain ⟨o0_7, k_8, hF⟩ := gb1 hF
    refine j_callVv C (os' := [((shX2 N0), h0, o0_7)]) [.int x2] (kX2_vacate g N0 h0 x2 o0_5 k_8) [0] rfl rfl rfl rfl 0 rfl rfl (wl_gV mw_17_9 mw_17_10 mw_17_11 mw_1_22 mw_17_12) rfl 1 rfl hd_X2_vacate ⟨Nat.le_of_ble_eq_true rfl, Nat.le_of_ble_eq_true rfl⟩ (Nat.le_of_ble_eq_true rfl) rfl dX2_fuse_43 ?_
    cases hF
    exact j_vret C Rk dX2_fuse_46
/-! HeadsMeet$Graph.copyFrom -/
def FX2_copyFrom (N0 : Nat) (N1 : Nat)  (o0 : Ob) (o1 : Ob) : Option (Ob) :=
  lT (sV o0 4 (if (Int32.ofNat N0) < (oV o1 4) then Int32.ofNat N0 else oV o1 4)) fun o0_2 =>
  if cpok (0 : Int32) (0 : Int32) (oV o0_2 4) N1 N0 then
  lT (sR o0_2 0 (va_cpy (oA o1 0) (oA o0_2 0) (0 : Int32).toNatClampNeg (0 : Int32).toNatClampNeg (oV o0_2 4).toNatClampNeg)) fun o0_5 =>
  if cpok (0 : Int32) (0 : Int32) ((16 : Int32) + ((3 : Int32) * (oV o0_5 4))) (16 + 3 * N1) (16 + 3 * N0) then
  lT (sR o0_5 1 (va_cpy (oA o1 1) (oA o0_5 1) (0 : Int32).toNatClampNeg (0 : Int32).toNatClampNeg ((16 : Int32) + ((3 : Int32) * (oV o0_5 4))).toNatClampNeg)) fun o0_8 =>
  if cpok (0 : Int32) (0 : Int32) (4 : Int32) 4 4 then
  lT (sR o0_8 3 (va_cpy (oA o1 3) (oA o0_8 3) (0 : Int32).toNatClampNeg (0 : Int32).toNatClampNeg (4 : Int32).toNatClampNeg)) fun o0_11 =>
  lT (sV o0_11 5 (oV o1 5)) fun o0_13 =>
  lT (sV o0_13 6 (oV o1 6)) fun o0_15 =>
  lT (sV o0_15 7 (oV o1 7)) fun o0_17 =>
  some o0_17
  else none
  else none
  else none
set_option maxRecDepth 100000 in
set_option maxHeartbeats 4000000 in
theorem kX2_copyFrom (g : Gl) (N0 : Nat) (N1 : Nat) (h0 : Nat → Nat) (h1 : Nat → Nat)  (o0 : Ob) (o1 : Ob) {o0' : Ob} (hF : FX2_copyFrom N0 N1 o0 o1 = some o0') : Ctr g yX2_copyFrom (Cond.code yX2_copyFrom cX2_copyFrom 2 none :: wsL_law) 1 60 [((shX2 N0), h0, o0), ((shX2 N1), h1, o1)] [((shX2 N0), h0, o0'), ((shX2 N1), h1, o1)] [.ref (h0 0), .ref (h1 0)] none := by
  refine Ctr.of (cc := cX2_copyFrom) (maxL := 2) (ret := none) (by decide) rfl (Nat.le_of_ble_eq_true rfl) ?_
  intro X C Rk
  replace C : CxOk g X cX2_copyFrom RX2 (Cond.code yX2_copyFrom cX2_copyFrom 2 none :: wsL_law) 2 1 60 := C
  show J g X [((shX2 N0), h0, o0), ((shX2 N1), h1, o1)] 0 [(0, .ref (h0 0)), (1, .ref (h1 0))] []
  unfold FX2_copyFrom at hF
  refine j_aload_n C 0 dX2_copyFrom_0 rfl rfl ?_
  refine j_aload_n C 1 dX2_copyFrom_1 rfl rfl ?_
  refine j_get (v := .int (oV o1 4)) C 1 4 rfl rfl (Nat.le_of_ble_eq_true rfl) rfl rfl in1_X2 (List.mem_cons_of_mem _ mw_7_23) dX2_copyFrom_2 ?_
  refine j_aload_n C 0 dX2_copyFrom_5 rfl rfl ?_
  refine j_get (v := .ref (h0 1)) C 0 0 rfl rfl (Nat.le_of_ble_eq_true rfl) rfl rfl in1_X2 (List.mem_cons_of_mem _ mw_3_8) dX2_copyFrom_6 ?_
  refine j_alen (v := Int32.ofNat N0) C 0 0 rfl rfl rfl dX2_copyFrom_9 ?_
  refine j_mmin C (List.mem_cons_of_mem _ mw_17_17) (List.mem_cons_of_mem _ mw_10_22) (List.mem_cons_of_mem _ mw_10_19) (List.mem_cons_of_mem _ mw_10_23) (Nat.le_of_ble_eq_true rfl) (Nat.le_of_ble_eq_true rfl) dX2_copyFrom_10 ?_
  obtain ⟨o0_2, e_1, hF⟩ := glT hF
  refine j_putV C tyX2_ok nmX2 0 4 rfl rfl (Nat.le_of_ble_eq_true rfl) rfl in1_X2 (List.mem_cons_of_mem _ mw_7_23) rfl fd_X2_4 rfl rfl [((shX2 N0), h0, o0_2), ((shX2 N1), h1, o1)] (by rw [e_1]; rfl) dX2_copyFrom_13 ?_
  refine j_aload_n C 1 dX2_copyFrom_16 rfl rfl ?_
  refine j_get (v := .ref (h1 1)) C 1 0 rfl rfl (Nat.le_of_ble_eq_true rfl) rfl rfl in1_X2 (List.mem_cons_of_mem _ mw_3_8) dX2_copyFrom_17 ?_
  refine j_iconst (v := (0 : Int32)) C dX2_copyFrom_20 rfl ?_
  refine j_aload_n C 0 dX2_copyFrom_21 rfl rfl ?_
  refine j_get (v := .ref (h0 1)) C 0 0 rfl rfl (Nat.le_of_ble_eq_true rfl) rfl rfl in1_X2 (List.mem_cons_of_mem _ mw_3_8) dX2_copyFrom_22 ?_
  refine j_iconst (v := (0 : Int32)) C dX2_copyFrom_25 rfl ?_
  refine j_aload_n C 0 dX2_copyFrom_26 rfl rfl ?_
  refine j_get (v := .int (oV o0_2 4)) C 0 4 rfl rfl (Nat.le_of_ble_eq_true rfl) rfl rfl in1_X2 (List.mem_cons_of_mem _ mw_7_23) dX2_copyFrom_27 ?_
  obtain ⟨z_3, hF⟩ := gi hF
  obtain ⟨o0_5, e_4, hF⟩ := glT hF
  refine j_copy C 1 0 0 0 rfl rfl rfl rfl z_3 (List.mem_cons_of_mem _ mw_17_18) (List.mem_cons_of_mem _ mw_17_19) (List.mem_cons_of_mem _ mw_17_20) (List.mem_cons_of_mem _ mw_17_21) (Nat.le_of_ble_eq_true rfl) (Nat.le_of_ble_eq_true rfl) [((shX2 N0), h0, o0_5), ((shX2 N1), h1, o1)] (by rw [e_4]; rfl) dX2_copyFrom_30 ?_
  refine j_aload_n C 1 dX2_copyFrom_33 rfl rfl ?_
  refine j_get (v := .ref (h1 2)) C 1 1 rfl rfl (Nat.le_of_ble_eq_true rfl) rfl rfl in1_X2 (List.mem_cons_of_mem _ mw_3_9) dX2_copyFrom_34 ?_
  refine j_iconst (v := (0 : Int32)) C dX2_copyFrom_37 rfl ?_
  refine j_aload_n C 0 dX2_copyFrom_38 rfl rfl ?_
  refine j_get (v := .ref (h0 2)) C 0 1 rfl rfl (Nat.le_of_ble_eq_true rfl) rfl rfl in1_X2 (List.mem_cons_of_mem _ mw_3_9) dX2_copyFrom_39 ?_
  refine j_iconst (v := (0 : Int32)) C dX2_copyFrom_42 rfl ?_
  refine j_bipush (v := (16 : Int32)) C dX2_copyFrom_43 rfl ?_
  refine j_iconst (v := (3 : Int32)) C dX2_copyFrom_45 rfl ?_
  refine j_aload_n C 0 dX2_copyFrom_46 rfl rfl ?_
  refine j_get (v := .int (oV o0_5 4)) C 0 4 rfl rfl (Nat.le_of_ble_eq_true rfl) rfl rfl in1_X2 (List.mem_cons_of_mem _ mw_7_23) dX2_copyFrom_47 ?_
  refine j_imul C dX2_copyFrom_50 ?_
  refine j_iadd C dX2_copyFrom_51 ?_
  obtain ⟨z_6, hF⟩ := gi hF
  obtain ⟨o0_8, e_7, hF⟩ := glT hF
  refine j_copy C 1 1 0 1 rfl rfl rfl rfl z_6 (List.mem_cons_of_mem _ mw_17_18) (List.mem_cons_of_mem _ mw_17_19) (List.mem_cons_of_mem _ mw_17_20) (List.mem_cons_of_mem _ mw_17_21) (Nat.le_of_ble_eq_true rfl) (Nat.le_of_ble_eq_true rfl) [((shX2 N0), h0, o0_8), ((shX2 N1), h1, o1)] (by rw [e_7]; rfl) dX2_copyFrom_52 ?_
  refine j_aload_n C 1 dX2_copyFrom_55 rfl rfl ?_
  refine j_get (v := .ref (h1 4)) C 1 3 rfl rfl (Nat.le_of_ble_eq_true rfl) rfl rfl in1_X2 (List.mem_cons_of_mem _ mw_3_7) dX2_copyFrom_56 ?_
  refine j_iconst (v := (0 : Int32)) C dX2_copyFrom_59 rfl ?_
  refine j_aload_n C 0 dX2_copyFrom_60 rfl rfl ?_
  refine j_get (v := .ref (h0 4)) C 0 3 rfl rfl (Nat.le_of_ble_eq_true rfl) rfl rfl in1_X2 (List.mem_cons_of_mem _ mw_3_7) dX2_copyFrom_61 ?_
  refine j_iconst (v := (0 : Int32)) C dX2_copyFrom_64 rfl ?_
  refine j_iconst (v := (4 : Int32)) C dX2_copyFrom_65 rfl ?_
  obtain ⟨z_9, hF⟩ := gi hF
  obtain ⟨o0_11, e_10, hF⟩ := glT hF
  refine j_copy C 1 3 0 3 rfl rfl rfl rfl z_9 (List.mem_cons_of_mem _ mw_17_18) (List.mem_cons_of_mem _ mw_17_19) (List.mem_cons_of_mem _ mw_17_20) (List.mem_cons_of_mem _ mw_17_21) (Nat.le_of_ble_eq_true rfl) (Nat.le_of_ble_eq_true rfl) [((shX2 N0), h0, o0_11), ((shX2 N1), h1, o1)] (by rw [e_10]; rfl) dX2_copyFrom_66 ?_
  refine j_aload_n C 0 dX2_copyFrom_69 rfl rfl ?_
  refine j_aload_n C 1 dX2_copyFrom_70 rfl rfl ?_
  refine j_get (v := .int (oV o1 5)) C 1 5 rfl rfl (Nat.le_of_ble_eq_true rfl) rfl rfl in1_X2 (List.mem_cons_of_mem _ mw_8_0) dX2_copyFrom_71 ?_
  obtain ⟨o0_13, e_12, hF⟩ := glT hF
  refine j_putV C tyX2_ok nmX2 0 5 rfl rfl (Nat.le_of_ble_eq_true rfl) rfl in1_X2 (List.mem_cons_of_mem _ mw_8_0) rfl fd_X2_5 rfl rfl [((shX2 N0), h0, o0_13), ((shX2 N1), h1, o1)] (by rw [e_12]; rfl) dX2_copyFrom_74 ?_
  refine j_aload_n C 0 dX2_copyFrom_77 rfl rfl ?_
  refine j_aload_n C 1 dX2_copyFrom_78 rfl rfl ?_
  refine j_get (v := .int (oV o1 6)) C 1 6 rfl rfl (Nat.le_of_ble_eq_true rfl) rfl rfl in1_X2 (List.mem_cons_of_mem _ mw_8_1) dX2_copyFrom_79 ?_
  obtain ⟨o0_15, e_14, hF⟩ := glT hF
  refine j_putV C tyX2_ok nmX2 0 6 rfl rfl (Nat.le_of_ble_eq_true rfl) rfl in1_X2 (List.mem_cons_of_mem _ mw_8_1) rfl fd_X2_6 rfl rfl [((shX2 N0), h0, o0_15), ((shX2 N1), h1, o1)] (by rw [e_14]; rfl) dX2_copyFrom_82 ?_
  refine j_aload_n C 0 dX2_copyFrom_85 rfl rfl ?_
  refine j_aload_n C 1 dX2_copyFrom_86 rfl rfl ?_
  refine j_get (v := .int (oV o1 7)) C 1 7 rfl rfl (Nat.le_of_ble_eq_true rfl) rfl rfl in1_X2 (List.mem_cons_of_mem _ mw_8_2) dX2_copyFrom_87 ?_
  obtain ⟨o0_17, e_16, hF⟩ := glT hF
  refine j_putV C tyX2_ok nmX2 0 7 rfl rfl (Nat.le_of_ble_eq_true rfl) rfl in1_X2 (List.mem_cons_of_mem _ mw_8_2) rfl fd_X2_7 rfl rfl [((shX2 N0), h0, o0_17), ((shX2 N1), h1, o1)] (by rw [e_16]; rfl) dX2_copyFrom_90 ?_
  cases hF
  exact j_vret C Rk dX2_copyFrom_93
/-! HeadsMeet$Graph.sideOf -/
def FX2_sideOf (x0 : Int32)  : Option (Int32) :=
  if (16 : Int32) ≤ x0 then
    some ((x0 - (16 : Int32)) - (x0 - (16 : Int32)) / (3 : Int32) * (3 : Int32))
  else
    some (-1 : Int32)
set_option maxRecDepth 100000 in
set_option maxHeartbeats 4000000 in
theorem kX2_sideOf (g : Gl)  (x0 : Int32)  {r : Int32} (hF : FX2_sideOf x0 = some r) : Ctr g yX2_sideOf (Cond.code yX2_sideOf cX2_sideOf 1 (some .int) :: wsL_law) 0 0 [] [] [.int x0] (some (.int r)) := by
  refine Ctr.of (cc := cX2_sideOf) (maxL := 1) (ret := (some .int)) (by decide) rfl (Nat.le_of_ble_eq_true rfl) ?_
  intro X C Rk
  replace C : CxOk g X cX2_sideOf RX2 (Cond.code yX2_sideOf cX2_sideOf 1 (some .int) :: wsL_law) 1 0 0 := C
  show J g X [] 0 [(0, .int x0)] []
  unfold FX2_sideOf at hF
  refine j_iload_n C 0 dX2_sideOf_0 rfl rfl ?_
  refine j_bipush (v := (16 : Int32)) C dX2_sideOf_1 rfl ?_
  refine j_icmp_ge C 10 dX2_sideOf_3 rfl (fun c_1 => ?_) (fun c_1 => ?_)
  · have hF := (if_pos c_1).symm.trans hF
    refine j_iload_n C 0 dX2_sideOf_10 rfl rfl ?_
    refine j_bipush (v := (16 : Int32)) C dX2_sideOf_11 rfl ?_
    refine j_isub C dX2_sideOf_13 ?_
    refine j_iconst (v := (3 : Int32)) C dX2_sideOf_14 rfl ?_
    refine j_irem C (by decide) dX2_sideOf_15 ?_
    cases hF
    exact j_iret C Rk dX2_sideOf_16
  · have hF := (if_neg c_1).symm.trans hF
    refine j_iconst (v := (-1 : Int32)) C dX2_sideOf_6 rfl ?_
    refine j_goto C 16 dX2_sideOf_7 rfl ?_
    cases hF
    exact j_iret C Rk dX2_sideOf_16
/-! HeadsMeet$Graph.ownerOf -/
def FX2_ownerOf (x0 : Int32)  : Option (Int32) :=
  if (16 : Int32) ≤ x0 then
    some ((x0 - (16 : Int32)) / (3 : Int32))
  else
    some (-1 : Int32)
set_option maxRecDepth 100000 in
set_option maxHeartbeats 4000000 in
theorem kX2_ownerOf (g : Gl)  (x0 : Int32)  {r : Int32} (hF : FX2_ownerOf x0 = some r) : Ctr g yX2_ownerOf (Cond.code yX2_ownerOf cX2_ownerOf 1 (some .int) :: wsL_law) 0 0 [] [] [.int x0] (some (.int r)) := by
  refine Ctr.of (cc := cX2_ownerOf) (maxL := 1) (ret := (some .int)) (by decide) rfl (Nat.le_of_ble_eq_true rfl) ?_
  intro X C Rk
  replace C : CxOk g X cX2_ownerOf RX2 (Cond.code yX2_ownerOf cX2_ownerOf 1 (some .int) :: wsL_law) 1 0 0 := C
  show J g X [] 0 [(0, .int x0)] []
  unfold FX2_ownerOf at hF
  refine j_iload_n C 0 dX2_ownerOf_0 rfl rfl ?_
  refine j_bipush (v := (16 : Int32)) C dX2_ownerOf_1 rfl ?_
  refine j_icmp_ge C 10 dX2_ownerOf_3 rfl (fun c_1 => ?_) (fun c_1 => ?_)
  · have hF := (if_pos c_1).symm.trans hF
    refine j_iload_n C 0 dX2_ownerOf_10 rfl rfl ?_
    refine j_bipush (v := (16 : Int32)) C dX2_ownerOf_11 rfl ?_
    refine j_isub C dX2_ownerOf_13 ?_
    refine j_iconst (v := (3 : Int32)) C dX2_ownerOf_14 rfl ?_
    refine j_idiv C (by decide) dX2_ownerOf_15 ?_
    cases hF
    exact j_iret C Rk dX2_ownerOf_16
  · have hF := (if_neg c_1).symm.trans hF
    refine j_iconst (v := (-1 : Int32)) C dX2_ownerOf_6 rfl ?_
    refine j_goto C 16 dX2_ownerOf_7 rfl ?_
    cases hF
    exact j_iret C Rk dX2_ownerOf_16
/-! HeadsMeet$Graph.headAt -/
def FX2_headAt (N0 : Nat) (x1 : Int32) (o0 : Ob) : Option (Int32) :=
  b1 (FX2_sideOf x1) fun r_1 =>
  if r_1 = 0 then
    b1 (FX2_ownerOf x1) fun r_3 =>
    some r_3
  else
    some (-1 : Int32)
set_option maxRecDepth 100000 in
set_option maxHeartbeats 4000000 in
theorem kX2_headAt (g : Gl) (N0 : Nat) (h0 : Nat → Nat) (x1 : Int32) (o0 : Ob) {r : Int32} (hF : FX2_headAt N0 x1 o0 = some r) : Ctr g yX2_headAt (Cond.code yX2_headAt cX2_headAt 2 (some .int) :: wsL_law) 1 20 [((shX2 N0), h0, o0)] [((shX2 N0), h0, o0)] [.ref (h0 0), .int x1] (some (.int r)) := by
  refine Ctr.of (cc := cX2_headAt) (maxL := 2) (ret := (some .int)) (by decide) rfl (Nat.le_of_ble_eq_true rfl) ?_
  intro X C Rk
  replace C : CxOk g X cX2_headAt RX2 (Cond.code yX2_headAt cX2_headAt 2 (some .int) :: wsL_law) 2 1 20 := C
  show J g X [((shX2 N0), h0, o0)] 0 [(0, .ref (h0 0)), (1, .int x1)] []
  unfold FX2_headAt at hF
  refine j_iload_n C 1 dX2_headAt_0 rfl rfl ?_
  obtain ⟨r_1, k_2, hF⟩ := gb1 hF
  refine j_callSi C (os' := [((shX2 N0), h0, o0)]) [.int x1] (kX2_sideOf g x1 k_2) [] rfl rfl rfl rfl (wl_gS mw_19_15 mw_19_16 mw_1_22 mw_19_17) rfl 1 rfl hd_X2_sideOf ⟨Nat.le_of_ble_eq_true rfl, Nat.le_of_ble_eq_true rfl⟩ (Nat.le_of_ble_eq_true rfl) rfl dX2_headAt_1 ?_
  refine j_if_ne C 14 dX2_headAt_4 rfl (fun c_5 => ?_) (fun c_5 => ?_)
  · have hF := (if_neg c_5).symm.trans hF
    refine j_iconst (v := (-1 : Int32)) C dX2_headAt_14 rfl ?_
    cases hF
    exact j_iret C Rk dX2_headAt_15
  · have hF := (if_pos c_5).symm.trans hF
    refine j_iload_n C 1 dX2_headAt_7 rfl rfl ?_
    obtain ⟨r_3, k_4, hF⟩ := gb1 hF
    refine j_callSi C (os' := [((shX2 N0), h0, o0)]) [.int x1] (kX2_ownerOf g x1 k_4) [] rfl rfl rfl rfl (wl_gS mw_19_18 mw_19_19 mw_1_22 mw_19_20) rfl 1 rfl hd_X2_ownerOf ⟨Nat.le_of_ble_eq_true rfl, Nat.le_of_ble_eq_true rfl⟩ (Nat.le_of_ble_eq_true rfl) rfl dX2_headAt_8 ?_
    refine j_goto C 15 dX2_headAt_11 rfl ?_
    cases hF
    exact j_iret C Rk dX2_headAt_15
/-! HeadsMeet$Graph.partnerOf -/
def FX2_partnerOf (N0 : Nat) (x1 : Int32) (o0 : Ob) : Option (Int32) :=
  b1 (FX2_kindOf N0 x1 o0) fun r_1 =>
  if r_1 = (-1 : Int32) then
    some (-1 : Int32)
  else
    b1 (FX2_port x1 (0 : Int32)) fun r_3 =>
    b1 (FX2_across N0 r_3 o0) fun r_5 =>
    b1 (FX2_headAt N0 r_5 o0) fun r_7 =>
    some r_7
set_option maxRecDepth 100000 in
set_option maxHeartbeats 4000000 in
theorem kX2_partnerOf (g : Gl) (N0 : Nat) (h0 : Nat → Nat) (x1 : Int32) (o0 : Ob) {r : Int32} (hF : FX2_partnerOf N0 x1 o0 = some r) : Ctr g yX2_partnerOf (Cond.code yX2_partnerOf cX2_partnerOf 2 (some .int) :: wsL_law) 2 41 [((shX2 N0), h0, o0)] [((shX2 N0), h0, o0)] [.ref (h0 0), .int x1] (some (.int r)) := by
  refine Ctr.of (cc := cX2_partnerOf) (maxL := 2) (ret := (some .int)) (by decide) rfl (Nat.le_of_ble_eq_true rfl) ?_
  intro X C Rk
  replace C : CxOk g X cX2_partnerOf RX2 (Cond.code yX2_partnerOf cX2_partnerOf 2 (some .int) :: wsL_law) 2 2 41 := C
  show J g X [((shX2 N0), h0, o0)] 0 [(0, .ref (h0 0)), (1, .int x1)] []
  unfold FX2_partnerOf at hF
  refine j_aload_n C 0 dX2_partnerOf_0 rfl rfl ?_
  refine j_iload_n C 1 dX2_partnerOf_1 rfl rfl ?_
  obtain ⟨r_1, k_2, hF⟩ := gb1 hF
  refine j_callVi C (os' := [((shX2 N0), h0, o0)]) [.int x1] (kX2_kindOf g N0 h0 x1 o0 k_2) [0] rfl rfl rfl rfl 0 rfl rfl (wl_gV mw_13_11 mw_13_12 mw_13_13 mw_1_22 mw_13_14) rfl 1 rfl hd_X2_kindOf ⟨Nat.le_of_ble_eq_true rfl, Nat.le_of_ble_eq_true rfl⟩ (Nat.le_of_ble_eq_true rfl) rfl dX2_partnerOf_2 ?_
  refine j_iconst (v := (-1 : Int32)) C dX2_partnerOf_5 rfl ?_
  refine j_icmp_ne C 13 dX2_partnerOf_6 rfl (fun c_9 => ?_) (fun c_9 => ?_)
  · have hF := (if_neg c_9).symm.trans hF
    refine j_aload_n C 0 dX2_partnerOf_13 rfl rfl ?_
    refine j_aload_n C 0 dX2_partnerOf_14 rfl rfl ?_
    refine j_iload_n C 1 dX2_partnerOf_15 rfl rfl ?_
    refine j_iconst (v := (0 : Int32)) C dX2_partnerOf_16 rfl ?_
    obtain ⟨r_3, k_4, hF⟩ := gb1 hF
    refine j_callSi C (os' := [((shX2 N0), h0, o0)]) [.int x1, .int (0 : Int32)] (kX2_port g x1 (0 : Int32) k_4) [] rfl rfl rfl rfl (wl_gS mw_19_10 mw_9_7 mw_1_22 mw_9_8) rfl 2 rfl hd_X2_port ⟨Nat.le_of_ble_eq_true rfl, Nat.le_of_ble_eq_true rfl⟩ (Nat.le_of_ble_eq_true rfl) rfl dX2_partnerOf_17 ?_
    obtain ⟨r_5, k_6, hF⟩ := gb1 hF
    refine j_callVi C (os' := [((shX2 N0), h0, o0)]) [.int r_3] (kX2_across g N0 h0 r_3 o0 k_6) [0] rfl rfl rfl rfl 0 rfl rfl (wl_gV mw_17_4 mw_17_5 mw_17_6 mw_1_22 mw_17_7) rfl 1 rfl hd_X2_across ⟨Nat.le_of_ble_eq_true rfl, Nat.le_of_ble_eq_true rfl⟩ (Nat.le_of_ble_eq_true rfl) rfl dX2_partnerOf_20 ?_
    obtain ⟨r_7, k_8, hF⟩ := gb1 hF
    refine j_callVi C (os' := [((shX2 N0), h0, o0)]) [.int r_5] (kX2_headAt g N0 h0 r_5 o0 k_8) [0] rfl rfl rfl rfl 0 rfl rfl (wl_gV mw_19_11 mw_19_12 mw_19_13 mw_1_22 mw_19_14) rfl 1 rfl hd_X2_headAt ⟨Nat.le_of_ble_eq_true rfl, Nat.le_of_ble_eq_true rfl⟩ (Nat.le_of_ble_eq_true rfl) rfl dX2_partnerOf_23 ?_
    cases hF
    exact j_iret C Rk dX2_partnerOf_26
  · have hF := (if_pos c_9).symm.trans hF
    refine j_iconst (v := (-1 : Int32)) C dX2_partnerOf_9 rfl ?_
    refine j_goto C 26 dX2_partnerOf_10 rfl ?_
    cases hF
    exact j_iret C Rk dX2_partnerOf_26
/-! HeadsMeet$Graph.toldAcross -/
def FX2_toldAcross (N0 : Nat) (x1 : Int32) (o0 : Ob) : Option (Int32) :=
  b1 (FX2_across N0 x1 o0) fun r_1 =>
  if r_1 = (-1 : Int32) then
    some (-1 : Int32)
  else
    if (8 : Int32) ≤ r_1 then
      some (r_1 - (16 : Int32))
    else
      some ((900 : Int32) + r_1)
set_option maxRecDepth 100000 in
set_option maxHeartbeats 4000000 in
theorem kX2_toldAcross (g : Gl) (N0 : Nat) (h0 : Nat → Nat) (x1 : Int32) (o0 : Ob) {r : Int32} (hF : FX2_toldAcross N0 x1 o0 = some r) : Ctr g yX2_toldAcross (Cond.code yX2_toldAcross cX2_toldAcross 3 (some .int) :: wsL_law) 1 21 [((shX2 N0), h0, o0)] [((shX2 N0), h0, o0)] [.ref (h0 0), .int x1] (some (.int r)) := by
  refine Ctr.of (cc := cX2_toldAcross) (maxL := 3) (ret := (some .int)) (by decide) rfl (Nat.le_of_ble_eq_true rfl) ?_
  intro X C Rk
  replace C : CxOk g X cX2_toldAcross RX2 (Cond.code yX2_toldAcross cX2_toldAcross 3 (some .int) :: wsL_law) 3 1 21 := C
  show J g X [((shX2 N0), h0, o0)] 0 [(0, .ref (h0 0)), (1, .int x1)] []
  unfold FX2_toldAcross at hF
  refine j_aload_n C 0 dX2_toldAcross_0 rfl rfl ?_
  refine j_iload_n C 1 dX2_toldAcross_1 rfl rfl ?_
  obtain ⟨r_1, k_2, hF⟩ := gb1 hF
  refine j_callVi C (os' := [((shX2 N0), h0, o0)]) [.int x1] (kX2_across g N0 h0 x1 o0 k_2) [0] rfl rfl rfl rfl 0 rfl rfl (wl_gV mw_17_4 mw_17_5 mw_17_6 mw_1_22 mw_17_7) rfl 1 rfl hd_X2_across ⟨Nat.le_of_ble_eq_true rfl, Nat.le_of_ble_eq_true rfl⟩ (Nat.le_of_ble_eq_true rfl) rfl dX2_toldAcross_2 ?_
  refine j_istore_n C [(2, .int r_1), (0, .ref (h0 0)), (1, .int x1)] dX2_toldAcross_5 rfl (Nat.le_of_ble_eq_true rfl) rfl rfl ?_
  refine j_iload_n C 0 dX2_toldAcross_6 rfl rfl ?_
  refine j_iconst (v := (-1 : Int32)) C dX2_toldAcross_7 rfl ?_
  refine j_icmp_ne C 13 dX2_toldAcross_8 rfl (fun c_4 => ?_) (fun c_4 => ?_)
  · have hF := (if_neg c_4).symm.trans hF
    refine j_iload_n C 0 dX2_toldAcross_13 rfl rfl ?_
    refine j_bipush (v := (8 : Int32)) C dX2_toldAcross_14 rfl ?_
    refine j_icmp_ge C 27 dX2_toldAcross_16 rfl (fun c_3 => ?_) (fun c_3 => ?_)
    · have hF := (if_pos c_3).symm.trans hF
      refine j_iload_n C 0 dX2_toldAcross_27 rfl rfl ?_
      refine j_bipush (v := (16 : Int32)) C dX2_toldAcross_28 rfl ?_
      refine j_isub C dX2_toldAcross_30 ?_
      cases hF
      exact j_iret C Rk dX2_toldAcross_31
    · have hF := (if_neg c_3).symm.trans hF
      refine j_sipush (v := (900 : Int32)) C dX2_toldAcross_19 rfl ?_
      refine j_iload_n C 0 dX2_toldAcross_22 rfl rfl ?_
      refine j_iadd C dX2_toldAcross_23 ?_
      refine j_goto C 31 dX2_toldAcross_24 rfl ?_
      cases hF
      exact j_iret C Rk dX2_toldAcross_31
  · have hF := (if_pos c_4).symm.trans hF
    refine j_iconst (v := (-1 : Int32)) C dX2_toldAcross_11 rfl ?_
    cases hF
    exact j_iret C Rk dX2_toldAcross_12
/-! HeadsMeet$Graph.setKind -/
def FX2_setKind (N0 : Nat) (x1 : Int32) (x2 : Int32) (o0 : Ob) : Option (Ob) :=
  if x1 < 0 then
    some o0
  else
    if (Int32.ofNat N0) ≤ x1 then
      some o0
    else
      if inb x1 N0 then
      lT (sA o0 0 x1.toNatClampNeg x2) fun o0_3 =>
      some o0_3
      else none
set_option maxRecDepth 100000 in
set_option maxHeartbeats 4000000 in
theorem kX2_setKind (g : Gl) (N0 : Nat) (h0 : Nat → Nat) (x1 : Int32) (x2 : Int32) (o0 : Ob) {o0' : Ob} (hF : FX2_setKind N0 x1 x2 o0 = some o0') : Ctr g yX2_setKind (Cond.code yX2_setKind cX2_setKind 3 none :: wsL_law) 0 0 [((shX2 N0), h0, o0)] [((shX2 N0), h0, o0')] [.ref (h0 0), .int x1, .int x2] none := by
  refine Ctr.of (cc := cX2_setKind) (maxL := 3) (ret := none) (by decide) rfl (Nat.le_of_ble_eq_true rfl) ?_
  intro X C Rk
  replace C : CxOk g X cX2_setKind RX2 (Cond.code yX2_setKind cX2_setKind 3 none :: wsL_law) 3 0 0 := C
  show J g X [((shX2 N0), h0, o0)] 0 [(0, .ref (h0 0)), (1, .int x1), (2, .int x2)] []
  unfold FX2_setKind at hF
  refine j_iload_n C 1 dX2_setKind_0 rfl rfl ?_
  refine j_if_lt C 20 dX2_setKind_1 rfl (fun c_5 => ?_) (fun c_5 => ?_)
  · have hF := (if_pos c_5).symm.trans hF
    cases hF
    exact j_vret C Rk dX2_setKind_20
  · have hF := (if_neg c_5).symm.trans hF
    refine j_iload_n C 1 dX2_setKind_4 rfl rfl ?_
    refine j_aload_n C 0 dX2_setKind_5 rfl rfl ?_
    refine j_get (v := .ref (h0 1)) C 0 0 rfl rfl (Nat.le_of_ble_eq_true rfl) rfl rfl in1_X2 (List.mem_cons_of_mem _ mw_3_8) dX2_setKind_6 ?_
    refine j_alen (v := Int32.ofNat N0) C 0 0 rfl rfl rfl dX2_setKind_9 ?_
    refine j_icmp_ge C 20 dX2_setKind_10 rfl (fun c_4 => ?_) (fun c_4 => ?_)
    · have hF := (if_pos c_4).symm.trans hF
      cases hF
      exact j_vret C Rk dX2_setKind_20
    · have hF := (if_neg c_4).symm.trans hF
      refine j_aload_n C 0 dX2_setKind_13 rfl rfl ?_
      refine j_get (v := .ref (h0 1)) C 0 0 rfl rfl (Nat.le_of_ble_eq_true rfl) rfl rfl in1_X2 (List.mem_cons_of_mem _ mw_3_8) dX2_setKind_14 ?_
      refine j_iload_n C 1 dX2_setKind_17 rfl rfl ?_
      refine j_iload_n C 2 dX2_setKind_18 rfl rfl ?_
      obtain ⟨z_1, hF⟩ := gi hF
      obtain ⟨o0_3, e_2, hF⟩ := glT hF
      refine j_iast C 0 0 rfl rfl z_1 [((shX2 N0), h0, o0_3)] (by rw [e_2]; rfl) dX2_setKind_19 ?_
      cases hF
      exact j_vret C Rk dX2_setKind_20
/-! HeadsMeet$Graph.listMeetings -/
def BX2_listMeetings_71 (N0 : Nat) (E7 : Int32 → Int32 → Int32 → Ob → Option (Int32 × Ob)) (x1 : Int32) (x2 : Int32) (x3 : Int32) (y0 : Int32) (o0 : Ob) : Option (Int32 × Ob) :=
  if y0 = 0 then
    lT (x2 + (3 : Int32)) fun x2_17 =>
    lT (x3 + (1 : Int32)) fun x3_19 =>
    E7 x1 x2_17 x3_19 o0
  else
    if (Int32.ofNat N0) ≤ x1 then
      lT (x2 + (3 : Int32)) fun x2_12 =>
      lT (x3 + (1 : Int32)) fun x3_14 =>
      E7 x1 x2_12 x3_14 o0
    else
      if inb x1 N0 then
      lT (sA o0 2 x1.toNatClampNeg x3) fun o0_5 =>
      lT (x1 + (1 : Int32)) fun x1_6 =>
      lT (x2 + (3 : Int32)) fun x2_8 =>
      lT (x3 + (1 : Int32)) fun x3_10 =>
      E7 x1_6 x2_8 x3_10 o0_5
      else none
def LX2_listMeetings_7 (N0 : Nat) (E106 : Int32 → Ob → Option (Int32 × Ob)) : Nat → Int32 → Int32 → Int32 → Ob → Option (Int32 × Ob)
  | 0, _, _, _, _ => none
  | n + 1, x1, x2, x3, o0 =>
    if (oV o0 4) ≤ x3 then
      E106 x1 o0
    else
      if (Int32.ofNat N0) ≤ x3 then
        E106 x1 o0
      else
        if (Int32.ofNat (16 + 3 * N0)) ≤ x2 then
          E106 x1 o0
        else
          if inb x3 N0 then
          if (oA o0 0 x3.toNatClampNeg) = (-1 : Int32) then
            BX2_listMeetings_71 N0 (LX2_listMeetings_7 N0 E106 n) x1 x2 x3 (0 : Int32) o0
          else
            if inb x2 (16 + 3 * N0) then
            if (oA o0 1 x2.toNatClampNeg) ≤ x2 then
              BX2_listMeetings_71 N0 (LX2_listMeetings_7 N0 E106 n) x1 x2 x3 (0 : Int32) o0
            else
              if (((oA o0 1 x2.toNatClampNeg) - x2) - ((oA o0 1 x2.toNatClampNeg) - x2) / (3 : Int32) * (3 : Int32)) = 0 then
                BX2_listMeetings_71 N0 (LX2_listMeetings_7 N0 E106 n) x1 x2 x3 (1 : Int32) o0
              else
                BX2_listMeetings_71 N0 (LX2_listMeetings_7 N0 E106 n) x1 x2 x3 (0 : Int32) o0
            else none
          else none
def FX2_listMeetings (N0 : Nat)  (o0 : Ob) : Option (Int32 × Ob) :=
  LX2_listMeetings_7 N0 (fun x1_28 o0_29 =>
   lT (sV o0_29 8 x1_28) fun o0_31 =>
   some (x1_28, o0_31)) fu (0 : Int32) (16 : Int32) (0 : Int32) o0
set_option maxRecDepth 100000 in
set_option maxHeartbeats 4000000 in
theorem bX2_listMeetings_71 {g : Gl} {X : Cxt} (C : CxOk g X cX2_listMeetings RX2 (Cond.code yX2_listMeetings cX2_listMeetings 5 (some .int) :: wsL_law) 5 0 0) {r : Int32} {o0' : Ob} (N0 : Nat) (h0 : Nat → Nat) (x1 : Int32) (x2 : Int32) (x3 : Int32) (y0 : Int32) (o0 : Ob) (E7 : Int32 → Int32 → Int32 → Ob → Option (Int32 × Ob)) (Rk : RetOk g X [((shX2 N0), h0, o0')] (some (.int r)) (some .int)) (hE7 : ∀ (x1 : Int32) (x2 : Int32) (x3 : Int32) (o0 : Ob), E7 x1 x2 x3 o0 = some (r, o0') → J g X [((shX2 N0), h0, o0)] 7 [(0, .ref (h0 0)), (1, .int x1), (2, .int x2), (3, .int x3)] []) (hF : BX2_listMeetings_71 N0 E7 x1 x2 x3 y0 o0 = some (r, o0')) : J g X [((shX2 N0), h0, o0)] 71 [(0, .ref (h0 0)), (1, .int x1), (2, .int x2), (3, .int x3)] [.int y0] := by
  unfold BX2_listMeetings_71 at hF
  refine j_istore C [(4, .int y0), (0, .ref (h0 0)), (1, .int x1), (2, .int x2), (3, .int x3)] dX2_listMeetings_71 (Nat.le_of_ble_eq_true rfl) rfl rfl ?_
  refine j_iload C 0 dX2_listMeetings_73 rfl ?_
  refine j_if_eq C 97 dX2_listMeetings_75 rfl (fun c_21 => ?_) (fun c_21 => ?_)
  · have hF := (if_pos c_21).symm.trans hF
    obtain ⟨x2_17, e_18, hF⟩ := glT hF
    refine j_iinc C 3 [(2, .int x2_17), (4, .int y0), (0, .ref (h0 0)), (1, .int x1), (3, .int x3)] dX2_listMeetings_97 rfl e_18.symm (Nat.le_of_ble_eq_true rfl) rfl ?_
    obtain ⟨x3_19, e_20, hF⟩ := glT hF
    refine j_iinc C 4 [(3, .int x3_19), (2, .int x2_17), (4, .int y0), (0, .ref (h0 0)), (1, .int x1)] dX2_listMeetings_100 rfl e_20.symm (Nat.le_of_ble_eq_true rfl) rfl ?_
    refine j_goto C 7 dX2_listMeetings_103 rfl ?_
    refine j_sub [(0, .ref (h0 0)), (1, .int x1), (2, .int x2_17), (3, .int x3_19)] [3, 4, 1, 0] rfl ?_
    exact hE7 _ _ _ _ hF
  · have hF := (if_neg c_21).symm.trans hF
    refine j_iload_n C 2 dX2_listMeetings_78 rfl rfl ?_
    refine j_aload_n C 1 dX2_listMeetings_79 rfl rfl ?_
    refine j_get (v := .ref (h0 3)) C 0 2 rfl rfl (Nat.le_of_ble_eq_true rfl) rfl rfl in1_X2 (List.mem_cons_of_mem _ mw_3_10) dX2_listMeetings_80 ?_
    refine j_alen (v := Int32.ofNat N0) C 0 2 rfl rfl rfl dX2_listMeetings_83 ?_
    refine j_icmp_ge C 97 dX2_listMeetings_84 rfl (fun c_16 => ?_) (fun c_16 => ?_)
    · have hF := (if_pos c_16).symm.trans hF
      obtain ⟨x2_12, e_13, hF⟩ := glT hF
      refine j_iinc C 3 [(2, .int x2_12), (4, .int y0), (0, .ref (h0 0)), (1, .int x1), (3, .int x3)] dX2_listMeetings_97 rfl e_13.symm (Nat.le_of_ble_eq_true rfl) rfl ?_
      obtain ⟨x3_14, e_15, hF⟩ := glT hF
      refine j_iinc C 4 [(3, .int x3_14), (2, .int x2_12), (4, .int y0), (0, .ref (h0 0)), (1, .int x1)] dX2_listMeetings_100 rfl e_15.symm (Nat.le_of_ble_eq_true rfl) rfl ?_
      refine j_goto C 7 dX2_listMeetings_103 rfl ?_
      refine j_sub [(0, .ref (h0 0)), (1, .int x1), (2, .int x2_12), (3, .int x3_14)] [3, 4, 1, 0] rfl ?_
      exact hE7 _ _ _ _ hF
    · have hF := (if_neg c_16).symm.trans hF
      refine j_aload_n C 1 dX2_listMeetings_87 rfl rfl ?_
      refine j_get (v := .ref (h0 3)) C 0 2 rfl rfl (Nat.le_of_ble_eq_true rfl) rfl rfl in1_X2 (List.mem_cons_of_mem _ mw_3_10) dX2_listMeetings_88 ?_
      refine j_iload_n C 2 dX2_listMeetings_91 rfl rfl ?_
      refine j_iload_n C 4 dX2_listMeetings_92 rfl rfl ?_
      obtain ⟨z_3, hF⟩ := gi hF
      obtain ⟨o0_5, e_4, hF⟩ := glT hF
      refine j_iast C 0 2 rfl rfl z_3 [((shX2 N0), h0, o0_5)] (by rw [e_4]; rfl) dX2_listMeetings_93 ?_
      obtain ⟨x1_6, e_7, hF⟩ := glT hF
      refine j_iinc C 2 [(1, .int x1_6), (4, .int y0), (0, .ref (h0 0)), (2, .int x2), (3, .int x3)] dX2_listMeetings_94 rfl e_7.symm (Nat.le_of_ble_eq_true rfl) rfl ?_
      obtain ⟨x2_8, e_9, hF⟩ := glT hF
      refine j_iinc C 3 [(2, .int x2_8), (1, .int x1_6), (4, .int y0), (0, .ref (h0 0)), (3, .int x3)] dX2_listMeetings_97 rfl e_9.symm (Nat.le_of_ble_eq_true rfl) rfl ?_
      obtain ⟨x3_10, e_11, hF⟩ := glT hF
      refine j_iinc C 4 [(3, .int x3_10), (2, .int x2_8), (1, .int x1_6), (4, .int y0), (0, .ref (h0 0))] dX2_listMeetings_100 rfl e_11.symm (Nat.le_of_ble_eq_true rfl) rfl ?_
      refine j_goto C 7 dX2_listMeetings_103 rfl ?_
      refine j_sub [(0, .ref (h0 0)), (1, .int x1_6), (2, .int x2_8), (3, .int x3_10)] [4, 2, 1, 0] rfl ?_
      exact hE7 _ _ _ _ hF
set_option maxRecDepth 100000 in
set_option maxHeartbeats 4000000 in
theorem lX2_listMeetings_7 {g : Gl} {X : Cxt} (C : CxOk g X cX2_listMeetings RX2 (Cond.code yX2_listMeetings cX2_listMeetings 5 (some .int) :: wsL_law) 5 0 0) {r : Int32} {o0' : Ob} (N0 : Nat) (h0 : Nat → Nat)  (E106 : Int32 → Ob → Option (Int32 × Ob)) (Rk : RetOk g X [((shX2 N0), h0, o0')] (some (.int r)) (some .int)) (hE106 : ∀ (x1 : Int32) (o0 : Ob), E106 x1 o0 = some (r, o0') → J g X [((shX2 N0), h0, o0)] 106 [(0, .ref (h0 0)), (1, .int x1)] []) : ∀ (n : Nat) (x1 : Int32) (x2 : Int32) (x3 : Int32) (o0 : Ob), LX2_listMeetings_7 N0 E106 n x1 x2 x3 o0 = some (r, o0') → J g X [((shX2 N0), h0, o0)] 7 [(0, .ref (h0 0)), (1, .int x1), (2, .int x2), (3, .int x3)] [] := by
  intro n
  induction n with
  | zero =>
    intro x1 x2 x3 o0 hF
    cases hF
  | succ n ih =>
    intro x1 x2 x3 o0 hF
    rw [LX2_listMeetings_7.eq_2] at hF
    refine j_iload_n C 3 dX2_listMeetings_7 rfl rfl ?_
    refine j_aload_n C 0 dX2_listMeetings_8 rfl rfl ?_
    refine j_get (v := .int (oV o0 4)) C 0 4 rfl rfl (Nat.le_of_ble_eq_true rfl) rfl rfl in1_X2 (List.mem_cons_of_mem _ mw_7_23) dX2_listMeetings_9 ?_
    refine j_icmp_ge C 106 dX2_listMeetings_12 rfl (fun c_27 => ?_) (fun c_27 => ?_)
    · have hF := (if_pos c_27).symm.trans hF
      refine j_sub [(0, .ref (h0 0)), (1, .int x1)] [0, 1] rfl ?_
      exact hE106 _ _ hF
    · have hF := (if_neg c_27).symm.trans hF
      refine j_iload_n C 3 dX2_listMeetings_15 rfl rfl ?_
      refine j_aload_n C 0 dX2_listMeetings_16 rfl rfl ?_
      refine j_get (v := .ref (h0 1)) C 0 0 rfl rfl (Nat.le_of_ble_eq_true rfl) rfl rfl in1_X2 (List.mem_cons_of_mem _ mw_3_8) dX2_listMeetings_17 ?_
      refine j_alen (v := Int32.ofNat N0) C 0 0 rfl rfl rfl dX2_listMeetings_20 ?_
      refine j_icmp_ge C 106 dX2_listMeetings_21 rfl (fun c_26 => ?_) (fun c_26 => ?_)
      · have hF := (if_pos c_26).symm.trans hF
        refine j_sub [(0, .ref (h0 0)), (1, .int x1)] [0, 1] rfl ?_
        exact hE106 _ _ hF
      · have hF := (if_neg c_26).symm.trans hF
        refine j_iload_n C 2 dX2_listMeetings_24 rfl rfl ?_
        refine j_aload_n C 0 dX2_listMeetings_25 rfl rfl ?_
        refine j_get (v := .ref (h0 2)) C 0 1 rfl rfl (Nat.le_of_ble_eq_true rfl) rfl rfl in1_X2 (List.mem_cons_of_mem _ mw_3_9) dX2_listMeetings_26 ?_
        refine j_alen (v := Int32.ofNat (16 + 3 * N0)) C 0 1 rfl rfl rfl dX2_listMeetings_29 ?_
        refine j_icmp_ge C 106 dX2_listMeetings_30 rfl (fun c_25 => ?_) (fun c_25 => ?_)
        · have hF := (if_pos c_25).symm.trans hF
          refine j_sub [(0, .ref (h0 0)), (1, .int x1)] [0, 1] rfl ?_
          exact hE106 _ _ hF
        · have hF := (if_neg c_25).symm.trans hF
          refine j_aload_n C 0 dX2_listMeetings_33 rfl rfl ?_
          refine j_get (v := .ref (h0 1)) C 0 0 rfl rfl (Nat.le_of_ble_eq_true rfl) rfl rfl in1_X2 (List.mem_cons_of_mem _ mw_3_8) dX2_listMeetings_34 ?_
          refine j_iload_n C 3 dX2_listMeetings_37 rfl rfl ?_
          obtain ⟨z_1, hF⟩ := gi hF
          refine j_iald C 0 0 rfl rfl z_1 dX2_listMeetings_38 ?_
          refine j_iconst (v := (-1 : Int32)) C dX2_listMeetings_39 rfl ?_
          refine j_icmp_eq C 70 dX2_listMeetings_40 rfl (fun c_24 => ?_) (fun c_24 => ?_)
          · have hF := (if_pos c_24).symm.trans hF
            refine j_iconst (v := (0 : Int32)) C dX2_listMeetings_70 rfl ?_
            exact bX2_listMeetings_71 C N0 h0 _ _ _ _ _ _ Rk ih hF
          · have hF := (if_neg c_24).symm.trans hF
            refine j_aload_n C 0 dX2_listMeetings_43 rfl rfl ?_
            refine j_get (v := .ref (h0 2)) C 0 1 rfl rfl (Nat.le_of_ble_eq_true rfl) rfl rfl in1_X2 (List.mem_cons_of_mem _ mw_3_9) dX2_listMeetings_44 ?_
            refine j_iload_n C 2 dX2_listMeetings_47 rfl rfl ?_
            obtain ⟨z_2, hF⟩ := gi hF
            refine j_iald C 0 1 rfl rfl z_2 dX2_listMeetings_48 ?_
            refine j_iload_n C 2 dX2_listMeetings_49 rfl rfl ?_
            refine j_icmp_le C 70 dX2_listMeetings_50 rfl (fun c_23 => ?_) (fun c_23 => ?_)
            · have hF := (if_pos c_23).symm.trans hF
              refine j_iconst (v := (0 : Int32)) C dX2_listMeetings_70 rfl ?_
              exact bX2_listMeetings_71 C N0 h0 _ _ _ _ _ _ Rk ih hF
            · have hF := (if_neg c_23).symm.trans hF
              refine j_aload_n C 0 dX2_listMeetings_53 rfl rfl ?_
              refine j_get (v := .ref (h0 2)) C 0 1 rfl rfl (Nat.le_of_ble_eq_true rfl) rfl rfl in1_X2 (List.mem_cons_of_mem _ mw_3_9) dX2_listMeetings_54 ?_
              refine j_iload_n C 2 dX2_listMeetings_57 rfl rfl ?_
              refine j_iald C 0 1 rfl rfl z_2 dX2_listMeetings_58 ?_
              refine j_iload_n C 2 dX2_listMeetings_59 rfl rfl ?_
              refine j_isub C dX2_listMeetings_60 ?_
              refine j_iconst (v := (3 : Int32)) C dX2_listMeetings_61 rfl ?_
              refine j_irem C (by decide) dX2_listMeetings_62 ?_
              refine j_if_ne C 70 dX2_listMeetings_63 rfl (fun c_22 => ?_) (fun c_22 => ?_)
              · have hF := (if_neg c_22).symm.trans hF
                refine j_iconst (v := (0 : Int32)) C dX2_listMeetings_70 rfl ?_
                exact bX2_listMeetings_71 C N0 h0 _ _ _ _ _ _ Rk ih hF
              · have hF := (if_pos c_22).symm.trans hF
                refine j_iconst (v := (1 : Int32)) C dX2_listMeetings_66 rfl ?_
                refine j_goto C 71 dX2_listMeetings_67 rfl ?_
                exact bX2_listMeetings_71 C N0 h0 _ _ _ _ _ _ Rk ih hF
set_option maxRecDepth 100000 in
set_option maxHeartbeats 4000000 in
theorem kX2_listMeetings (g : Gl) (N0 : Nat) (h0 : Nat → Nat)  (o0 : Ob) {r : Int32} {o0' : Ob} (hF : FX2_listMeetings N0 o0 = some (r, o0')) : Ctr g yX2_listMeetings (Cond.code yX2_listMeetings cX2_listMeetings 5 (some .int) :: wsL_law) 0 0 [((shX2 N0), h0, o0)] [((shX2 N0), h0, o0')] [.ref (h0 0)] (some (.int r)) := by
  refine Ctr.of (cc := cX2_listMeetings) (maxL := 5) (ret := (some .int)) (by decide) rfl (Nat.le_of_ble_eq_true rfl) ?_
  intro X C Rk
  replace C : CxOk g X cX2_listMeetings RX2 (Cond.code yX2_listMeetings cX2_listMeetings 5 (some .int) :: wsL_law) 5 0 0 := C
  show J g X [((shX2 N0), h0, o0)] 0 [(0, .ref (h0 0))] []
  unfold FX2_listMeetings at hF
  refine j_iconst (v := (0 : Int32)) C dX2_listMeetings_0 rfl ?_
  refine j_istore_n C [(1, .int (0 : Int32)), (0, .ref (h0 0))] dX2_listMeetings_1 rfl (Nat.le_of_ble_eq_true rfl) rfl rfl ?_
  refine j_bipush (v := (16 : Int32)) C dX2_listMeetings_2 rfl ?_
  refine j_istore_n C [(2, .int (16 : Int32)), (1, .int (0 : Int32)), (0, .ref (h0 0))] dX2_listMeetings_4 rfl (Nat.le_of_ble_eq_true rfl) rfl rfl ?_
  refine j_iconst (v := (0 : Int32)) C dX2_listMeetings_5 rfl ?_
  refine j_istore_n C [(3, .int (0 : Int32)), (2, .int (16 : Int32)), (1, .int (0 : Int32)), (0, .ref (h0 0))] dX2_listMeetings_6 rfl (Nat.le_of_ble_eq_true rfl) rfl rfl ?_
  refine j_sub [(0, .ref (h0 0)), (1, .int (0 : Int32)), (2, .int (16 : Int32)), (3, .int (0 : Int32))] [3, 2, 1, 0] rfl ?_
  refine lX2_listMeetings_7 C N0 h0  _ Rk (fun x1_28 o0_29 hF => ?_) _ _ _ _ _ hF
  refine j_aload_n C 0 dX2_listMeetings_106 rfl rfl ?_
  refine j_iload_n C 1 dX2_listMeetings_107 rfl rfl ?_
  obtain ⟨o0_31, e_30, hF⟩ := glT hF
  refine j_putV C tyX2_ok nmX2 0 8 rfl rfl (Nat.le_of_ble_eq_true rfl) rfl in1_X2 (List.mem_cons_of_mem _ mw_20_19) rfl fd_X2_8 rfl rfl [((shX2 N0), h0, o0_31)] (by rw [e_30]; rfl) dX2_listMeetings_108 ?_
  refine j_iload_n C 1 dX2_listMeetings_111 rfl rfl ?_
  cases hF
  exact j_iret C Rk dX2_listMeetings_112
/-! HeadsMeet$Graph.listedAt -/
def FX2_listedAt (N0 : Nat) (x1 : Int32) (o0 : Ob) : Option (Int32) :=
  if x1 < 0 then
    some (-1 : Int32)
  else
    if (oV o0 8) ≤ x1 then
      some (-1 : Int32)
    else
      if (Int32.ofNat N0) ≤ x1 then
        some (-1 : Int32)
      else
        if inb x1 N0 then
        some (oA o0 2 x1.toNatClampNeg)
        else none
set_option maxRecDepth 100000 in
set_option maxHeartbeats 4000000 in
theorem kX2_listedAt (g : Gl) (N0 : Nat) (h0 : Nat → Nat) (x1 : Int32) (o0 : Ob) {r : Int32} (hF : FX2_listedAt N0 x1 o0 = some r) : Ctr g yX2_listedAt (Cond.code yX2_listedAt cX2_listedAt 2 (some .int) :: wsL_law) 0 0 [((shX2 N0), h0, o0)] [((shX2 N0), h0, o0)] [.ref (h0 0), .int x1] (some (.int r)) := by
  refine Ctr.of (cc := cX2_listedAt) (maxL := 2) (ret := (some .int)) (by decide) rfl (Nat.le_of_ble_eq_true rfl) ?_
  intro X C Rk
  replace C : CxOk g X cX2_listedAt RX2 (Cond.code yX2_listedAt cX2_listedAt 2 (some .int) :: wsL_law) 2 0 0 := C
  show J g X [((shX2 N0), h0, o0)] 0 [(0, .ref (h0 0)), (1, .int x1)] []
  unfold FX2_listedAt at hF
  refine j_iload_n C 1 dX2_listedAt_0 rfl rfl ?_
  refine j_if_lt C 30 dX2_listedAt_1 rfl (fun c_4 => ?_) (fun c_4 => ?_)
  · have hF := (if_pos c_4).symm.trans hF
    refine j_iconst (v := (-1 : Int32)) C dX2_listedAt_30 rfl ?_
    cases hF
    exact j_iret C Rk dX2_listedAt_31
  · have hF := (if_neg c_4).symm.trans hF
    refine j_iload_n C 1 dX2_listedAt_4 rfl rfl ?_
    refine j_aload_n C 0 dX2_listedAt_5 rfl rfl ?_
    refine j_get (v := .int (oV o0 8)) C 0 8 rfl rfl (Nat.le_of_ble_eq_true rfl) rfl rfl in1_X2 (List.mem_cons_of_mem _ mw_20_19) dX2_listedAt_6 ?_
    refine j_icmp_ge C 30 dX2_listedAt_9 rfl (fun c_3 => ?_) (fun c_3 => ?_)
    · have hF := (if_pos c_3).symm.trans hF
      refine j_iconst (v := (-1 : Int32)) C dX2_listedAt_30 rfl ?_
      cases hF
      exact j_iret C Rk dX2_listedAt_31
    · have hF := (if_neg c_3).symm.trans hF
      refine j_iload_n C 1 dX2_listedAt_12 rfl rfl ?_
      refine j_aload_n C 0 dX2_listedAt_13 rfl rfl ?_
      refine j_get (v := .ref (h0 3)) C 0 2 rfl rfl (Nat.le_of_ble_eq_true rfl) rfl rfl in1_X2 (List.mem_cons_of_mem _ mw_3_10) dX2_listedAt_14 ?_
      refine j_alen (v := Int32.ofNat N0) C 0 2 rfl rfl rfl dX2_listedAt_17 ?_
      refine j_icmp_ge C 30 dX2_listedAt_18 rfl (fun c_2 => ?_) (fun c_2 => ?_)
      · have hF := (if_pos c_2).symm.trans hF
        refine j_iconst (v := (-1 : Int32)) C dX2_listedAt_30 rfl ?_
        cases hF
        exact j_iret C Rk dX2_listedAt_31
      · have hF := (if_neg c_2).symm.trans hF
        refine j_aload_n C 0 dX2_listedAt_21 rfl rfl ?_
        refine j_get (v := .ref (h0 3)) C 0 2 rfl rfl (Nat.le_of_ble_eq_true rfl) rfl rfl in1_X2 (List.mem_cons_of_mem _ mw_3_10) dX2_listedAt_22 ?_
        refine j_iload_n C 1 dX2_listedAt_25 rfl rfl ?_
        obtain ⟨z_1, hF⟩ := gi hF
        refine j_iald C 0 2 rfl rfl z_1 dX2_listedAt_26 ?_
        refine j_goto C 31 dX2_listedAt_27 rfl ?_
        cases hF
        exact j_iret C Rk dX2_listedAt_31
/-! HeadsMeet$Graph.sortOf -/
def FX2_sortOf (x0 : Int32) (x1 : Int32)  : Option (Int32) :=
  if x0 = x1 then
    some (1 : Int32)
  else
    if x0 = 0 then
      some (3 : Int32)
    else
      if x1 = 0 then
        some (3 : Int32)
      else
        some (2 : Int32)
set_option maxRecDepth 100000 in
set_option maxHeartbeats 4000000 in
theorem kX2_sortOf (g : Gl)  (x0 : Int32) (x1 : Int32)  {r : Int32} (hF : FX2_sortOf x0 x1 = some r) : Ctr g yX2_sortOf (Cond.code yX2_sortOf cX2_sortOf 2 (some .int) :: wsL_law) 0 0 [] [] [.int x0, .int x1] (some (.int r)) := by
  refine Ctr.of (cc := cX2_sortOf) (maxL := 2) (ret := (some .int)) (by decide) rfl (Nat.le_of_ble_eq_true rfl) ?_
  intro X C Rk
  replace C : CxOk g X cX2_sortOf RX2 (Cond.code yX2_sortOf cX2_sortOf 2 (some .int) :: wsL_law) 2 0 0 := C
  show J g X [] 0 [(0, .int x0), (1, .int x1)] []
  unfold FX2_sortOf at hF
  refine j_iload_n C 0 dX2_sortOf_0 rfl rfl ?_
  refine j_iload_n C 1 dX2_sortOf_1 rfl rfl ?_
  refine j_icmp_ne C 7 dX2_sortOf_2 rfl (fun c_3 => ?_) (fun c_3 => ?_)
  · have hF := (if_neg c_3).symm.trans hF
    refine j_iload_n C 0 dX2_sortOf_7 rfl rfl ?_
    refine j_if_eq C 15 dX2_sortOf_8 rfl (fun c_2 => ?_) (fun c_2 => ?_)
    · have hF := (if_pos c_2).symm.trans hF
      refine j_iconst (v := (3 : Int32)) C dX2_sortOf_15 rfl ?_
      refine j_goto C 20 dX2_sortOf_16 rfl ?_
      cases hF
      exact j_iret C Rk dX2_sortOf_20
    · have hF := (if_neg c_2).symm.trans hF
      refine j_iload_n C 1 dX2_sortOf_11 rfl rfl ?_
      refine j_if_ne C 19 dX2_sortOf_12 rfl (fun c_1 => ?_) (fun c_1 => ?_)
      · have hF := (if_neg c_1).symm.trans hF
        refine j_iconst (v := (2 : Int32)) C dX2_sortOf_19 rfl ?_
        cases hF
        exact j_iret C Rk dX2_sortOf_20
      · have hF := (if_pos c_1).symm.trans hF
        refine j_iconst (v := (3 : Int32)) C dX2_sortOf_15 rfl ?_
        refine j_goto C 20 dX2_sortOf_16 rfl ?_
        cases hF
        exact j_iret C Rk dX2_sortOf_20
  · have hF := (if_pos c_3).symm.trans hF
    refine j_iconst (v := (1 : Int32)) C dX2_sortOf_5 rfl ?_
    cases hF
    exact j_iret C Rk dX2_sortOf_6
/-! HeadsMeet$Graph.remove -/
def FX2_remove (N0 : Nat) (x1 : Int32) (o0 : Ob) : Option (Ob) :=
  b1 (FX2_kindOf N0 x1 o0) fun r_1 =>
  if r_1 = (-1 : Int32) then
    some o0
  else
    b1 (FX2_setKind N0 x1 (-1 : Int32) o0) fun o0_3 =>
    lT (sV o0_3 5 (if x1 < (oV o0_3 5) then x1 else oV o0_3 5)) fun o0_6 =>
    lT (sV o0_6 6 ((oV o0_6 6) - (1 : Int32))) fun o0_8 =>
    some o0_8
set_option maxRecDepth 100000 in
set_option maxHeartbeats 4000000 in
theorem kX2_remove (g : Gl) (N0 : Nat) (h0 : Nat → Nat) (x1 : Int32) (o0 : Ob) {o0' : Ob} (hF : FX2_remove N0 x1 o0 = some o0') : Ctr g yX2_remove (Cond.code yX2_remove cX2_remove 2 none :: wsL_law) 1 22 [((shX2 N0), h0, o0)] [((shX2 N0), h0, o0')] [.ref (h0 0), .int x1] none := by
  refine Ctr.of (cc := cX2_remove) (maxL := 2) (ret := none) (by decide) rfl (Nat.le_of_ble_eq_true rfl) ?_
  intro X C Rk
  replace C : CxOk g X cX2_remove RX2 (Cond.code yX2_remove cX2_remove 2 none :: wsL_law) 2 1 22 := C
  show J g X [((shX2 N0), h0, o0)] 0 [(0, .ref (h0 0)), (1, .int x1)] []
  unfold FX2_remove at hF
  refine j_aload_n C 0 dX2_remove_0 rfl rfl ?_
  refine j_iload_n C 1 dX2_remove_1 rfl rfl ?_
  obtain ⟨r_1, k_2, hF⟩ := gb1 hF
  refine j_callVi C (os' := [((shX2 N0), h0, o0)]) [.int x1] (kX2_kindOf g N0 h0 x1 o0 k_2) [0] rfl rfl rfl rfl 0 rfl rfl (wl_gV mw_13_11 mw_13_12 mw_13_13 mw_1_22 mw_13_14) rfl 1 rfl hd_X2_kindOf ⟨Nat.le_of_ble_eq_true rfl, Nat.le_of_ble_eq_true rfl⟩ (Nat.le_of_ble_eq_true rfl) rfl dX2_remove_2 ?_
  refine j_iconst (v := (-1 : Int32)) C dX2_remove_5 rfl ?_
  refine j_icmp_eq C 37 dX2_remove_6 rfl (fun c_9 => ?_) (fun c_9 => ?_)
  · have hF := (if_pos c_9).symm.trans hF
    cases hF
    exact j_vret C Rk dX2_remove_37
  · have hF := (if_neg c_9).symm.trans hF
    refine j_aload_n C 0 dX2_remove_9 rfl rfl ?_
    refine j_iload_n C 1 dX2_remove_10 rfl rfl ?_
    refine j_iconst (v := (-1 : Int32)) C dX2_remove_11 rfl ?_
    obtain ⟨o0_3, k_4, hF⟩ := gb1 hF
    refine j_callVv C (os' := [((shX2 N0), h0, o0_3)]) [.int x1, .int (-1 : Int32)] (kX2_setKind g N0 h0 x1 (-1 : Int32) o0 k_4) [0] rfl rfl rfl rfl 0 rfl rfl (wl_gV mw_21_12 mw_20_7 mw_20_8 mw_1_22 mw_20_9) rfl 2 rfl hd_X2_setKind ⟨Nat.le_of_ble_eq_true rfl, Nat.le_of_ble_eq_true rfl⟩ (Nat.le_of_ble_eq_true rfl) rfl dX2_remove_12 ?_
    refine j_aload_n C 0 dX2_remove_15 rfl rfl ?_
    refine j_aload_n C 0 dX2_remove_16 rfl rfl ?_
    refine j_get (v := .int (oV o0_3 5)) C 0 5 rfl rfl (Nat.le_of_ble_eq_true rfl) rfl rfl in1_X2 (List.mem_cons_of_mem _ mw_8_0) dX2_remove_17 ?_
    refine j_iload_n C 1 dX2_remove_20 rfl rfl ?_
    refine j_mmin C (List.mem_cons_of_mem _ mw_17_17) (List.mem_cons_of_mem _ mw_10_22) (List.mem_cons_of_mem _ mw_10_19) (List.mem_cons_of_mem _ mw_10_23) (Nat.le_of_ble_eq_true rfl) (Nat.le_of_ble_eq_true rfl) dX2_remove_21 ?_
    obtain ⟨o0_6, e_5, hF⟩ := glT hF
    refine j_putV C tyX2_ok nmX2 0 5 rfl rfl (Nat.le_of_ble_eq_true rfl) rfl in1_X2 (List.mem_cons_of_mem _ mw_8_0) rfl fd_X2_5 rfl rfl [((shX2 N0), h0, o0_6)] (by rw [e_5]; rfl) dX2_remove_24 ?_
    refine j_aload_n C 0 dX2_remove_27 rfl rfl ?_
    refine j_dup C rfl dX2_remove_28 ?_
    refine j_get (v := .int (oV o0_6 6)) C 0 6 rfl rfl (Nat.le_of_ble_eq_true rfl) rfl rfl in1_X2 (List.mem_cons_of_mem _ mw_8_1) dX2_remove_29 ?_
    refine j_iconst (v := (1 : Int32)) C dX2_remove_32 rfl ?_
    refine j_isub C dX2_remove_33 ?_
    obtain ⟨o0_8, e_7, hF⟩ := glT hF
    refine j_putV C tyX2_ok nmX2 0 6 rfl rfl (Nat.le_of_ble_eq_true rfl) rfl in1_X2 (List.mem_cons_of_mem _ mw_8_1) rfl fd_X2_6 rfl rfl [((shX2 N0), h0, o0_8)] (by rw [e_7]; rfl) dX2_remove_34 ?_
    cases hF
    exact j_vret C Rk dX2_remove_37
/-! HeadsMeet$Graph.move -/
def FX2_move (N0 : Nat) (x1 : Int32) (x2 : Int32) (o0 : Ob) : Option (Ob) :=
  b1 (FX2_across N0 x1 o0) fun r_1 =>
  b1 (FX2_vacate N0 x1 o0) fun o0_3 =>
  b1 (FX2_link N0 r_1 x2 o0_3) fun o0_5 =>
  some o0_5
set_option maxRecDepth 100000 in
set_option maxHeartbeats 4000000 in
theorem kX2_move (g : Gl) (N0 : Nat) (h0 : Nat → Nat) (x1 : Int32) (x2 : Int32) (o0 : Ob) {o0' : Ob} (hF : FX2_move N0 x1 x2 o0 = some o0') : Ctr g yX2_move (Cond.code yX2_move cX2_move 4 none :: wsL_law) 1 22 [((shX2 N0), h0, o0)] [((shX2 N0), h0, o0')] [.ref (h0 0), .int x1, .int x2] none := by
  refine Ctr.of (cc := cX2_move) (maxL := 4) (ret := none) (by decide) rfl (Nat.le_of_ble_eq_true rfl) ?_
  intro X C Rk
  replace C : CxOk g X cX2_move RX2 (Cond.code yX2_move cX2_move 4 none :: wsL_law) 4 1 22 := C
  show J g X [((shX2 N0), h0, o0)] 0 [(0, .ref (h0 0)), (1, .int x1), (2, .int x2)] []
  unfold FX2_move at hF
  refine j_aload_n C 0 dX2_move_0 rfl rfl ?_
  refine j_iload_n C 1 dX2_move_1 rfl rfl ?_
  obtain ⟨r_1, k_2, hF⟩ := gb1 hF
  refine j_callVi C (os' := [((shX2 N0), h0, o0)]) [.int x1] (kX2_across g N0 h0 x1 o0 k_2) [0] rfl rfl rfl rfl 0 rfl rfl (wl_gV mw_17_4 mw_17_5 mw_17_6 mw_1_22 mw_17_7) rfl 1 rfl hd_X2_across ⟨Nat.le_of_ble_eq_true rfl, Nat.le_of_ble_eq_true rfl⟩ (Nat.le_of_ble_eq_true rfl) rfl dX2_move_2 ?_
  refine j_istore_n C [(3, .int r_1), (0, .ref (h0 0)), (1, .int x1), (2, .int x2)] dX2_move_5 rfl (Nat.le_of_ble_eq_true rfl) rfl rfl ?_
  refine j_aload_n C 1 dX2_move_6 rfl rfl ?_
  refine j_iload_n C 2 dX2_move_7 rfl rfl ?_
  obtain ⟨o0_3, k_4, hF⟩ := gb1 hF
  refine j_callVv C (os' := [((shX2 N0), h0, o0_3)]) [.int x1] (kX2_vacate g N0 h0 x1 o0 k_4) [0] rfl rfl rfl rfl 0 rfl rfl (wl_gV mw_17_9 mw_17_10 mw_17_11 mw_1_22 mw_17_12) rfl 1 rfl hd_X2_vacate ⟨Nat.le_of_ble_eq_true rfl, Nat.le_of_ble_eq_true rfl⟩ (Nat.le_of_ble_eq_true rfl) rfl dX2_move_8 ?_
  refine j_aload_n C 1 dX2_move_11 rfl rfl ?_
  refine j_iload_n C 0 dX2_move_12 rfl rfl ?_
  refine j_iload_n C 3 dX2_move_13 rfl rfl ?_
  obtain ⟨o0_5, k_6, hF⟩ := gb1 hF
  refine j_callVv C (os' := [((shX2 N0), h0, o0_5)]) [.int r_1, .int x2] (kX2_link g N0 h0 r_1 x2 o0_3 k_6) [0] rfl rfl rfl rfl 0 rfl rfl (wl_gV mw_17_8 mw_9_10 mw_9_11 mw_1_22 mw_9_12) rfl 2 rfl hd_X2_link ⟨Nat.le_of_ble_eq_true rfl, Nat.le_of_ble_eq_true rfl⟩ (Nat.le_of_ble_eq_true rfl) rfl dX2_move_14 ?_
  cases hF
  exact j_vret C Rk dX2_move_17
/-! HeadsMeet$Graph.copyEachOther -/
def FX2_copyEachOther (N0 : Nat) (x1 : Int32) (x2 : Int32) (x3 : Int32) (x4 : Int32) (o0 : Ob) : Option (Ob) :=
  b2 (FX2_addNode N0 x2 o0) fun r_1 o0_2 =>
  b2 (FX2_addNode N0 x2 o0_2) fun r_4 o0_5 =>
  b2 (FX2_addNode N0 x4 o0_5) fun r_7 o0_8 =>
  b2 (FX2_addNode N0 x4 o0_8) fun r_10 o0_11 =>
  b1 (FX2_port x3 (1 : Int32)) fun r_13 =>
  b1 (FX2_port r_1 (0 : Int32)) fun r_15 =>
  b1 (FX2_move N0 r_13 r_15 o0_11) fun o0_17 =>
  b1 (FX2_port x3 (2 : Int32)) fun r_19 =>
  b1 (FX2_port r_4 (0 : Int32)) fun r_21 =>
  b1 (FX2_move N0 r_19 r_21 o0_17) fun o0_23 =>
  b1 (FX2_port x1 (1 : Int32)) fun r_25 =>
  b1 (FX2_port r_7 (0 : Int32)) fun r_27 =>
  b1 (FX2_move N0 r_25 r_27 o0_23) fun o0_29 =>
  b1 (FX2_port x1 (2 : Int32)) fun r_31 =>
  b1 (FX2_port r_10 (0 : Int32)) fun r_33 =>
  b1 (FX2_move N0 r_31 r_33 o0_29) fun o0_35 =>
  b1 (FX2_port r_1 (1 : Int32)) fun r_37 =>
  b1 (FX2_port r_7 (1 : Int32)) fun r_39 =>
  b1 (FX2_link N0 r_37 r_39 o0_35) fun o0_41 =>
  b1 (FX2_port r_1 (2 : Int32)) fun r_43 =>
  b1 (FX2_port r_10 (1 : Int32)) fun r_45 =>
  b1 (FX2_link N0 r_43 r_45 o0_41) fun o0_47 =>
  b1 (FX2_port r_4 (1 : Int32)) fun r_49 =>
  b1 (FX2_port r_7 (2 : Int32)) fun r_51 =>
  b1 (FX2_link N0 r_49 r_51 o0_47) fun o0_53 =>
  b1 (FX2_port r_4 (2 : Int32)) fun r_55 =>
  b1 (FX2_port r_10 (2 : Int32)) fun r_57 =>
  b1 (FX2_link N0 r_55 r_57 o0_53) fun o0_59 =>
  some o0_59
set_option maxRecDepth 100000 in
set_option maxHeartbeats 4000000 in
theorem kX2_copyEachOther (g : Gl) (N0 : Nat) (h0 : Nat → Nat) (x1 : Int32) (x2 : Int32) (x3 : Int32) (x4 : Int32) (o0 : Ob) {o0' : Ob} (hF : FX2_copyEachOther N0 x1 x2 x3 x4 o0 = some o0') : Ctr g yX2_copyEachOther (Cond.code yX2_copyEachOther cX2_copyEachOther 9 none :: wsL_law) 2 45 [((shX2 N0), h0, o0)] [((shX2 N0), h0, o0')] [.ref (h0 0), .int x1, .int x2, .int x3, .int x4] none := by
  refine Ctr.of (cc := cX2_copyEachOther) (maxL := 9) (ret := none) (by decide) rfl (Nat.le_of_ble_eq_true rfl) ?_
  intro X C Rk
  replace C : CxOk g X cX2_copyEachOther RX2 (Cond.code yX2_copyEachOther cX2_copyEachOther 9 none :: wsL_law) 9 2 45 := C
  show J g X [((shX2 N0), h0, o0)] 0 [(0, .ref (h0 0)), (1, .int x1), (2, .int x2), (3, .int x3), (4, .int x4)] []
  unfold FX2_copyEachOther at hF
  refine j_aload_n C 0 dX2_copyEachOther_0 rfl rfl ?_
  refine j_iload_n C 2 dX2_copyEachOther_1 rfl rfl ?_
  obtain ⟨r_1, o0_2, k_3, hF⟩ := gb2 hF
  refine j_callVi C (os' := [((shX2 N0), h0, o0_2)]) [.int x2] (kX2_addNode g N0 h0 x2 o0 k_3) [0] rfl rfl rfl rfl 0 rfl rfl (wl_gV mw_21_17 mw_13_7 mw_13_8 mw_1_22 mw_13_9) rfl 1 rfl hd_X2_addNode ⟨Nat.le_of_ble_eq_true rfl, Nat.le_of_ble_eq_true rfl⟩ (Nat.le_of_ble_eq_true rfl) rfl dX2_copyEachOther_2 ?_
  refine j_istore C [(5, .int r_1), (0, .ref (h0 0)), (1, .int x1), (2, .int x2), (3, .int x3), (4, .int x4)] dX2_copyEachOther_5 (Nat.le_of_ble_eq_true rfl) rfl rfl ?_
  refine j_aload_n C 1 dX2_copyEachOther_7 rfl rfl ?_
  refine j_iload_n C 3 dX2_copyEachOther_8 rfl rfl ?_
  obtain ⟨r_4, o0_5, k_6, hF⟩ := gb2 hF
  refine j_callVi C (os' := [((shX2 N0), h0, o0_5)]) [.int x2] (kX2_addNode g N0 h0 x2 o0_2 k_6) [0] rfl rfl rfl rfl 0 rfl rfl (wl_gV mw_21_17 mw_13_7 mw_13_8 mw_1_22 mw_13_9) rfl 1 rfl hd_X2_addNode ⟨Nat.le_of_ble_eq_true rfl, Nat.le_of_ble_eq_true rfl⟩ (Nat.le_of_ble_eq_true rfl) rfl dX2_copyEachOther_9 ?_
  refine j_istore C [(6, .int r_4), (5, .int r_1), (0, .ref (h0 0)), (1, .int x1), (2, .int x2), (3, .int x3), (4, .int x4)] dX2_copyEachOther_12 (Nat.le_of_ble_eq_true rfl) rfl rfl ?_
  refine j_aload_n C 2 dX2_copyEachOther_14 rfl rfl ?_
  refine j_iload C 6 dX2_copyEachOther_15 rfl ?_
  obtain ⟨r_7, o0_8, k_9, hF⟩ := gb2 hF
  refine j_callVi C (os' := [((shX2 N0), h0, o0_8)]) [.int x4] (kX2_addNode g N0 h0 x4 o0_5 k_9) [0] rfl rfl rfl rfl 0 rfl rfl (wl_gV mw_21_17 mw_13_7 mw_13_8 mw_1_22 mw_13_9) rfl 1 rfl hd_X2_addNode ⟨Nat.le_of_ble_eq_true rfl, Nat.le_of_ble_eq_true rfl⟩ (Nat.le_of_ble_eq_true rfl) rfl dX2_copyEachOther_17 ?_
  refine j_istore C [(7, .int r_7), (6, .int r_4), (5, .int r_1), (0, .ref (h0 0)), (1, .int x1), (2, .int x2), (3, .int x3), (4, .int x4)] dX2_copyEachOther_20 (Nat.le_of_ble_eq_true rfl) rfl rfl ?_
  refine j_aload_n C 3 dX2_copyEachOther_22 rfl rfl ?_
  refine j_iload C 7 dX2_copyEachOther_23 rfl ?_
  obtain ⟨r_10, o0_11, k_12, hF⟩ := gb2 hF
  refine j_callVi C (os' := [((shX2 N0), h0, o0_11)]) [.int x4] (kX2_addNode g N0 h0 x4 o0_8 k_12) [0] rfl rfl rfl rfl 0 rfl rfl (wl_gV mw_21_17 mw_13_7 mw_13_8 mw_1_22 mw_13_9) rfl 1 rfl hd_X2_addNode ⟨Nat.le_of_ble_eq_true rfl, Nat.le_of_ble_eq_true rfl⟩ (Nat.le_of_ble_eq_true rfl) rfl dX2_copyEachOther_25 ?_
  refine j_istore C [(8, .int r_10), (7, .int r_7), (6, .int r_4), (5, .int r_1), (0, .ref (h0 0)), (1, .int x1), (2, .int x2), (3, .int x3), (4, .int x4)] dX2_copyEachOther_28 (Nat.le_of_ble_eq_true rfl) rfl rfl ?_
  refine j_aload_n C 4 dX2_copyEachOther_30 rfl rfl ?_
  refine j_iload_n C 7 dX2_copyEachOther_31 rfl rfl ?_
  refine j_iconst (v := (1 : Int32)) C dX2_copyEachOther_32 rfl ?_
  obtain ⟨r_13, k_14, hF⟩ := gb1 hF
  refine j_callSi C (os' := [((shX2 N0), h0, o0_11)]) [.int x3, .int (1 : Int32)] (kX2_port g x3 (1 : Int32) k_14) [] rfl rfl rfl rfl (wl_gS mw_19_10 mw_9_7 mw_1_22 mw_9_8) rfl 2 rfl hd_X2_port ⟨Nat.le_of_ble_eq_true rfl, Nat.le_of_ble_eq_true rfl⟩ (Nat.le_of_ble_eq_true rfl) rfl dX2_copyEachOther_33 ?_
  refine j_iload C 3 dX2_copyEachOther_36 rfl ?_
  refine j_iconst (v := (0 : Int32)) C dX2_copyEachOther_38 rfl ?_
  obtain ⟨r_15, k_16, hF⟩ := gb1 hF
  refine j_callSi C (os' := [((shX2 N0), h0, o0_11)]) [.int r_1, .int (0 : Int32)] (kX2_port g r_1 (0 : Int32) k_16) [] rfl rfl rfl rfl (wl_gS mw_19_10 mw_9_7 mw_1_22 mw_9_8) rfl 2 rfl hd_X2_port ⟨Nat.le_of_ble_eq_true rfl, Nat.le_of_ble_eq_true rfl⟩ (Nat.le_of_ble_eq_true rfl) rfl dX2_copyEachOther_39 ?_
  obtain ⟨o0_17, k_18, hF⟩ := gb1 hF
  refine j_callVv C (os' := [((shX2 N0), h0, o0_17)]) [.int r_13, .int r_15] (kX2_move g N0 h0 r_13 r_15 o0_11 k_18) [0] rfl rfl rfl rfl 0 rfl rfl (wl_gV mw_21_18 mw_21_19 mw_21_20 mw_1_22 mw_21_21) rfl 2 rfl hd_X2_move ⟨Nat.le_of_ble_eq_true rfl, Nat.le_of_ble_eq_true rfl⟩ (Nat.le_of_ble_eq_true rfl) rfl dX2_copyEachOther_42 ?_
  refine j_aload_n C 4 dX2_copyEachOther_45 rfl rfl ?_
  refine j_iload_n C 7 dX2_copyEachOther_46 rfl rfl ?_
  refine j_iconst (v := (2 : Int32)) C dX2_copyEachOther_47 rfl ?_
  obtain ⟨r_19, k_20, hF⟩ := gb1 hF
  refine j_callSi C (os' := [((shX2 N0), h0, o0_17)]) [.int x3, .int (2 : Int32)] (kX2_port g x3 (2 : Int32) k_20) [] rfl rfl rfl rfl (wl_gS mw_19_10 mw_9_7 mw_1_22 mw_9_8) rfl 2 rfl hd_X2_port ⟨Nat.le_of_ble_eq_true rfl, Nat.le_of_ble_eq_true rfl⟩ (Nat.le_of_ble_eq_true rfl) rfl dX2_copyEachOther_48 ?_
  refine j_iload C 2 dX2_copyEachOther_51 rfl ?_
  refine j_iconst (v := (0 : Int32)) C dX2_copyEachOther_53 rfl ?_
  obtain ⟨r_21, k_22, hF⟩ := gb1 hF
  refine j_callSi C (os' := [((shX2 N0), h0, o0_17)]) [.int r_4, .int (0 : Int32)] (kX2_port g r_4 (0 : Int32) k_22) [] rfl rfl rfl rfl (wl_gS mw_19_10 mw_9_7 mw_1_22 mw_9_8) rfl 2 rfl hd_X2_port ⟨Nat.le_of_ble_eq_true rfl, Nat.le_of_ble_eq_true rfl⟩ (Nat.le_of_ble_eq_true rfl) rfl dX2_copyEachOther_54 ?_
  obtain ⟨o0_23, k_24, hF⟩ := gb1 hF
  refine j_callVv C (os' := [((shX2 N0), h0, o0_23)]) [.int r_19, .int r_21] (kX2_move g N0 h0 r_19 r_21 o0_17 k_24) [0] rfl rfl rfl rfl 0 rfl rfl (wl_gV mw_21_18 mw_21_19 mw_21_20 mw_1_22 mw_21_21) rfl 2 rfl hd_X2_move ⟨Nat.le_of_ble_eq_true rfl, Nat.le_of_ble_eq_true rfl⟩ (Nat.le_of_ble_eq_true rfl) rfl dX2_copyEachOther_57 ?_
  refine j_aload_n C 4 dX2_copyEachOther_60 rfl rfl ?_
  refine j_iload_n C 5 dX2_copyEachOther_61 rfl rfl ?_
  refine j_iconst (v := (1 : Int32)) C dX2_copyEachOther_62 rfl ?_
  obtain ⟨r_25, k_26, hF⟩ := gb1 hF
  refine j_callSi C (os' := [((shX2 N0), h0, o0_23)]) [.int x1, .int (1 : Int32)] (kX2_port g x1 (1 : Int32) k_26) [] rfl rfl rfl rfl (wl_gS mw_19_10 mw_9_7 mw_1_22 mw_9_8) rfl 2 rfl hd_X2_port ⟨Nat.le_of_ble_eq_true rfl, Nat.le_of_ble_eq_true rfl⟩ (Nat.le_of_ble_eq_true rfl) rfl dX2_copyEachOther_63 ?_
  refine j_iload C 1 dX2_copyEachOther_66 rfl ?_
  refine j_iconst (v := (0 : Int32)) C dX2_copyEachOther_68 rfl ?_
  obtain ⟨r_27, k_28, hF⟩ := gb1 hF
  refine j_callSi C (os' := [((shX2 N0), h0, o0_23)]) [.int r_7, .int (0 : Int32)] (kX2_port g r_7 (0 : Int32) k_28) [] rfl rfl rfl rfl (wl_gS mw_19_10 mw_9_7 mw_1_22 mw_9_8) rfl 2 rfl hd_X2_port ⟨Nat.le_of_ble_eq_true rfl, Nat.le_of_ble_eq_true rfl⟩ (Nat.le_of_ble_eq_true rfl) rfl dX2_copyEachOther_69 ?_
  obtain ⟨o0_29, k_30, hF⟩ := gb1 hF
  refine j_callVv C (os' := [((shX2 N0), h0, o0_29)]) [.int r_25, .int r_27] (kX2_move g N0 h0 r_25 r_27 o0_23 k_30) [0] rfl rfl rfl rfl 0 rfl rfl (wl_gV mw_21_18 mw_21_19 mw_21_20 mw_1_22 mw_21_21) rfl 2 rfl hd_X2_move ⟨Nat.le_of_ble_eq_true rfl, Nat.le_of_ble_eq_true rfl⟩ (Nat.le_of_ble_eq_true rfl) rfl dX2_copyEachOther_72 ?_
  refine j_aload_n C 4 dX2_copyEachOther_75 rfl rfl ?_
  refine j_iload_n C 5 dX2_copyEachOther_76 rfl rfl ?_
  refine j_iconst (v := (2 : Int32)) C dX2_copyEachOther_77 rfl ?_
  obtain ⟨r_31, k_32, hF⟩ := gb1 hF
  refine j_callSi C (os' := [((shX2 N0), h0, o0_29)]) [.int x1, .int (2 : Int32)] (kX2_port g x1 (2 : Int32) k_32) [] rfl rfl rfl rfl (wl_gS mw_19_10 mw_9_7 mw_1_22 mw_9_8) rfl 2 rfl hd_X2_port ⟨Nat.le_of_ble_eq_true rfl, Nat.le_of_ble_eq_true rfl⟩ (Nat.le_of_ble_eq_true rfl) rfl dX2_copyEachOther_78 ?_
  refine j_iload C 0 dX2_copyEachOther_81 rfl ?_
  refine j_iconst (v := (0 : Int32)) C dX2_copyEachOther_83 rfl ?_
  obtain ⟨r_33, k_34, hF⟩ := gb1 hF
  refine j_callSi C (os' := [((shX2 N0), h0, o0_29)]) [.int r_10, .int (0 : Int32)] (kX2_port g r_10 (0 : Int32) k_34) [] rfl rfl rfl rfl (wl_gS mw_19_10 mw_9_7 mw_1_22 mw_9_8) rfl 2 rfl hd_X2_port ⟨Nat.le_of_ble_eq_true rfl, Nat.le_of_ble_eq_true rfl⟩ (Nat.le_of_ble_eq_true rfl) rfl dX2_copyEachOther_84 ?_
  obtain ⟨o0_35, k_36, hF⟩ := gb1 hF
  refine j_callVv C (os' := [((shX2 N0), h0, o0_35)]) [.int r_31, .int r_33] (kX2_move g N0 h0 r_31 r_33 o0_29 k_36) [0] rfl rfl rfl rfl 0 rfl rfl (wl_gV mw_21_18 mw_21_19 mw_21_20 mw_1_22 mw_21_21) rfl 2 rfl hd_X2_move ⟨Nat.le_of_ble_eq_true rfl, Nat.le_of_ble_eq_true rfl⟩ (Nat.le_of_ble_eq_true rfl) rfl dX2_copyEachOther_87 ?_
  refine j_aload_n C 4 dX2_copyEachOther_90 rfl rfl ?_
  refine j_iload C 3 dX2_copyEachOther_91 rfl ?_
  refine j_iconst (v := (1 : Int32)) C dX2_copyEachOther_93 rfl ?_
  obtain ⟨r_37, k_38, hF⟩ := gb1 hF
  refine j_callSi C (os' := [((shX2 N0), h0, o0_35)]) [.int r_1, .int (1 : Int32)] (kX2_port g r_1 (1 : Int32) k_38) [] rfl rfl rfl rfl (wl_gS mw_19_10 mw_9_7 mw_1_22 mw_9_8) rfl 2 rfl hd_X2_port ⟨Nat.le_of_ble_eq_true rfl, Nat.le_of_ble_eq_true rfl⟩ (Nat.le_of_ble_eq_true rfl) rfl dX2_copyEachOther_94 ?_
  refine j_iload C 1 dX2_copyEachOther_97 rfl ?_
  refine j_iconst (v := (1 : Int32)) C dX2_copyEachOther_99 rfl ?_
  obtain ⟨r_39, k_40, hF⟩ := gb1 hF
  refine j_callSi C (os' := [((shX2 N0), h0, o0_35)]) [.int r_7, .int (1 : Int32)] (kX2_port g r_7 (1 : Int32) k_40) [] rfl rfl rfl rfl (wl_gS mw_19_10 mw_9_7 mw_1_22 mw_9_8) rfl 2 rfl hd_X2_port ⟨Nat.le_of_ble_eq_true rfl, Nat.le_of_ble_eq_true rfl⟩ (Nat.le_of_ble_eq_true rfl) rfl dX2_copyEachOther_100 ?_
  obtain ⟨o0_41, k_42, hF⟩ := gb1 hF
  refine j_callVv C (os' := [((shX2 N0), h0, o0_41)]) [.int r_37, .int r_39] (kX2_link g N0 h0 r_37 r_39 o0_35 k_42) [0] rfl rfl rfl rfl 0 rfl rfl (wl_gV mw_17_8 mw_9_10 mw_9_11 mw_1_22 mw_9_12) rfl 2 rfl hd_X2_link ⟨Nat.le_of_ble_eq_true rfl, Nat.le_of_ble_eq_true rfl⟩ (Nat.le_of_ble_eq_true rfl) rfl dX2_copyEachOther_103 ?_
  refine j_aload_n C 4 dX2_copyEachOther_106 rfl rfl ?_
  refine j_iload C 3 dX2_copyEachOther_107 rfl ?_
  refine j_iconst (v := (2 : Int32)) C dX2_copyEachOther_109 rfl ?_
  obtain ⟨r_43, k_44, hF⟩ := gb1 hF
  refine j_callSi C (os' := [((shX2 N0), h0, o0_41)]) [.int r_1, .int (2 : Int32)] (kX2_port g r_1 (2 : Int32) k_44) [] rfl rfl rfl rfl (wl_gS mw_19_10 mw_9_7 mw_1_22 mw_9_8) rfl 2 rfl hd_X2_port ⟨Nat.le_of_ble_eq_true rfl, Nat.le_of_ble_eq_true rfl⟩ (Nat.le_of_ble_eq_true rfl) rfl dX2_copyEachOther_110 ?_
  refine j_iload C 0 dX2_copyEachOther_113 rfl ?_
  refine j_iconst (v := (1 : Int32)) C dX2_copyEachOther_115 rfl ?_
  obtain ⟨r_45, k_46, hF⟩ := gb1 hF
  refine j_callSi C (os' := [((shX2 N0), h0, o0_41)]) [.int r_10, .int (1 : Int32)] (kX2_port g r_10 (1 : Int32) k_46) [] rfl rfl rfl rfl (wl_gS mw_19_10 mw_9_7 mw_1_22 mw_9_8) rfl 2 rfl hd_X2_port ⟨Nat.le_of_ble_eq_true rfl, Nat.le_of_ble_eq_true rfl⟩ (Nat.le_of_ble_eq_true rfl) rfl dX2_copyEachOther_116 ?_
  obtain ⟨o0_47, k_48, hF⟩ := gb1 hF
  refine j_callVv C (os' := [((shX2 N0), h0, o0_47)]) [.int r_43, .int r_45] (kX2_link g N0 h0 r_43 r_45 o0_41 k_48) [0] rfl rfl rfl rfl 0 rfl rfl (wl_gV mw_17_8 mw_9_10 mw_9_11 mw_1_22 mw_9_12) rfl 2 rfl hd_X2_link ⟨Nat.le_of_ble_eq_true rfl, Nat.le_of_ble_eq_true rfl⟩ (Nat.le_of_ble_eq_true rfl) rfl dX2_copyEachOther_119 ?_
  refine j_aload_n C 4 dX2_copyEachOther_122 rfl rfl ?_
  refine j_iload C 2 dX2_copyEachOther_123 rfl ?_
  refine j_iconst (v := (1 : Int32)) C dX2_copyEachOther_125 rfl ?_
  obtain ⟨r_49, k_50, hF⟩ := gb1 hF
  refine j_callSi C (os' := [((shX2 N0), h0, o0_47)]) [.int r_4, .int (1 : Int32)] (kX2_port g r_4 (1 : Int32) k_50) [] rfl rfl rfl rfl (wl_gS mw_19_10 mw_9_7 mw_1_22 mw_9_8) rfl 2 rfl hd_X2_port ⟨Nat.le_of_ble_eq_true rfl, Nat.le_of_ble_eq_true rfl⟩ (Nat.le_of_ble_eq_true rfl) rfl dX2_copyEachOther_126 ?_
  refine j_iload C 1 dX2_copyEachOther_129 rfl ?_
  refine j_iconst (v := (2 : Int32)) C dX2_copyEachOther_131 rfl ?_
  obtain ⟨r_51, k_52, hF⟩ := gb1 hF
  refine j_callSi C (os' := [((shX2 N0), h0, o0_47)]) [.int r_7, .int (2 : Int32)] (kX2_port g r_7 (2 : Int32) k_52) [] rfl rfl rfl rfl (wl_gS mw_19_10 mw_9_7 mw_1_22 mw_9_8) rfl 2 rfl hd_X2_port ⟨Nat.le_of_ble_eq_true rfl, Nat.le_of_ble_eq_true rfl⟩ (Nat.le_of_ble_eq_true rfl) rfl dX2_copyEachOther_132 ?_
  obtain ⟨o0_53, k_54, hF⟩ := gb1 hF
  refine j_callVv C (os' := [((shX2 N0), h0, o0_53)]) [.int r_49, .int r_51] (kX2_link g N0 h0 r_49 r_51 o0_47 k_54) [0] rfl rfl rfl rfl 0 rfl rfl (wl_gV mw_17_8 mw_9_10 mw_9_11 mw_1_22 mw_9_12) rfl 2 rfl hd_X2_link ⟨Nat.le_of_ble_eq_true rfl, Nat.le_of_ble_eq_true rfl⟩ (Nat.le_of_ble_eq_true rfl) rfl dX2_copyEachOther_135 ?_
  refine j_aload_n C 4 dX2_copyEachOther_138 rfl rfl ?_
  refine j_iload C 2 dX2_copyEachOther_139 rfl ?_
  refine j_iconst (v := (2 : Int32)) C dX2_copyEachOther_141 rfl ?_
  obtain ⟨r_55, k_56, hF⟩ := gb1 hF
  refine j_callSi C (os' := [((shX2 N0), h0, o0_53)]) [.int r_4, .int (2 : Int32)] (kX2_port g r_4 (2 : Int32) k_56) [] rfl rfl rfl rfl (wl_gS mw_19_10 mw_9_7 mw_1_22 mw_9_8) rfl 2 rfl hd_X2_port ⟨Nat.le_of_ble_eq_true rfl, Nat.le_of_ble_eq_true rfl⟩ (Nat.le_of_ble_eq_true rfl) rfl dX2_copyEachOther_142 ?_
  refine j_iload C 0 dX2_copyEachOther_145 rfl ?_
  refine j_iconst (v := (2 : Int32)) C dX2_copyEachOther_147 rfl ?_
  obtain ⟨r_57, k_58, hF⟩ := gb1 hF
  refine j_callSi C (os' := [((shX2 N0), h0, o0_53)]) [.int r_10, .int (2 : Int32)] (kX2_port g r_10 (2 : Int32) k_58) [] rfl rfl rfl rfl (wl_gS mw_19_10 mw_9_7 mw_1_22 mw_9_8) rfl 2 rfl hd_X2_port ⟨Nat.le_of_ble_eq_true rfl, Nat.le_of_ble_eq_true rfl⟩ (Nat.le_of_ble_eq_true rfl) rfl dX2_copyEachOther_148 ?_
  obtain ⟨o0_59, k_60, hF⟩ := gb1 hF
  refine j_callVv C (os' := [((shX2 N0), h0, o0_59)]) [.int r_55, .int r_57] (kX2_link g N0 h0 r_55 r_57 o0_53 k_60) [0] rfl rfl rfl rfl 0 rfl rfl (wl_gV mw_17_8 mw_9_10 mw_9_11 mw_1_22 mw_9_12) rfl 2 rfl hd_X2_link ⟨Nat.le_of_ble_eq_true rfl, Nat.le_of_ble_eq_true rfl⟩ (Nat.le_of_ble_eq_true rfl) rfl dX2_copyEachOther_151 ?_
  cases hF
  exact j_vret C Rk dX2_copyEachOther_154
/-! HeadsMeet$Graph.eat -/
def FX2_eat (N0 : Nat) (x1 : Int32) (o0 : Ob) : Option (Ob) :=
  b2 (FX2_addNode N0 (0 : Int32) o0) fun r_1 o0_2 =>
  b2 (FX2_addNode N0 (0 : Int32) o0_2) fun r_4 o0_5 =>
  b1 (FX2_port x1 (1 : Int32)) fun r_7 =>
  b1 (FX2_port r_1 (0 : Int32)) fun r_9 =>
  b1 (FX2_move N0 r_7 r_9 o0_5) fun o0_11 =>
  b1 (FX2_port x1 (2 : Int32)) fun r_13 =>
  b1 (FX2_port r_4 (0 : Int32)) fun r_15 =>
  b1 (FX2_move N0 r_13 r_15 o0_11) fun o0_17 =>
  some o0_17
set_option maxRecDepth 100000 in
set_option maxHeartbeats 4000000 in
theorem kX2_eat (g : Gl) (N0 : Nat) (h0 : Nat → Nat) (x1 : Int32) (o0 : Ob) {o0' : Ob} (hF : FX2_eat N0 x1 o0 = some o0') : Ctr g yX2_eat (Cond.code yX2_eat cX2_eat 4 none :: wsL_law) 2 45 [((shX2 N0), h0, o0)] [((shX2 N0), h0, o0')] [.ref (h0 0), .int x1] none := by
  refine Ctr.of (cc := cX2_eat) (maxL := 4) (ret := none) (by decide) rfl (Nat.le_of_ble_eq_true rfl) ?_
  intro X C Rk
  replace C : CxOk g X cX2_eat RX2 (Cond.code yX2_eat cX2_eat 4 none :: wsL_law) 4 2 45 := C
  show J g X [((shX2 N0), h0, o0)] 0 [(0, .ref (h0 0)), (1, .int x1)] []
  unfold FX2_eat at hF
  refine j_aload_n C 0 dX2_eat_0 rfl rfl ?_
  refine j_iconst (v := (0 : Int32)) C dX2_eat_1 rfl ?_
  obtain ⟨r_1, o0_2, k_3, hF⟩ := gb2 hF
  refine j_callVi C (os' := [((shX2 N0), h0, o0_2)]) [.int (0 : Int32)] (kX2_addNode g N0 h0 (0 : Int32) o0 k_3) [0] rfl rfl rfl rfl 0 rfl rfl (wl_gV mw_21_17 mw_13_7 mw_13_8 mw_1_22 mw_13_9) rfl 1 rfl hd_X2_addNode ⟨Nat.le_of_ble_eq_true rfl, Nat.le_of_ble_eq_true rfl⟩ (Nat.le_of_ble_eq_true rfl) rfl dX2_eat_2 ?_
  refine j_istore_n C [(2, .int r_1), (0, .ref (h0 0)), (1, .int x1)] dX2_eat_5 rfl (Nat.le_of_ble_eq_true rfl) rfl rfl ?_
  refine j_aload_n C 1 dX2_eat_6 rfl rfl ?_
  refine j_iconst (v := (0 : Int32)) C dX2_eat_7 rfl ?_
  obtain ⟨r_4, o0_5, k_6, hF⟩ := gb2 hF
  refine j_callVi C (os' := [((shX2 N0), h0, o0_5)]) [.int (0 : Int32)] (kX2_addNode g N0 h0 (0 : Int32) o0_2 k_6) [0] rfl rfl rfl rfl 0 rfl rfl (wl_gV mw_21_17 mw_13_7 mw_13_8 mw_1_22 mw_13_9) rfl 1 rfl hd_X2_addNode ⟨Nat.le_of_ble_eq_true rfl, Nat.le_of_ble_eq_true rfl⟩ (Nat.le_of_ble_eq_true rfl) rfl dX2_eat_8 ?_
  refine j_istore_n C [(3, .int r_4), (2, .int r_1), (0, .ref (h0 0)), (1, .int x1)] dX2_eat_11 rfl (Nat.le_of_ble_eq_true rfl) rfl rfl ?_
  refine j_aload_n C 2 dX2_eat_12 rfl rfl ?_
  refine j_iload_n C 3 dX2_eat_13 rfl rfl ?_
  refine j_iconst (v := (1 : Int32)) C dX2_eat_14 rfl ?_
  obtain ⟨r_7, k_8, hF⟩ := gb1 hF
  refine j_callSi C (os' := [((shX2 N0), h0, o0_5)]) [.int x1, .int (1 : Int32)] (kX2_port g x1 (1 : Int32) k_8) [] rfl rfl rfl rfl (wl_gS mw_19_10 mw_9_7 mw_1_22 mw_9_8) rfl 2 rfl hd_X2_port ⟨Nat.le_of_ble_eq_true rfl, Nat.le_of_ble_eq_true rfl⟩ (Nat.le_of_ble_eq_true rfl) rfl dX2_eat_15 ?_
  refine j_iload_n C 1 dX2_eat_18 rfl rfl ?_
  refine j_iconst (v := (0 : Int32)) C dX2_eat_19 rfl ?_
  obtain ⟨r_9, k_10, hF⟩ := gb1 hF
  refine j_callSi C (os' := [((shX2 N0), h0, o0_5)]) [.int r_1, .int (0 : Int32)] (kX2_port g r_1 (0 : Int32) k_10) [] rfl rfl rfl rfl (wl_gS mw_19_10 mw_9_7 mw_1_22 mw_9_8) rfl 2 rfl hd_X2_port ⟨Nat.le_of_ble_eq_true rfl, Nat.le_of_ble_eq_true rfl⟩ (Nat.le_of_ble_eq_true rfl) rfl dX2_eat_20 ?_
  obtain ⟨o0_11, k_12, hF⟩ := gb1 hF
  refine j_callVv C (os' := [((shX2 N0), h0, o0_11)]) [.int r_7, .int r_9] (kX2_move g N0 h0 r_7 r_9 o0_5 k_12) [0] rfl rfl rfl rfl 0 rfl rfl (wl_gV mw_21_18 mw_21_19 mw_21_20 mw_1_22 mw_21_21) rfl 2 rfl hd_X2_move ⟨Nat.le_of_ble_eq_true rfl, Nat.le_of_ble_eq_true rfl⟩ (Nat.le_of_ble_eq_true rfl) rfl dX2_eat_23 ?_
  refine j_aload_n C 2 dX2_eat_26 rfl rfl ?_
  refine j_iload_n C 3 dX2_eat_27 rfl rfl ?_
  refine j_iconst (v := (2 : Int32)) C dX2_eat_28 rfl ?_
  obtain ⟨r_13, k_14, hF⟩ := gb1 hF
  refine j_callSi C (os' := [((shX2 N0), h0, o0_11)]) [.int x1, .int (2 : Int32)] (kX2_port g x1 (2 : Int32) k_14) [] rfl rfl rfl rfl (wl_gS mw_19_10 mw_9_7 mw_1_22 mw_9_8) rfl 2 rfl hd_X2_port ⟨Nat.le_of_ble_eq_true rfl, Nat.le_of_ble_eq_true rfl⟩ (Nat.le_of_ble_eq_true rfl) rfl dX2_eat_29 ?_
  refine j_iload_n C 0 dX2_eat_32 rfl rfl ?_
  refine j_iconst (v := (0 : Int32)) C dX2_eat_33 rfl ?_
  obtain ⟨r_15, k_16, hF⟩ := gb1 hF
  refine j_callSi C (os' := [((shX2 N0), h0, o0_11)]) [.int r_4, .int (0 : Int32)] (kX2_port g r_4 (0 : Int32) k_16) [] rfl rfl rfl rfl (wl_gS mw_19_10 mw_9_7 mw_1_22 mw_9_8) rfl 2 rfl hd_X2_port ⟨Nat.le_of_ble_eq_true rfl, Nat.le_of_ble_eq_true rfl⟩ (Nat.le_of_ble_eq_true rfl) rfl dX2_eat_34 ?_
  obtain ⟨o0_17, k_18, hF⟩ := gb1 hF
  refine j_callVv C (os' := [((shX2 N0), h0, o0_17)]) [.int r_13, .int r_15] (kX2_move g N0 h0 r_13 r_15 o0_11 k_18) [0] rfl rfl rfl rfl 0 rfl rfl (wl_gV mw_21_18 mw_21_19 mw_21_20 mw_1_22 mw_21_21) rfl 2 rfl hd_X2_move ⟨Nat.le_of_ble_eq_true rfl, Nat.le_of_ble_eq_true rfl⟩ (Nat.le_of_ble_eq_true rfl) rfl dX2_eat_37 ?_
  cases hF
  exact j_vret C Rk dX2_eat_40
/-! HeadsMeet$Graph.vanish -/
def BX2_vanish_16 (N0 : Nat) (x1 : Int32) (x2 : Int32) (x3 : Int32) (y1 : Int32) (y2 : Int32) (y3 : Int32) (o0 : Ob) : Option (Ob) :=
  b1 (FX2_port y2 y3) fun r_3 =>
  b1 (FX2_fuse N0 y1 r_3 o0) fun o0_5 =>
  b1 (FX2_port x1 (2 : Int32)) fun r_7 =>
  if x3 = 0 then
    b1 (FX2_port x2 (2 : Int32)) fun r_13 =>
    b1 (FX2_fuse N0 r_7 r_13 o0_5) fun o0_15 =>
    some o0_15
  else
    b1 (FX2_port x2 (1 : Int32)) fun r_9 =>
    b1 (FX2_fuse N0 r_7 r_9 o0_5) fun o0_11 =>
    some o0_11
def FX2_vanish (N0 : Nat) (x1 : Int32) (x2 : Int32) (x3 : Int32) (o0 : Ob) : Option (Ob) :=
  b1 (FX2_port x1 (1 : Int32)) fun r_1 =>
  if x3 = 0 then
    BX2_vanish_16 N0 x1 x2 x3 r_1 x2 (1 : Int32) o0
  else
    BX2_vanish_16 N0 x1 x2 x3 r_1 x2 (2 : Int32) o0
set_option maxRecDepth 100000 in
set_option maxHeartbeats 4000000 in
theorem bX2_vanish_16 {g : Gl} {X : Cxt} (C : CxOk g X cX2_vanish RX2 (Cond.code yX2_vanish cX2_vanish 4 none :: wsL_law) 4 2 44) {o0' : Ob} (N0 : Nat) (h0 : Nat → Nat) (x1 : Int32) (x2 : Int32) (x3 : Int32) (y1 : Int32) (y2 : Int32) (y3 : Int32) (o0 : Ob)  (Rk : RetOk g X [((shX2 N0), h0, o0')] none none)  (hF : BX2_vanish_16 N0  x1 x2 x3 y1 y2 y3 o0 = some o0') : J g X [((shX2 N0), h0, o0)] 16 [(0, .ref (h0 0)), (1, .int x1), (2, .int x2), (3, .int x3)] [.int y3, .int y2, .int y1, .ref (h0 0)] := by
  unfold BX2_vanish_16 at hF
  obtain ⟨r_3, k_4, hF⟩ := gb1 hF
  refine j_callSi C (os' := [((shX2 N0), h0, o0)]) [.int y2, .int y3] (kX2_port g y2 y3 k_4) [] rfl rfl rfl rfl (wl_gS mw_19_10 mw_9_7 mw_1_22 mw_9_8) rfl 2 rfl hd_X2_port ⟨Nat.le_of_ble_eq_true rfl, Nat.le_of_ble_eq_true rfl⟩ (Nat.le_of_ble_eq_true rfl) rfl dX2_vanish_16 ?_
  obtain ⟨o0_5, k_6, hF⟩ := gb1 hF
  refine j_callVv C (os' := [((shX2 N0), h0, o0_5)]) [.int y1, .int r_3] (kX2_fuse g N0 h0 y1 r_3 o0 k_6) [0] rfl rfl rfl rfl 0 rfl rfl (wl_gV mw_22_6 mw_17_1 mw_17_2 mw_1_22 mw_17_3) rfl 2 rfl hd_X2_fuse ⟨Nat.le_of_ble_eq_true rfl, Nat.le_of_ble_eq_true rfl⟩ (Nat.le_of_ble_eq_true rfl) rfl dX2_vanish_19 ?_
  refine j_aload_n C 0 dX2_vanish_22 rfl rfl ?_
  refine j_iload_n C 1 dX2_vanish_23 rfl rfl ?_
  refine j_iconst (v := (2 : Int32)) C dX2_vanish_24 rfl ?_
  obtain ⟨r_7, k_8, hF⟩ := gb1 hF
  refine j_callSi C (os' := [((shX2 N0), h0, o0_5)]) [.int x1, .int (2 : Int32)] (kX2_port g x1 (2 : Int32) k_8) [] rfl rfl rfl rfl (wl_gS mw_19_10 mw_9_7 mw_1_22 mw_9_8) rfl 2 rfl hd_X2_port ⟨Nat.le_of_ble_eq_true rfl, Nat.le_of_ble_eq_true rfl⟩ (Nat.le_of_ble_eq_true rfl) rfl dX2_vanish_25 ?_
  refine j_iload_n C 2 dX2_vanish_28 rfl rfl ?_
  refine j_iload_n C 3 dX2_vanish_29 rfl rfl ?_
  refine j_if_eq C 37 dX2_vanish_30 rfl (fun c_17 => ?_) (fun c_17 => ?_)
  · have hF := (if_pos c_17).symm.trans hF
    refine j_iconst (v := (2 : Int32)) C dX2_vanish_37 rfl ?_
    obtain ⟨r_13, k_14, hF⟩ := gb1 hF
    refine j_callSi C (os' := [((shX2 N0), h0, o0_5)]) [.int x2, .int (2 : Int32)] (kX2_port g x2 (2 : Int32) k_14) [] rfl rfl rfl rfl (wl_gS mw_19_10 mw_9_7 mw_1_22 mw_9_8) rfl 2 rfl hd_X2_port ⟨Nat.le_of_ble_eq_true rfl, Nat.le_of_ble_eq_true rfl⟩ (Nat.le_of_ble_eq_true rfl) rfl dX2_vanish_38 ?_
    obtain ⟨o0_15, k_16, hF⟩ := gb1 hF
    refine j_callVv C (os' := [((shX2 N0), h0, o0_15)]) [.int r_7, .int r_13] (kX2_fuse g N0 h0 r_7 r_13 o0_5 k_16) [0] rfl rfl rfl rfl 0 rfl rfl (wl_gV mw_22_6 mw_17_1 mw_17_2 mw_1_22 mw_17_3) rfl 2 rfl hd_X2_fuse ⟨Nat.le_of_ble_eq_true rfl, Nat.le_of_ble_eq_true rfl⟩ (Nat.le_of_ble_eq_true rfl) rfl dX2_vanish_41 ?_
    cases hF
    exact j_vret C Rk dX2_vanish_44
  · have hF := (if_neg c_17).symm.trans hF
    refine j_iconst (v := (1 : Int32)) C dX2_vanish_33 rfl ?_
    refine j_goto C 38 dX2_vanish_34 rfl ?_
    obtain ⟨r_9, k_10, hF⟩ := gb1 hF
    refine j_callSi C (os' := [((shX2 N0), h0, o0_5)]) [.int x2, .int (1 : Int32)] (kX2_port g x2 (1 : Int32) k_10) [] rfl rfl rfl rfl (wl_gS mw_19_10 mw_9_7 mw_1_22 mw_9_8) rfl 2 rfl hd_X2_port ⟨Nat.le_of_ble_eq_true rfl, Nat.le_of_ble_eq_true rfl⟩ (Nat.le_of_ble_eq_true rfl) rfl dX2_vanish_38 ?_
    obtain ⟨o0_11, k_12, hF⟩ := gb1 hF
    refine j_callVv C (os' := [((shX2 N0), h0, o0_11)]) [.int r_7, .int r_9] (kX2_fuse g N0 h0 r_7 r_9 o0_5 k_12) [0] rfl rfl rfl rfl 0 rfl rfl (wl_gV mw_22_6 mw_17_1 mw_17_2 mw_1_22 mw_17_3) rfl 2 rfl hd_X2_fuse ⟨Nat.le_of_ble_eq_true rfl, Nat.le_of_ble_eq_true rfl⟩ (Nat.le_of_ble_eq_true rfl) rfl dX2_vanish_41 ?_
    cases hF
    exact j_vret C Rk dX2_vanish_44
set_option maxRecDepth 100000 in
set_option maxHeartbeats 4000000 in
theorem kX2_vanish (g : Gl) (N0 : Nat) (h0 : Nat → Nat) (x1 : Int32) (x2 : Int32) (x3 : Int32) (o0 : Ob) {o0' : Ob} (hF : FX2_vanish N0 x1 x2 x3 o0 = some o0') : Ctr g yX2_vanish (Cond.code yX2_vanish cX2_vanish 4 none :: wsL_law) 2 44 [((shX2 N0), h0, o0)] [((shX2 N0), h0, o0')] [.ref (h0 0), .int x1, .int x2, .int x3] none := by
  refine Ctr.of (cc := cX2_vanish) (maxL := 4) (ret := none) (by decide) rfl (Nat.le_of_ble_eq_true rfl) ?_
  intro X C Rk
  replace C : CxOk g X cX2_vanish RX2 (Cond.code yX2_vanish cX2_vanish 4 none :: wsL_law) 4 2 44 := C
  show J g X [((shX2 N0), h0, o0)] 0 [(0, .ref (h0 0)), (1, .int x1), (2, .int x2), (3, .int x3)] []
  unfold FX2_vanish at hF
  refine j_aload_n C 0 dX2_vanish_0 rfl rfl ?_
  refine j_iload_n C 1 dX2_vanish_1 rfl rfl ?_
  refine j_iconst (v := (1 : Int32)) C dX2_vanish_2 rfl ?_
  obtain ⟨r_1, k_2, hF⟩ := gb1 hF
  refine j_callSi C (os' := [((shX2 N0), h0, o0)]) [.int x1, .int (1 : Int32)] (kX2_port g x1 (1 : Int32) k_2) [] rfl rfl rfl rfl (wl_gS mw_19_10 mw_9_7 mw_1_22 mw_9_8) rfl 2 rfl hd_X2_port ⟨Nat.le_of_ble_eq_true rfl, Nat.le_of_ble_eq_true rfl⟩ (Nat.le_of_ble_eq_true rfl) rfl dX2_vanish_3 ?_
  refine j_iload_n C 2 dX2_vanish_6 rfl rfl ?_
  refine j_iload_n C 3 dX2_vanish_7 rfl rfl ?_
  refine j_if_eq C 15 dX2_vanish_8 rfl (fun c_18 => ?_) (fun c_18 => ?_)
  · have hF := (if_pos c_18).symm.trans hF
    refine j_iconst (v := (1 : Int32)) C dX2_vanish_15 rfl ?_
    exact bX2_vanish_16 C N0 h0 _ _ _ _ _ _ _ Rk  hF
  · have hF := (if_neg c_18).symm.trans hF
    refine j_iconst (v := (2 : Int32)) C dX2_vanish_11 rfl ?_
    refine j_goto C 16 dX2_vanish_12 rfl ?_
    exact bX2_vanish_16 C N0 h0 _ _ _ _ _ _ _ Rk  hF
/-! HeadsMeet$Graph.perform -/
def BX2_perform_122 (N0 : Nat) (x5 : Int32) (o0 : Ob) : Option (Int32 × Ob) :=
  if x5 ≤ 0 then
    some (x5, o0)
  else
    if (4 : Int32) ≤ x5 then
      some (x5, o0)
    else
      if inb x5 4 then
      lT (sA o0 3 x5.toNatClampNeg ((oA o0 3 x5.toNatClampNeg) + (1 : Int32))) fun o0_25 =>
      lT (sA o0_25 3 (0 : Int32).toNatClampNeg ((oA o0_25 3 (0 : Int32).toNatClampNeg) + (1 : Int32))) fun o0_27 =>
      some (x5, o0_27)
      else none
def FX2_perform (N0 : Nat) (x1 : Int32) (o0 : Ob) : Option (Int32 × Ob) :=
  b1 (FX2_partnerOf N0 x1 o0) fun r_1 =>
  if r_1 = (-1 : Int32) then
    some ((-1 : Int32), o0)
  else
    b1 (FX2_kindOf N0 x1 o0) fun r_3 =>
    b1 (FX2_kindOf N0 r_1 o0) fun r_5 =>
    b1 (FX2_sortOf r_3 r_5) fun r_7 =>
    b1 (FX2_port x1 (0 : Int32)) fun r_9 =>
    b1 (FX2_vacate N0 r_9 o0) fun o0_11 =>
    b1 (FX2_port r_1 (0 : Int32)) fun r_13 =>
    b1 (FX2_vacate N0 r_13 o0_11) fun o0_15 =>
    b1 (FX2_remove N0 x1 o0_15) fun o0_17 =>
    b1 (FX2_remove N0 r_1 o0_17) fun o0_19 =>
    if r_7 = (2 : Int32) then
      b1 (FX2_copyEachOther N0 x1 r_3 r_1 r_5 o0_19) fun o0_21 =>
      BX2_perform_122 N0 r_7 o0_21
    else
      if r_7 = (3 : Int32) then
        if r_3 = 0 then
          b1 (FX2_eat N0 r_1 o0_19) fun o0_30 =>
          BX2_perform_122 N0 r_7 o0_30
        else
          b1 (FX2_eat N0 x1 o0_19) fun o0_32 =>
          BX2_perform_122 N0 r_7 o0_32
      else
        if r_3 = 0 then
          BX2_perform_122 N0 r_7 o0_19
        else
          if r_3 = (1 : Int32) then
            b1 (FX2_vanish N0 x1 r_1 (1 : Int32) o0_19) fun o0_35 =>
            BX2_perform_122 N0 r_7 o0_35
          else
            b1 (FX2_vanish N0 x1 r_1 (0 : Int32) o0_19) fun o0_37 =>
            BX2_perform_122 N0 r_7 o0_37
set_option maxRecDepth 100000 in
set_option maxHeartbeats 4000000 in
theorem bX2_perform_122 {g : Gl} {X : Cxt} (C : CxOk g X cX2_perform RX2 (Cond.code yX2_perform cX2_perform 6 (some .int) :: wsL_law) 6 3 73) {r : Int32} {o0' : Ob} (N0 : Nat) (h0 : Nat → Nat) (x5 : Int32) (o0 : Ob)  (Rk : RetOk g X [((shX2 N0), h0, o0')] (some (.int r)) (some .int))  (hF : BX2_perform_122 N0  x5 o0 = some (r, o0')) : J g X [((shX2 N0), h0, o0)] 122 [(0, .ref (h0 0)), (5, .int x5)] [] := by
  unfold BX2_perform_122 at hF
  refine j_iload C 1 dX2_perform_122 rfl ?_
  refine j_if_le C 158 dX2_perform_124 rfl (fun c_29 => ?_) (fun c_29 => ?_)
  · have hF := (if_pos c_29).symm.trans hF
    refine j_iload C 1 dX2_perform_158 rfl ?_
    cases hF
    exact j_iret C Rk dX2_perform_160
  · have hF := (if_neg c_29).symm.trans hF
    refine j_iload C 1 dX2_perform_127 rfl ?_
    refine j_aload_n C 0 dX2_perform_129 rfl rfl ?_
    refine j_get (v := .ref (h0 4)) C 0 3 rfl rfl (Nat.le_of_ble_eq_true rfl) rfl rfl in1_X2 (List.mem_cons_of_mem _ mw_3_7) dX2_perform_130 ?_
    refine j_alen (v := (4 : Int32)) C 0 3 rfl rfl rfl dX2_perform_133 ?_
    refine j_icmp_ge C 158 dX2_perform_134 rfl (fun c_28 => ?_) (fun c_28 => ?_)
    · have hF := (if_pos c_28).symm.trans hF
      refine j_iload C 1 dX2_perform_158 rfl ?_
      cases hF
      exact j_iret C Rk dX2_perform_160
    · have hF := (if_neg c_28).symm.trans hF
      refine j_aload_n C 0 dX2_perform_137 rfl rfl ?_
      refine j_get (v := .ref (h0 4)) C 0 3 rfl rfl (Nat.le_of_ble_eq_true rfl) rfl rfl in1_X2 (List.mem_cons_of_mem _ mw_3_7) dX2_perform_138 ?_
      refine j_iload C 1 dX2_perform_141 rfl ?_
      refine j_dup2 C rfl rfl dX2_perform_143 ?_
      obtain ⟨z_23, hF⟩ := gi hF
      refine j_iald C 0 3 rfl rfl z_23 dX2_perform_144 ?_
      refine j_iconst (v := (1 : Int32)) C dX2_perform_145 rfl ?_
      refine j_iadd C dX2_perform_146 ?_
      obtain ⟨o0_25, e_24, hF⟩ := glT hF
      refine j_iast C 0 3 rfl rfl z_23 [((shX2 N0), h0, o0_25)] (by rw [e_24]; rfl) dX2_perform_147 ?_
      refine j_aload_n C 0 dX2_perform_148 rfl rfl ?_
      refine j_get (v := .ref (h0 4)) C 0 3 rfl rfl (Nat.le_of_ble_eq_true rfl) rfl rfl in1_X2 (List.mem_cons_of_mem _ mw_3_7) dX2_perform_149 ?_
      refine j_iconst (v := (0 : Int32)) C dX2_perform_152 rfl ?_
      refine j_dup2 C rfl rfl dX2_perform_153 ?_
      refine j_iald C 0 3 rfl rfl (by decide) dX2_perform_154 ?_
      refine j_iconst (v := (1 : Int32)) C dX2_perform_155 rfl ?_
      refine j_iadd C dX2_perform_156 ?_
      obtain ⟨o0_27, e_26, hF⟩ := glT hF
      refine j_iast C 0 3 rfl rfl (by decide) [((shX2 N0), h0, o0_27)] (by rw [e_26]; rfl) dX2_perform_157 ?_
      refine j_iload C 1 dX2_perform_158 rfl ?_
      cases hF
      exact j_iret C Rk dX2_perform_160
set_option maxRecDepth 100000 in
set_option maxHeartbeats 4000000 in
theorem kX2_perform (g : Gl) (N0 : Nat) (h0 : Nat → Nat) (x1 : Int32) (o0 : Ob) {r : Int32} {o0' : Ob} (hF : FX2_perform N0 x1 o0 = some (r, o0')) : Ctr g yX2_perform (Cond.code yX2_perform cX2_perform 6 (some .int) :: wsL_law) 3 73 [((shX2 N0), h0, o0)] [((shX2 N0), h0, o0')] [.ref (h0 0), .int x1] (some (.int r)) := by
  refine Ctr.of (cc := cX2_perform) (maxL := 6) (ret := (some .int)) (by decide) rfl (Nat.le_of_ble_eq_true rfl) ?_
  intro X C Rk
  replace C : CxOk g X cX2_perform RX2 (Cond.code yX2_perform cX2_perform 6 (some .int) :: wsL_law) 6 3 73 := C
  show J g X [((shX2 N0), h0, o0)] 0 [(0, .ref (h0 0)), (1, .int x1)] []
  unfold FX2_perform at hF
  refine j_aload_n C 0 dX2_perform_0 rfl rfl ?_
  refine j_iload_n C 1 dX2_perform_1 rfl rfl ?_
  obtain ⟨r_1, k_2, hF⟩ := gb1 hF
  refine j_callVi C (os' := [((shX2 N0), h0, o0)]) [.int x1] (kX2_partnerOf g N0 h0 x1 o0 k_2) [0] rfl rfl rfl rfl 0 rfl rfl (wl_gV mw_21_4 mw_19_7 mw_19_8 mw_1_22 mw_19_9) rfl 1 rfl hd_X2_partnerOf ⟨Nat.le_of_ble_eq_true rfl, Nat.le_of_ble_eq_true rfl⟩ (Nat.le_of_ble_eq_true rfl) rfl dX2_perform_2 ?_
  refine j_istore_n C [(2, .int r_1), (0, .ref (h0 0)), (1, .int x1)] dX2_perform_5 rfl (Nat.le_of_ble_eq_true rfl) rfl rfl ?_
  refine j_iload_n C 0 dX2_perform_6 rfl rfl ?_
  refine j_iconst (v := (-1 : Int32)) C dX2_perform_7 rfl ?_
  refine j_icmp_ne C 13 dX2_perform_8 rfl (fun c_43 => ?_) (fun c_43 => ?_)
  · have hF := (if_neg c_43).symm.trans hF
    refine j_aload_n C 1 dX2_perform_13 rfl rfl ?_
    refine j_iload_n C 2 dX2_perform_14 rfl rfl ?_
    obtain ⟨r_3, k_4, hF⟩ := gb1 hF
    refine j_callVi C (os' := [((shX2 N0), h0, o0)]) [.int x1] (kX2_kindOf g N0 h0 x1 o0 k_4) [0] rfl rfl rfl rfl 0 rfl rfl (wl_gV mw_13_11 mw_13_12 mw_13_13 mw_1_22 mw_13_14) rfl 1 rfl hd_X2_kindOf ⟨Nat.le_of_ble_eq_true rfl, Nat.le_of_ble_eq_true rfl⟩ (Nat.le_of_ble_eq_true rfl) rfl dX2_perform_15 ?_
    refine j_istore_n C [(3, .int r_3), (2, .int r_1), (0, .ref (h0 0)), (1, .int x1)] dX2_perform_18 rfl (Nat.le_of_ble_eq_true rfl) rfl rfl ?_
    refine j_aload_n C 2 dX2_perform_19 rfl rfl ?_
    refine j_iload_n C 1 dX2_perform_20 rfl rfl ?_
    obtain ⟨r_5, k_6, hF⟩ := gb1 hF
    refine j_callVi C (os' := [((shX2 N0), h0, o0)]) [.int r_1] (kX2_kindOf g N0 h0 r_1 o0 k_6) [0] rfl rfl rfl rfl 0 rfl rfl (wl_gV mw_13_11 mw_13_12 mw_13_13 mw_1_22 mw_13_14) rfl 1 rfl hd_X2_kindOf ⟨Nat.le_of_ble_eq_true rfl, Nat.le_of_ble_eq_true rfl⟩ (Nat.le_of_ble_eq_true rfl) rfl dX2_perform_21 ?_
    refine j_istore C [(4, .int r_5), (3, .int r_3), (2, .int r_1), (0, .ref (h0 0)), (1, .int x1)] dX2_perform_24 (Nat.le_of_ble_eq_true rfl) rfl rfl ?_
    refine j_iload_n C 1 dX2_perform_26 rfl rfl ?_
    refine j_iload C 0 dX2_perform_27 rfl ?_
    obtain ⟨r_7, k_8, hF⟩ := gb1 hF
    refine j_callSi C (os' := [((shX2 N0), h0, o0)]) [.int r_3, .int r_5] (kX2_sortOf g r_3 r_5 k_8) [] rfl rfl rfl rfl (wl_gS mw_21_5 mw_21_6 mw_1_22 mw_21_7) rfl 2 rfl hd_X2_sortOf ⟨Nat.le_of_ble_eq_true rfl, Nat.le_of_ble_eq_true rfl⟩ (Nat.le_of_ble_eq_true rfl) rfl dX2_perform_29 ?_
    refine j_istore C [(5, .int r_7), (4, .int r_5), (3, .int r_3), (2, .int r_1), (0, .ref (h0 0)), (1, .int x1)] dX2_perform_32 (Nat.le_of_ble_eq_true rfl) rfl rfl ?_
    refine j_aload_n C 4 dX2_perform_34 rfl rfl ?_
    refine j_iload_n C 5 dX2_perform_35 rfl rfl ?_
    refine j_iconst (v := (0 : Int32)) C dX2_perform_36 rfl ?_
    obtain ⟨r_9, k_10, hF⟩ := gb1 hF
    refine j_callSi C (os' := [((shX2 N0), h0, o0)]) [.int x1, .int (0 : Int32)] (kX2_port g x1 (0 : Int32) k_10) [] rfl rfl rfl rfl (wl_gS mw_19_10 mw_9_7 mw_1_22 mw_9_8) rfl 2 rfl hd_X2_port ⟨Nat.le_of_ble_eq_true rfl, Nat.le_of_ble_eq_true rfl⟩ (Nat.le_of_ble_eq_true rfl) rfl dX2_perform_37 ?_
    obtain ⟨o0_11, k_12, hF⟩ := gb1 hF
    refine j_callVv C (os' := [((shX2 N0), h0, o0_11)]) [.int r_9] (kX2_vacate g N0 h0 r_9 o0 k_12) [0] rfl rfl rfl rfl 0 rfl rfl (wl_gV mw_17_9 mw_17_10 mw_17_11 mw_1_22 mw_17_12) rfl 1 rfl hd_X2_vacate ⟨Nat.le_of_ble_eq_true rfl, Nat.le_of_ble_eq_true rfl⟩ (Nat.le_of_ble_eq_true rfl) rfl dX2_perform_40 ?_
    refine j_aload_n C 4 dX2_perform_43 rfl rfl ?_
    refine j_iload_n C 3 dX2_perform_44 rfl rfl ?_
    refine j_iconst (v := (0 : Int32)) C dX2_perform_45 rfl ?_
    obtain ⟨r_13, k_14, hF⟩ := gb1 hF
    refine j_callSi C (os' := [((shX2 N0), h0, o0_11)]) [.int r_1, .int (0 : Int32)] (kX2_port g r_1 (0 : Int32) k_14) [] rfl rfl rfl rfl (wl_gS mw_19_10 mw_9_7 mw_1_22 mw_9_8) rfl 2 rfl hd_X2_port ⟨Nat.le_of_ble_eq_true rfl, Nat.le_of_ble_eq_true rfl⟩ (Nat.le_of_ble_eq_true rfl) rfl dX2_perform_46 ?_
    obtain ⟨o0_15, k_16, hF⟩ := gb1 hF
    refine j_callVv C (os' := [((shX2 N0), h0, o0_15)]) [.int r_13] (kX2_vacate g N0 h0 r_13 o0_11 k_16) [0] rfl rfl rfl rfl 0 rfl rfl (wl_gV mw_17_9 mw_17_10 mw_17_11 mw_1_22 mw_17_12) rfl 1 rfl hd_X2_vacate ⟨Nat.le_of_ble_eq_true rfl, Nat.le_of_ble_eq_true rfl⟩ (Nat.le_of_ble_eq_true rfl) rfl dX2_perform_49 ?_
    refine j_aload_n C 4 dX2_perform_52 rfl rfl ?_
    refine j_iload_n C 5 dX2_perform_53 rfl rfl ?_
    obtain ⟨o0_17, k_18, hF⟩ := gb1 hF
    refine j_callVv C (os' := [((shX2 N0), h0, o0_17)]) [.int x1] (kX2_remove g N0 h0 x1 o0_15 k_18) [0] rfl rfl rfl rfl 0 rfl rfl (wl_gV mw_21_8 mw_21_9 mw_21_10 mw_1_22 mw_21_11) rfl 1 rfl hd_X2_remove ⟨Nat.le_of_ble_eq_true rfl, Nat.le_of_ble_eq_true rfl⟩ (Nat.le_of_ble_eq_true rfl) rfl dX2_perform_54 ?_
    refine j_aload_n C 4 dX2_perform_57 rfl rfl ?_
    refine j_iload_n C 3 dX2_perform_58 rfl rfl ?_
    obtain ⟨o0_19, k_20, hF⟩ := gb1 hF
    refine j_callVv C (os' := [((shX2 N0), h0, o0_19)]) [.int r_1] (kX2_remove g N0 h0 r_1 o0_17 k_20) [0] rfl rfl rfl rfl 0 rfl rfl (wl_gV mw_21_8 mw_21_9 mw_21_10 mw_1_22 mw_21_11) rfl 1 rfl hd_X2_remove ⟨Nat.le_of_ble_eq_true rfl, Nat.le_of_ble_eq_true rfl⟩ (Nat.le_of_ble_eq_true rfl) rfl dX2_perform_59 ?_
    refine j_iload C 0 dX2_perform_62 rfl ?_
    refine j_iconst (v := (2 : Int32)) C dX2_perform_64 rfl ?_
    refine j_icmp_ne C 80 dX2_perform_65 rfl (fun c_42 => ?_) (fun c_42 => ?_)
    · have hF := (if_neg c_42).symm.trans hF
      refine j_iload C 0 dX2_perform_80 rfl ?_
      refine j_iconst (v := (3 : Int32)) C dX2_perform_82 rfl ?_
      refine j_icmp_ne C 102 dX2_perform_83 rfl (fun c_41 => ?_) (fun c_41 => ?_)
      · have hF := (if_neg c_41).symm.trans hF
        refine j_iload_n C 2 dX2_perform_102 rfl rfl ?_
        refine j_if_eq C 122 dX2_perform_103 rfl (fun c_40 => ?_) (fun c_40 => ?_)
        · have hF := (if_pos c_40).symm.trans hF
          refine j_sub [(0, .ref (h0 0)), (5, .int r_7)] [4, 0] rfl ?_
          exact bX2_perform_122 C N0 h0 _ _ Rk  hF
        · have hF := (if_neg c_40).symm.trans hF
          refine j_aload_n C 4 dX2_perform_106 rfl rfl ?_
          refine j_iload_n C 5 dX2_perform_107 rfl rfl ?_
          refine j_iload_n C 3 dX2_perform_108 rfl rfl ?_
          refine j_iload_n C 2 dX2_perform_109 rfl rfl ?_
          refine j_iconst (v := (1 : Int32)) C dX2_perform_110 rfl ?_
          refine j_icmp_ne C 118 dX2_perform_111 rfl (fun c_39 => ?_) (fun c_39 => ?_)
          · have hF := (if_neg c_39).symm.trans hF
            refine j_iconst (v := (0 : Int32)) C dX2_perform_118 rfl ?_
            obtain ⟨o0_37, k_38, hF⟩ := gb1 hF
            refine j_callVv C (os' := [((shX2 N0), h0, o0_37)]) [.int x1, .int r_1, .int (0 : Int32)] (kX2_vanish g N0 h0 x1 r_1 (0 : Int32) o0_19 k_38) [0] rfl rfl rfl rfl 0 rfl rfl (wl_gV mw_22_2 mw_22_3 mw_22_4 mw_1_22 mw_22_5) rfl 3 rfl hd_X2_vanish ⟨Nat.le_of_ble_eq_true rfl, Nat.le_of_ble_eq_true rfl⟩ (Nat.le_of_ble_eq_true rfl) rfl dX2_perform_119 ?_
            refine j_sub [(0, .ref (h0 0)), (5, .int r_7)] [4, 0] rfl ?_
            exact bX2_perform_122 C N0 h0 _ _ Rk  hF
          · have hF := (if_pos c_39).symm.trans hF
            refine j_iconst (v := (1 : Int32)) C dX2_perform_114 rfl ?_
            refine j_goto C 119 dX2_perform_115 rfl ?_
            obtain ⟨o0_35, k_36, hF⟩ := gb1 hF
            refine j_callVv C (os' := [((shX2 N0), h0, o0_35)]) [.int x1, .int r_1, .int (1 : Int32)] (kX2_vanish g N0 h0 x1 r_1 (1 : Int32) o0_19 k_36) [0] rfl rfl rfl rfl 0 rfl rfl (wl_gV mw_22_2 mw_22_3 mw_22_4 mw_1_22 mw_22_5) rfl 3 rfl hd_X2_vanish ⟨Nat.le_of_ble_eq_true rfl, Nat.le_of_ble_eq_true rfl⟩ (Nat.le_of_ble_eq_true rfl) rfl dX2_perform_119 ?_
            refine j_sub [(0, .ref (h0 0)), (5, .int r_7)] [4, 0] rfl ?_
            exact bX2_perform_122 C N0 h0 _ _ Rk  hF
      · have hF := (if_pos c_41).symm.trans hF
        refine j_aload_n C 4 dX2_perform_86 rfl rfl ?_
        refine j_iload_n C 2 dX2_perform_87 rfl rfl ?_
        refine j_if_ne C 95 dX2_perform_88 rfl (fun c_34 => ?_) (fun c_34 => ?_)
        · have hF := (if_neg c_34).symm.trans hF
          refine j_iload_n C 5 dX2_perform_95 rfl rfl ?_
          obtain ⟨o0_32, k_33, hF⟩ := gb1 hF
          refine j_callVv C (os' := [((shX2 N0), h0, o0_32)]) [.int x1] (kX2_eat g N0 h0 x1 o0_19 k_33) [0] rfl rfl rfl rfl 0 rfl rfl (wl_gV mw_21_22 mw_21_23 mw_22_0 mw_1_22 mw_22_1) rfl 1 rfl hd_X2_eat ⟨Nat.le_of_ble_eq_true rfl, Nat.le_of_ble_eq_true rfl⟩ (Nat.le_of_ble_eq_true rfl) rfl dX2_perform_96 ?_
          refine j_goto C 122 dX2_perform_99 rfl ?_
          refine j_sub [(0, .ref (h0 0)), (5, .int r_7)] [4, 0] rfl ?_
          exact bX2_perform_122 C N0 h0 _ _ Rk  hF
        · have hF := (if_pos c_34).symm.trans hF
          refine j_iload_n C 3 dX2_perform_91 rfl rfl ?_
          refine j_goto C 96 dX2_perform_92 rfl ?_
          obtain ⟨o0_30, k_31, hF⟩ := gb1 hF
          refine j_callVv C (os' := [((shX2 N0), h0, o0_30)]) [.int r_1] (kX2_eat g N0 h0 r_1 o0_19 k_31) [0] rfl rfl rfl rfl 0 rfl rfl (wl_gV mw_21_22 mw_21_23 mw_22_0 mw_1_22 mw_22_1) rfl 1 rfl hd_X2_eat ⟨Nat.le_of_ble_eq_true rfl, Nat.le_of_ble_eq_true rfl⟩ (Nat.le_of_ble_eq_true rfl) rfl dX2_perform_96 ?_
          refine j_goto C 122 dX2_perform_99 rfl ?_
          refine j_sub [(0, .ref (h0 0)), (5, .int r_7)] [4, 0] rfl ?_
          exact bX2_perform_122 C N0 h0 _ _ Rk  hF
    · have hF := (if_pos c_42).symm.trans hF
      refine j_aload_n C 4 dX2_perform_68 rfl rfl ?_
      refine j_iload_n C 5 dX2_perform_69 rfl rfl ?_
      refine j_iload_n C 2 dX2_perform_70 rfl rfl ?_
      refine j_iload_n C 3 dX2_perform_71 rfl rfl ?_
      refine j_iload C 1 dX2_perform_72 rfl ?_
      obtain ⟨o0_21, k_22, hF⟩ := gb1 hF
      refine j_callVv C (os' := [((shX2 N0), h0, o0_21)]) [.int x1, .int r_3, .int r_1, .int r_5] (kX2_copyEachOther g N0 h0 x1 r_3 r_1 r_5 o0_19 k_22) [0] rfl rfl rfl rfl 0 rfl rfl (wl_gV mw_21_13 mw_21_14 mw_21_15 mw_1_22 mw_21_16) rfl 4 rfl hd_X2_copyEachOther ⟨Nat.le_of_ble_eq_true rfl, Nat.le_of_ble_eq_true rfl⟩ (Nat.le_of_ble_eq_true rfl) rfl dX2_perform_74 ?_
      refine j_goto C 122 dX2_perform_77 rfl ?_
      refine j_sub [(0, .ref (h0 0)), (5, .int r_7)] [4, 0] rfl ?_
      exact bX2_perform_122 C N0 h0 _ _ Rk  hF
  · have hF := (if_pos c_43).symm.trans hF
    refine j_iconst (v := (-1 : Int32)) C dX2_perform_11 rfl ?_
    cases hF
    exact j_iret C Rk dX2_perform_12
/-! HeadsMeet$Graph.finish -/
def LX2_finish_49 (N0 : Nat) (x1 : Int32) (x2 : Int32) (E70 : Ob → Option (Int32 × Ob)) : Nat → Int32 → Ob → Option (Int32 × Ob)
  | 0, _, _ => none
  | n + 1, x3, o0 =>
    if x2 ≤ x3 then
      E70 o0
    else
      b1 (FX2_listedAt N0 x3 o0) fun r_7 =>
      b2 (FX2_perform N0 r_7 o0) fun r_9 o0_10 =>
      lT (x3 + (1 : Int32)) fun x3_12 =>
      LX2_finish_49 N0 x1 x2 E70 n x3_12 o0_10
def LX2_finish_10 (N0 : Nat) (E25 : Int32 → Ob → Option (Int32 × Ob)) : Nat → Int32 → Ob → Option (Int32 × Ob)
  | 0, _, _ => none
  | n + 1, x1, o0 =>
    if (60 : Int32) < x1 then
      some ((0 : Int32), o0)
    else
      b2 (FX2_listMeetings N0 o0) fun r_4 o0_5 =>
      if r_4 = 0 then
        E25 x1 o0_5
      else
        if ((oA o0_5 3 (0 : Int32).toNatClampNeg) + r_4) ≤ (60 : Int32) then
          LX2_finish_49 N0 x1 r_4 (fun o0_15 =>
           lT (x1 + (1 : Int32)) fun x1_16 =>
           LX2_finish_10 N0 E25 n x1_16 o0_15) fu (0 : Int32) o0_5
        else
          some ((0 : Int32), o0_5)
def FX2_finish (N0 : Nat)  (o0 : Ob) : Option (Int32 × Ob) :=
  if 4 < 2147483648 then
  lT (sR o0 3 (fl o0 3 4 (0 : Int32))) fun o0_3 =>
  LX2_finish_10 N0 (fun x1_21 o0_22 =>
   lT (sV o0_22 9 x1_21) fun o0_24 =>
   some ((1 : Int32), o0_24)) fu (0 : Int32) o0_3
  else none
set_option maxRecDepth 100000 in
set_option maxHeartbeats 4000000 in
theorem lX2_finish_49 {g : Gl} {X : Cxt} (C : CxOk g X cX2_finish RX2 (Cond.code yX2_finish cX2_finish 4 (some .boolean) :: wsL_law) 4 4 98) {r : Int32} {o0' : Ob} (N0 : Nat) (h0 : Nat → Nat) (x1 : Int32) (x2 : Int32) (E70 : Ob → Option (Int32 × Ob)) (Rk : RetOk g X [((shX2 N0), h0, o0')] (some (.int r)) (some .boolean)) (hE70 : ∀ (o0 : Ob), E70 o0 = some (r, o0') → J g X [((shX2 N0), h0, o0)] 70 [(0, .ref (h0 0)), (1, .int x1)] []) : ∀ (n : Nat) (x3 : Int32) (o0 : Ob), LX2_finish_49 N0 x1 x2 E70 n x3 o0 = some (r, o0') → J g X [((shX2 N0), h0, o0)] 49 [(0, .ref (h0 0)), (1, .int x1), (2, .int x2), (3, .int x3)] [] := by
  intro n
  induction n with
  | zero =>
    intro x3 o0 hF
    cases hF
  | succ n ih =>
    intro x3 o0 hF
    rw [LX2_finish_49.eq_2] at hF
    refine j_iload_n C 3 dX2_finish_49 rfl rfl ?_
    refine j_iload_n C 2 dX2_finish_50 rfl rfl ?_
    refine j_icmp_ge C 70 dX2_finish_51 rfl (fun c_14 => ?_) (fun c_14 => ?_)
    · have hF := (if_pos c_14).symm.trans hF
      refine j_sub [(0, .ref (h0 0)), (1, .int x1)] [0, 1] rfl ?_
      exact hE70 _ hF
    · have hF := (if_neg c_14).symm.trans hF
      refine j_aload_n C 0 dX2_finish_54 rfl rfl ?_
      refine j_aload_n C 0 dX2_finish_55 rfl rfl ?_
      refine j_iload_n C 3 dX2_finish_56 rfl rfl ?_
      obtain ⟨r_7, k_8, hF⟩ := gb1 hF
      refine j_callVi C (os' := [((shX2 N0), h0, o0)]) [.int x3] (kX2_listedAt g N0 h0 x3 o0 k_8) [0] rfl rfl rfl rfl 0 rfl rfl (wl_gV mw_20_20 mw_20_21 mw_20_22 mw_1_22 mw_20_23) rfl 1 rfl hd_X2_listedAt ⟨Nat.le_of_ble_eq_true rfl, Nat.le_of_ble_eq_true rfl⟩ (Nat.le_of_ble_eq_true rfl) rfl dX2_finish_57 ?_
      obtain ⟨r_9, o0_10, k_11, hF⟩ := gb2 hF
      refine j_callVi C (os' := [((shX2 N0), h0, o0_10)]) [.int r_7] (kX2_perform g N0 h0 r_7 o0 k_11) [0] rfl rfl rfl rfl 0 rfl rfl (wl_gV mw_21_0 mw_21_1 mw_21_2 mw_1_22 mw_21_3) rfl 1 rfl hd_X2_perform ⟨Nat.le_of_ble_eq_true rfl, Nat.le_of_ble_eq_true rfl⟩ (Nat.le_of_ble_eq_true rfl) rfl dX2_finish_60 ?_
      refine j_pop C rfl dX2_finish_63 ?_
      obtain ⟨x3_12, e_13, hF⟩ := glT hF
      refine j_iinc C 3 [(3, .int x3_12), (0, .ref (h0 0)), (1, .int x1), (2, .int x2)] dX2_finish_64 rfl e_13.symm (Nat.le_of_ble_eq_true rfl) rfl ?_
      refine j_goto C 49 dX2_finish_67 rfl ?_
      refine j_sub [(0, .ref (h0 0)), (1, .int x1), (2, .int x2), (3, .int x3_12)] [1, 2, 3, 0] rfl ?_
      exact ih _ _ hF
set_option maxRecDepth 100000 in
set_option maxHeartbeats 4000000 in
theorem lX2_finish_10 {g : Gl} {X : Cxt} (C : CxOk g X cX2_finish RX2 (Cond.code yX2_finish cX2_finish 4 (some .boolean) :: wsL_law) 4 4 98) {r : Int32} {o0' : Ob} (N0 : Nat) (h0 : Nat → Nat)  (E25 : Int32 → Ob → Option (Int32 × Ob)) (Rk : RetOk g X [((shX2 N0), h0, o0')] (some (.int r)) (some .boolean)) (hE25 : ∀ (x1 : Int32) (o0 : Ob), E25 x1 o0 = some (r, o0') → J g X [((shX2 N0), h0, o0)] 25 [(0, .ref (h0 0)), (1, .int x1)] []) : ∀ (n : Nat) (x1 : Int32) (o0 : Ob), LX2_finish_10 N0 E25 n x1 o0 = some (r, o0') → J g X [((shX2 N0), h0, o0)] 10 [(0, .ref (h0 0)), (1, .int x1)] [] := by
  intro n
  induction n with
  | zero =>
    intro x1 o0 hF
    cases hF
  | succ n ih =>
    intro x1 o0 hF
    rw [LX2_finish_10.eq_2] at hF
    refine j_iload_n C 1 dX2_finish_10 rfl rfl ?_
    refine j_bipush (v := (60 : Int32)) C dX2_finish_11 rfl ?_
    refine j_icmp_gt C 76 dX2_finish_13 rfl (fun c_20 => ?_) (fun c_20 => ?_)
    · have hF := (if_pos c_20).symm.trans hF
      refine j_iconst (v := (0 : Int32)) C dX2_finish_76 rfl ?_
      cases hF
      exact j_zret C rfl Rk dX2_finish_77
    · have hF := (if_neg c_20).symm.trans hF
      refine j_aload_n C 0 dX2_finish_16 rfl rfl ?_
      obtain ⟨r_4, o0_5, k_6, hF⟩ := gb2 hF
      refine j_callVi C (os' := [((shX2 N0), h0, o0_5)]) [] (kX2_listMeetings g N0 h0 o0 k_6) [0] rfl rfl rfl rfl 0 rfl rfl (wl_gV mw_20_15 mw_20_16 mw_20_17 mw_1_22 mw_20_18) rfl 0 rfl hd_X2_listMeetings ⟨Nat.le_of_ble_eq_true rfl, Nat.le_of_ble_eq_true rfl⟩ (Nat.le_of_ble_eq_true rfl) rfl dX2_finish_17 ?_
      refine j_istore_n C [(2, .int r_4), (0, .ref (h0 0)), (1, .int x1)] dX2_finish_20 rfl (Nat.le_of_ble_eq_true rfl) rfl rfl ?_
      refine j_iload_n C 0 dX2_finish_21 rfl rfl ?_
      refine j_if_ne C 32 dX2_finish_22 rfl (fun c_19 => ?_) (fun c_19 => ?_)
      · have hF := (if_neg c_19).symm.trans hF
        refine j_aload_n C 1 dX2_finish_32 rfl rfl ?_
        refine j_get (v := .ref (h0 4)) C 0 3 rfl rfl (Nat.le_of_ble_eq_true rfl) rfl rfl in1_X2 (List.mem_cons_of_mem _ mw_3_7) dX2_finish_33 ?_
        refine j_iconst (v := (0 : Int32)) C dX2_finish_36 rfl ?_
        refine j_iald C 0 3 rfl rfl (by decide) dX2_finish_37 ?_
        refine j_iload_n C 0 dX2_finish_38 rfl rfl ?_
        refine j_iadd C dX2_finish_39 ?_
        refine j_bipush (v := (60 : Int32)) C dX2_finish_40 rfl ?_
        refine j_icmp_le C 47 dX2_finish_42 rfl (fun c_18 => ?_) (fun c_18 => ?_)
        · have hF := (if_pos c_18).symm.trans hF
          refine j_iconst (v := (0 : Int32)) C dX2_finish_47 rfl ?_
          refine j_istore_n C [(3, .int (0 : Int32)), (2, .int r_4), (0, .ref (h0 0)), (1, .int x1)] dX2_finish_48 rfl (Nat.le_of_ble_eq_true rfl) rfl rfl ?_
          refine j_sub [(0, .ref (h0 0)), (1, .int x1), (2, .int r_4), (3, .int (0 : Int32))] [2, 3, 1, 0] rfl ?_
          refine lX2_finish_49 C N0 h0 x1 r_4 _ Rk (fun o0_15 hF => ?_) _ _ _ hF
          obtain ⟨x1_16, e_17, hF⟩ := glT hF
          refine j_iinc C 1 [(1, .int x1_16), (0, .ref (h0 0))] dX2_finish_70 rfl e_17.symm (Nat.le_of_ble_eq_true rfl) rfl ?_
          refine j_goto C 10 dX2_finish_73 rfl ?_
          refine j_sub [(0, .ref (h0 0)), (1, .int x1_16)] [1, 0] rfl ?_
          exact ih _ _ hF
        · have hF := (if_neg c_18).symm.trans hF
          refine j_iconst (v := (0 : Int32)) C dX2_finish_45 rfl ?_
          cases hF
          exact j_zret C rfl Rk dX2_finish_46
      · have hF := (if_pos c_19).symm.trans hF
        refine j_sub [(0, .ref (h0 0)), (1, .int x1)] [1, 2] rfl ?_
        exact hE25 _ _ hF
set_option maxRecDepth 100000 in
set_option maxHeartbeats 4000000 in
theorem kX2_finish (g : Gl) (N0 : Nat) (h0 : Nat → Nat)  (o0 : Ob) {r : Int32} {o0' : Ob} (hF : FX2_finish N0 o0 = some (r, o0')) : Ctr g yX2_finish (Cond.code yX2_finish cX2_finish 4 (some .boolean) :: wsL_law) 4 98 [((shX2 N0), h0, o0)] [((shX2 N0), h0, o0')] [.ref (h0 0)] (some (.int r)) := by
  refine Ctr.of (cc := cX2_finish) (maxL := 4) (ret := (some .boolean)) (by decide) rfl (Nat.le_of_ble_eq_true rfl) ?_
  intro X C Rk
  replace C : CxOk g X cX2_finish RX2 (Cond.code yX2_finish cX2_finish 4 (some .boolean) :: wsL_law) 4 4 98 := C
  show J g X [((shX2 N0), h0, o0)] 0 [(0, .ref (h0 0))] []
  unfold FX2_finish at hF
  refine j_aload_n C 0 dX2_finish_0 rfl rfl ?_
  refine j_get (v := .ref (h0 4)) C 0 3 rfl rfl (Nat.le_of_ble_eq_true rfl) rfl rfl in1_X2 (List.mem_cons_of_mem _ mw_3_7) dX2_finish_1 ?_
  refine j_iconst (v := (0 : Int32)) C dX2_finish_4 rfl ?_
  obtain ⟨z_1, hF⟩ := gi hF
  obtain ⟨o0_3, e_2, hF⟩ := glT hF
  refine j_callSv C (oc := [((shX2 N0), h0, o0)]) (os' := [((shX2 N0), h0, o0_3)]) [.ref (h0 4), .int (0 : Int32)] (c_fill g (shX2 N0) h0 o0 3 4 rfl z_1 (0 : Int32)) [0] rfl rfl rfl (by rw [e_2]; rfl) (wl_gS mw_3_11 mw_3_12 mw_3_13 mw_3_14) rfl 2 rfl hd_fill ⟨Nat.le_of_ble_eq_true rfl, Nat.le_of_ble_eq_true rfl⟩ (Nat.le_of_ble_eq_true rfl) rfl dX2_finish_5 ?_
  refine j_iconst (v := (0 : Int32)) C dX2_finish_8 rfl ?_
  refine j_istore_n C [(1, .int (0 : Int32)), (0, .ref (h0 0))] dX2_finish_9 rfl (Nat.le_of_ble_eq_true rfl) rfl rfl ?_
  refine j_sub [(0, .ref (h0 0)), (1, .int (0 : Int32))] [1, 0] rfl ?_
  refine lX2_finish_10 C N0 h0  _ Rk (fun x1_21 o0_22 hF => ?_) _ _ _ hF
  refine j_aload_n C 0 dX2_finish_25 rfl rfl ?_
  refine j_iload_n C 1 dX2_finish_26 rfl rfl ?_
  obtain ⟨o0_24, e_23, hF⟩ := glT hF
  refine j_putV C tyX2_ok nmX2 0 9 rfl rfl (Nat.le_of_ble_eq_true rfl) rfl in1_X2 (List.mem_cons_of_mem _ mw_20_14) rfl fd_X2_9 rfl rfl [((shX2 N0), h0, o0_24)] (by rw [e_23]; rfl) dX2_finish_27 ?_
  refine j_iconst (v := (1 : Int32)) C dX2_finish_30 rfl ?_
  cases hF
  exact j_zret C rfl Rk dX2_finish_31
/-! HeadsMeet$Graph.rounds -/
def FX2_rounds (N0 : Nat)  (o0 : Ob) : Option (Int32) :=
  some (oV o0 9)
set_option maxRecDepth 100000 in
set_option maxHeartbeats 4000000 in
theorem kX2_rounds (g : Gl) (N0 : Nat) (h0 : Nat → Nat)  (o0 : Ob) {r : Int32} (hF : FX2_rounds N0 o0 = some r) : Ctr g yX2_rounds (Cond.code yX2_rounds cX2_rounds 1 (some .int) :: wsL_law) 0 0 [((shX2 N0), h0, o0)] [((shX2 N0), h0, o0)] [.ref (h0 0)] (some (.int r)) := by
  refine Ctr.of (cc := cX2_rounds) (maxL := 1) (ret := (some .int)) (by decide) rfl (Nat.le_of_ble_eq_true rfl) ?_
  intro X C Rk
  replace C : CxOk g X cX2_rounds RX2 (Cond.code yX2_rounds cX2_rounds 1 (some .int) :: wsL_law) 1 0 0 := C
  show J g X [((shX2 N0), h0, o0)] 0 [(0, .ref (h0 0))] []
  unfold FX2_rounds at hF
  refine j_aload_n C 0 dX2_rounds_0 rfl rfl ?_
  refine j_get (v := .int (oV o0 9)) C 0 9 rfl rfl (Nat.le_of_ble_eq_true rfl) rfl rfl in1_X2 (List.mem_cons_of_mem _ mw_20_14) dX2_rounds_1 ?_
  cases hF
  exact j_iret C Rk dX2_rounds_4
/-! HeadsMeet$Graph.rings -/
def FX2_rings (N0 : Nat)  (o0 : Ob) : Option (Int32) :=
  some (oV o0 7)
set_option maxRecDepth 100000 in
set_option maxHeartbeats 4000000 in
theorem kX2_rings (g : Gl) (N0 : Nat) (h0 : Nat → Nat)  (o0 : Ob) {r : Int32} (hF : FX2_rings N0 o0 = some r) : Ctr g yX2_rings (Cond.code yX2_rings cX2_rings 1 (some .int) :: wsL_law) 0 0 [((shX2 N0), h0, o0)] [((shX2 N0), h0, o0)] [.ref (h0 0)] (some (.int r)) := by
  refine Ctr.of (cc := cX2_rings) (maxL := 1) (ret := (some .int)) (by decide) rfl (Nat.le_of_ble_eq_true rfl) ?_
  intro X C Rk
  replace C : CxOk g X cX2_rings RX2 (Cond.code yX2_rings cX2_rings 1 (some .int) :: wsL_law) 1 0 0 := C
  show J g X [((shX2 N0), h0, o0)] 0 [(0, .ref (h0 0))] []
  unfold FX2_rings at hF
  refine j_aload_n C 0 dX2_rings_0 rfl rfl ?_
  refine j_get (v := .int (oV o0 7)) C 0 7 rfl rfl (Nat.le_of_ble_eq_true rfl) rfl rfl in1_X2 (List.mem_cons_of_mem _ mw_8_2) dX2_rings_1 ?_
  cases hF
  exact j_iret C Rk dX2_rings_4
/-! HeadsMeet$Graph.done -/
def FX2_done (N0 : Nat) (x1 : Int32) (o0 : Ob) : Option (Int32) :=
  if x1 < 0 then
    some (-1 : Int32)
  else
    if (4 : Int32) ≤ x1 then
      some (-1 : Int32)
    else
      if inb x1 4 then
      some (oA o0 3 x1.toNatClampNeg)
      else none
set_option maxRecDepth 100000 in
set_option maxHeartbeats 4000000 in
theorem kX2_done (g : Gl) (N0 : Nat) (h0 : Nat → Nat) (x1 : Int32) (o0 : Ob) {r : Int32} (hF : FX2_done N0 x1 o0 = some r) : Ctr g yX2_done (Cond.code yX2_done cX2_done 2 (some .int) :: wsL_law) 0 0 [((shX2 N0), h0, o0)] [((shX2 N0), h0, o0)] [.ref (h0 0), .int x1] (some (.int r)) := by
  refine Ctr.of (cc := cX2_done) (maxL := 2) (ret := (some .int)) (by decide) rfl (Nat.le_of_ble_eq_true rfl) ?_
  intro X C Rk
  replace C : CxOk g X cX2_done RX2 (Cond.code yX2_done cX2_done 2 (some .int) :: wsL_law) 2 0 0 := C
  show J g X [((shX2 N0), h0, o0)] 0 [(0, .ref (h0 0)), (1, .int x1)] []
  unfold FX2_done at hF
  refine j_iload_n C 1 dX2_done_0 rfl rfl ?_
  refine j_if_lt C 22 dX2_done_1 rfl (fun c_3 => ?_) (fun c_3 => ?_)
  · have hF := (if_pos c_3).symm.trans hF
    refine j_iconst (v := (-1 : Int32)) C dX2_done_22 rfl ?_
    cases hF
    exact j_iret C Rk dX2_done_23
  · have hF := (if_neg c_3).symm.trans hF
    refine j_iload_n C 1 dX2_done_4 rfl rfl ?_
    refine j_aload_n C 0 dX2_done_5 rfl rfl ?_
    refine j_get (v := .ref (h0 4)) C 0 3 rfl rfl (Nat.le_of_ble_eq_true rfl) rfl rfl in1_X2 (List.mem_cons_of_mem _ mw_3_7) dX2_done_6 ?_
    refine j_alen (v := (4 : Int32)) C 0 3 rfl rfl rfl dX2_done_9 ?_
    refine j_icmp_ge C 22 dX2_done_10 rfl (fun c_2 => ?_) (fun c_2 => ?_)
    · have hF := (if_pos c_2).symm.trans hF
      refine j_iconst (v := (-1 : Int32)) C dX2_done_22 rfl ?_
      cases hF
      exact j_iret C Rk dX2_done_23
    · have hF := (if_neg c_2).symm.trans hF
      refine j_aload_n C 0 dX2_done_13 rfl rfl ?_
      refine j_get (v := .ref (h0 4)) C 0 3 rfl rfl (Nat.le_of_ble_eq_true rfl) rfl rfl in1_X2 (List.mem_cons_of_mem _ mw_3_7) dX2_done_14 ?_
      refine j_iload_n C 1 dX2_done_17 rfl rfl ?_
      obtain ⟨z_1, hF⟩ := gi hF
      refine j_iald C 0 3 rfl rfl z_1 dX2_done_18 ?_
      refine j_goto C 23 dX2_done_19 rfl ?_
      cases hF
      exact j_iret C Rk dX2_done_23
/-! HeadsMeet$Graph.isOpen -/
def FX2_isOpen (N0 : Nat) (x1 : Int32) (o0 : Ob) : Option (Int32) :=
  if x1 < 0 then
    some (0 : Int32)
  else
    if (8 : Int32) ≤ x1 then
      some (0 : Int32)
    else
      b1 (FX2_across N0 x1 o0) fun r_1 =>
      if r_1 = (-1 : Int32) then
        some (0 : Int32)
      else
        some (1 : Int32)
set_option maxRecDepth 100000 in
set_option maxHeartbeats 4000000 in
theorem kX2_isOpen (g : Gl) (N0 : Nat) (h0 : Nat → Nat) (x1 : Int32) (o0 : Ob) {r : Int32} (hF : FX2_isOpen N0 x1 o0 = some r) : Ctr g yX2_isOpen (Cond.code yX2_isOpen cX2_isOpen 2 (some .boolean) :: wsL_law) 1 21 [((shX2 N0), h0, o0)] [((shX2 N0), h0, o0)] [.ref (h0 0), .int x1] (some (.int r)) := by
  refine Ctr.of (cc := cX2_isOpen) (maxL := 2) (ret := (some .boolean)) (by decide) rfl (Nat.le_of_ble_eq_true rfl) ?_
  intro X C Rk
  replace C : CxOk g X cX2_isOpen RX2 (Cond.code yX2_isOpen cX2_isOpen 2 (some .boolean) :: wsL_law) 2 1 21 := C
  show J g X [((shX2 N0), h0, o0)] 0 [(0, .ref (h0 0)), (1, .int x1)] []
  unfold FX2_isOpen at hF
  refine j_iload_n C 1 dX2_isOpen_0 rfl rfl ?_
  refine j_if_lt C 23 dX2_isOpen_1 rfl (fun c_5 => ?_) (fun c_5 => ?_)
  · have hF := (if_pos c_5).symm.trans hF
    refine j_iconst (v := (0 : Int32)) C dX2_isOpen_23 rfl ?_
    cases hF
    exact j_zret C rfl Rk dX2_isOpen_24
  · have hF := (if_neg c_5).symm.trans hF
    refine j_iload_n C 1 dX2_isOpen_4 rfl rfl ?_
    refine j_bipush (v := (8 : Int32)) C dX2_isOpen_5 rfl ?_
    refine j_icmp_ge C 23 dX2_isOpen_7 rfl (fun c_4 => ?_) (fun c_4 => ?_)
    · have hF := (if_pos c_4).symm.trans hF
      refine j_iconst (v := (0 : Int32)) C dX2_isOpen_23 rfl ?_
      cases hF
      exact j_zret C rfl Rk dX2_isOpen_24
    · have hF := (if_neg c_4).symm.trans hF
      refine j_aload_n C 0 dX2_isOpen_10 rfl rfl ?_
      refine j_iload_n C 1 dX2_isOpen_11 rfl rfl ?_
      obtain ⟨r_1, k_2, hF⟩ := gb1 hF
      refine j_callVi C (os' := [((shX2 N0), h0, o0)]) [.int x1] (kX2_across g N0 h0 x1 o0 k_2) [0] rfl rfl rfl rfl 0 rfl rfl (wl_gV mw_17_4 mw_17_5 mw_17_6 mw_1_22 mw_17_7) rfl 1 rfl hd_X2_across ⟨Nat.le_of_ble_eq_true rfl, Nat.le_of_ble_eq_true rfl⟩ (Nat.le_of_ble_eq_true rfl) rfl dX2_isOpen_12 ?_
      refine j_iconst (v := (-1 : Int32)) C dX2_isOpen_15 rfl ?_
      refine j_icmp_eq C 23 dX2_isOpen_16 rfl (fun c_3 => ?_) (fun c_3 => ?_)
      · have hF := (if_pos c_3).symm.trans hF
        refine j_iconst (v := (0 : Int32)) C dX2_isOpen_23 rfl ?_
        cases hF
        exact j_zret C rfl Rk dX2_isOpen_24
      · have hF := (if_neg c_3).symm.trans hF
        refine j_iconst (v := (1 : Int32)) C dX2_isOpen_19 rfl ?_
        refine j_goto C 24 dX2_isOpen_20 rfl ?_
        cases hF
        exact j_zret C rfl Rk dX2_isOpen_24
/-! HeadsMeet$Graph.swapSides -/
def FX2_swapSides (N0 : Nat) (x1 : Int32) (o0 : Ob) : Option (Ob) :=
  b1 (FX2_port x1 (1 : Int32)) fun r_1 =>
  b1 (FX2_port x1 (2 : Int32)) fun r_3 =>
  b1 (FX2_across N0 r_1 o0) fun r_5 =>
  b1 (FX2_across N0 r_3 o0) fun r_7 =>
  if r_5 = r_3 then
    some o0
  else
    b1 (FX2_link N0 r_1 r_7 o0) fun o0_9 =>
    b1 (FX2_link N0 r_3 r_5 o0_9) fun o0_11 =>
    some o0_11
set_option maxRecDepth 100000 in
set_option maxHeartbeats 4000000 in
theorem kX2_swapSides (g : Gl) (N0 : Nat) (h0 : Nat → Nat) (x1 : Int32) (o0 : Ob) {o0' : Ob} (hF : FX2_swapSides N0 x1 o0 = some o0') : Ctr g yX2_swapSides (Cond.code yX2_swapSides cX2_swapSides 6 none :: wsL_law) 1 22 [((shX2 N0), h0, o0)] [((shX2 N0), h0, o0')] [.ref (h0 0), .int x1] none := by
  refine Ctr.of (cc := cX2_swapSides) (maxL := 6) (ret := none) (by decide) rfl (Nat.le_of_ble_eq_true rfl) ?_
  intro X C Rk
  replace C : CxOk g X cX2_swapSides RX2 (Cond.code yX2_swapSides cX2_swapSides 6 none :: wsL_law) 6 1 22 := C
  show J g X [((shX2 N0), h0, o0)] 0 [(0, .ref (h0 0)), (1, .int x1)] []
  unfold FX2_swapSides at hF
  refine j_iload_n C 1 dX2_swapSides_0 rfl rfl ?_
  refine j_iconst (v := (1 : Int32)) C dX2_swapSides_1 rfl ?_
  obtain ⟨r_1, k_2, hF⟩ := gb1 hF
  refine j_callSi C (os' := [((shX2 N0), h0, o0)]) [.int x1, .int (1 : Int32)] (kX2_port g x1 (1 : Int32) k_2) [] rfl rfl rfl rfl (wl_gS mw_19_10 mw_9_7 mw_1_22 mw_9_8) rfl 2 rfl hd_X2_port ⟨Nat.le_of_ble_eq_true rfl, Nat.le_of_ble_eq_true rfl⟩ (Nat.le_of_ble_eq_true rfl) rfl dX2_swapSides_2 ?_
  refine j_istore_n C [(2, .int r_1), (0, .ref (h0 0)), (1, .int x1)] dX2_swapSides_5 rfl (Nat.le_of_ble_eq_true rfl) rfl rfl ?_
  refine j_iload_n C 2 dX2_swapSides_6 rfl rfl ?_
  refine j_iconst (v := (2 : Int32)) C dX2_swapSides_7 rfl ?_
  obtain ⟨r_3, k_4, hF⟩ := gb1 hF
  refine j_callSi C (os' := [((shX2 N0), h0, o0)]) [.int x1, .int (2 : Int32)] (kX2_port g x1 (2 : Int32) k_4) [] rfl rfl rfl rfl (wl_gS mw_19_10 mw_9_7 mw_1_22 mw_9_8) rfl 2 rfl hd_X2_port ⟨Nat.le_of_ble_eq_true rfl, Nat.le_of_ble_eq_true rfl⟩ (Nat.le_of_ble_eq_true rfl) rfl dX2_swapSides_8 ?_
  refine j_istore_n C [(3, .int r_3), (2, .int r_1), (0, .ref (h0 0)), (1, .int x1)] dX2_swapSides_11 rfl (Nat.le_of_ble_eq_true rfl) rfl rfl ?_
  refine j_aload_n C 2 dX2_swapSides_12 rfl rfl ?_
  refine j_iload_n C 1 dX2_swapSides_13 rfl rfl ?_
  obtain ⟨r_5, k_6, hF⟩ := gb1 hF
  refine j_callVi C (os' := [((shX2 N0), h0, o0)]) [.int r_1] (kX2_across g N0 h0 r_1 o0 k_6) [0] rfl rfl rfl rfl 0 rfl rfl (wl_gV mw_17_4 mw_17_5 mw_17_6 mw_1_22 mw_17_7) rfl 1 rfl hd_X2_across ⟨Nat.le_of_ble_eq_true rfl, Nat.le_of_ble_eq_true rfl⟩ (Nat.le_of_ble_eq_true rfl) rfl dX2_swapSides_14 ?_
  refine j_istore C [(4, .int r_5), (3, .int r_3), (2, .int r_1), (0, .ref (h0 0)), (1, .int x1)] dX2_swapSides_17 (Nat.le_of_ble_eq_true rfl) rfl rfl ?_
  refine j_aload_n C 3 dX2_swapSides_19 rfl rfl ?_
  refine j_iload_n C 1 dX2_swapSides_20 rfl rfl ?_
  obtain ⟨r_7, k_8, hF⟩ := gb1 hF
  refine j_callVi C (os' := [((shX2 N0), h0, o0)]) [.int r_3] (kX2_across g N0 h0 r_3 o0 k_8) [0] rfl rfl rfl rfl 0 rfl rfl (wl_gV mw_17_4 mw_17_5 mw_17_6 mw_1_22 mw_17_7) rfl 1 rfl hd_X2_across ⟨Nat.le_of_ble_eq_true rfl, Nat.le_of_ble_eq_true rfl⟩ (Nat.le_of_ble_eq_true rfl) rfl dX2_swapSides_21 ?_
  refine j_istore C [(5, .int r_7), (4, .int r_5), (3, .int r_3), (2, .int r_1), (0, .ref (h0 0)), (1, .int x1)] dX2_swapSides_24 (Nat.le_of_ble_eq_true rfl) rfl rfl ?_
  refine j_iload C 1 dX2_swapSides_26 rfl ?_
  refine j_iload_n C 2 dX2_swapSides_28 rfl rfl ?_
  refine j_icmp_eq C 46 dX2_swapSides_29 rfl (fun c_13 => ?_) (fun c_13 => ?_)
  · have hF := (if_pos c_13).symm.trans hF
    cases hF
    exact j_vret C Rk dX2_swapSides_46
  · have hF := (if_neg c_13).symm.trans hF
    refine j_aload_n C 4 dX2_swapSides_32 rfl rfl ?_
    refine j_iload_n C 3 dX2_swapSides_33 rfl rfl ?_
    refine j_iload C 0 dX2_swapSides_34 rfl ?_
    obtain ⟨o0_9, k_10, hF⟩ := gb1 hF
    refine j_callVv C (os' := [((shX2 N0), h0, o0_9)]) [.int r_1, .int r_7] (kX2_link g N0 h0 r_1 r_7 o0 k_10) [0] rfl rfl rfl rfl 0 rfl rfl (wl_gV mw_17_8 mw_9_10 mw_9_11 mw_1_22 mw_9_12) rfl 2 rfl hd_X2_link ⟨Nat.le_of_ble_eq_true rfl, Nat.le_of_ble_eq_true rfl⟩ (Nat.le_of_ble_eq_true rfl) rfl dX2_swapSides_36 ?_
    refine j_aload_n C 4 dX2_swapSides_39 rfl rfl ?_
    refine j_iload_n C 2 dX2_swapSides_40 rfl rfl ?_
    refine j_iload C 1 dX2_swapSides_41 rfl ?_
    obtain ⟨o0_11, k_12, hF⟩ := gb1 hF
    refine j_callVv C (os' := [((shX2 N0), h0, o0_11)]) [.int r_3, .int r_5] (kX2_link g N0 h0 r_3 r_5 o0_9 k_12) [0] rfl rfl rfl rfl 0 rfl rfl (wl_gV mw_17_8 mw_9_10 mw_9_11 mw_1_22 mw_9_12) rfl 2 rfl hd_X2_link ⟨Nat.le_of_ble_eq_true rfl, Nat.le_of_ble_eq_true rfl⟩ (Nat.le_of_ble_eq_true rfl) rfl dX2_swapSides_43 ?_
    cases hF
    exact j_vret C Rk dX2_swapSides_46
/-! HeadsMeet$Graph.hasOpenWiresOf -/
def LX2_hasOpenWiresOf_2 (N0 : Nat) (N1 : Nat) (o0 : Ob) (o1 : Ob) : Nat → Int32 → Option (Int32)
  | 0, _ => none
  | n + 1, x2 =>
    if (8 : Int32) ≤ x2 then
      some (1 : Int32)
    else
      b1 (FX2_isOpen N0 x2 o0) fun r_1 =>
      b1 (FX2_isOpen N1 x2 o1) fun r_3 =>
      if r_1 = r_3 then
        lT (x2 + (1 : Int32)) fun x2_5 =>
        LX2_hasOpenWiresOf_2 N0 N1 o0 o1 n x2_5
      else
        some (0 : Int32)
def FX2_hasOpenWiresOf (N0 : Nat) (N1 : Nat)  (o0 : Ob) (o1 : Ob) : Option (Int32) :=
  LX2_hasOpenWiresOf_2 N0 N1 o0 o1 fu (0 : Int32)
set_option maxRecDepth 100000 in
set_option maxHeartbeats 4000000 in
theorem lX2_hasOpenWiresOf_2 {g : Gl} {X : Cxt} (C : CxOk g X cX2_hasOpenWiresOf RX2 (Cond.code yX2_hasOpenWiresOf cX2_hasOpenWiresOf 3 (some .boolean) :: wsL_law) 3 2 42) {r : Int32} (N0 : Nat) (N1 : Nat) (h0 : Nat → Nat) (h1 : Nat → Nat) (o0 : Ob) (o1 : Ob)  (Rk : RetOk g X [((shX2 N0), h0, o0), ((shX2 N1), h1, o1)] (some (.int r)) (some .boolean))  : ∀ (n : Nat) (x2 : Int32), LX2_hasOpenWiresOf_2 N0 N1 o0 o1 n x2 = some r → J g X [((shX2 N0), h0, o0), ((shX2 N1), h1, o1)] 2 [(0, .ref (h0 0)), (1, .ref (h1 0)), (2, .int x2)] [] := by
  intro n
  induction n with
  | zero =>
    intro x2 hF
    cases hF
  | succ n ih =>
    intro x2 hF
    rw [LX2_hasOpenWiresOf_2.eq_2] at hF
    refine j_iload_n C 2 dX2_hasOpenWiresOf_2 rfl rfl ?_
    refine j_bipush (v := (8 : Int32)) C dX2_hasOpenWiresOf_3 rfl ?_
    refine j_icmp_ge C 29 dX2_hasOpenWiresOf_5 rfl (fun c_8 => ?_) (fun c_8 => ?_)
    · have hF := (if_pos c_8).symm.trans hF
      refine j_iconst (v := (1 : Int32)) C dX2_hasOpenWiresOf_29 rfl ?_
      cases hF
      exact j_zret C rfl Rk dX2_hasOpenWiresOf_30
    · have hF := (if_neg c_8).symm.trans hF
      refine j_aload_n C 0 dX2_hasOpenWiresOf_8 rfl rfl ?_
      refine j_iload_n C 2 dX2_hasOpenWiresOf_9 rfl rfl ?_
      obtain ⟨r_1, k_2, hF⟩ := gb1 hF
      refine j_callVi C (os' := [((shX2 N0), h0, o0), ((shX2 N1), h1, o1)]) [.int x2] (kX2_isOpen g N0 h0 x2 o0 k_2) [0] rfl rfl rfl rfl 0 rfl rfl (wl_gV mw_37_20 mw_29_10 mw_29_11 mw_1_22 mw_29_12) rfl 1 rfl hd_X2_isOpen ⟨Nat.le_of_ble_eq_true rfl, Nat.le_of_ble_eq_true rfl⟩ (Nat.le_of_ble_eq_true rfl) rfl dX2_hasOpenWiresOf_10 ?_
      refine j_aload_n C 1 dX2_hasOpenWiresOf_13 rfl rfl ?_
      refine j_iload_n C 2 dX2_hasOpenWiresOf_14 rfl rfl ?_
      obtain ⟨r_3, k_4, hF⟩ := gb1 hF
      refine j_callVi C (os' := [((shX2 N0), h0, o0), ((shX2 N1), h1, o1)]) [.int x2] (kX2_isOpen g N1 h1 x2 o1 k_4) [1] rfl rfl rfl rfl 1 rfl rfl (wl_gV mw_37_20 mw_29_10 mw_29_11 mw_1_22 mw_29_12) rfl 1 rfl hd_X2_isOpen ⟨Nat.le_of_ble_eq_true rfl, Nat.le_of_ble_eq_true rfl⟩ (Nat.le_of_ble_eq_true rfl) rfl dX2_hasOpenWiresOf_15 ?_
      refine j_icmp_eq C 23 dX2_hasOpenWiresOf_18 rfl (fun c_7 => ?_) (fun c_7 => ?_)
      · have hF := (if_pos c_7).symm.trans hF
        obtain ⟨x2_5, e_6, hF⟩ := glT hF
        refine j_iinc C 2 [(2, .int x2_5), (0, .ref (h0 0)), (1, .ref (h1 0))] dX2_hasOpenWiresOf_23 rfl e_6.symm (Nat.le_of_ble_eq_true rfl) rfl ?_
        refine j_goto C 2 dX2_hasOpenWiresOf_26 rfl ?_
        refine j_sub [(0, .ref (h0 0)), (1, .ref (h1 0)), (2, .int x2_5)] [1, 2, 0] rfl ?_
        exact ih _ hF
      · have hF := (if_neg c_7).symm.trans hF
        refine j_iconst (v := (0 : Int32)) C dX2_hasOpenWiresOf_21 rfl ?_
        cases hF
        exact j_zret C rfl Rk dX2_hasOpenWiresOf_22
set_option maxRecDepth 100000 in
set_option maxHeartbeats 4000000 in
theorem kX2_hasOpenWiresOf (g : Gl) (N0 : Nat) (N1 : Nat) (h0 : Nat → Nat) (h1 : Nat → Nat)  (o0 : Ob) (o1 : Ob) {r : Int32} (hF : FX2_hasOpenWiresOf N0 N1 o0 o1 = some r) : Ctr g yX2_hasOpenWiresOf (Cond.code yX2_hasOpenWiresOf cX2_hasOpenWiresOf 3 (some .boolean) :: wsL_law) 2 42 [((shX2 N0), h0, o0), ((shX2 N1), h1, o1)] [((shX2 N0), h0, o0), ((shX2 N1), h1, o1)] [.ref (h0 0), .ref (h1 0)] (some (.int r)) := by
  refine Ctr.of (cc := cX2_hasOpenWiresOf) (maxL := 3) (ret := (some .boolean)) (by decide) rfl (Nat.le_of_ble_eq_true rfl) ?_
  intro X C Rk
  replace C : CxOk g X cX2_hasOpenWiresOf RX2 (Cond.code yX2_hasOpenWiresOf cX2_hasOpenWiresOf 3 (some .boolean) :: wsL_law) 3 2 42 := C
  show J g X [((shX2 N0), h0, o0), ((shX2 N1), h1, o1)] 0 [(0, .ref (h0 0)), (1, .ref (h1 0))] []
  unfold FX2_hasOpenWiresOf at hF
  refine j_iconst (v := (0 : Int32)) C dX2_hasOpenWiresOf_0 rfl ?_
  refine j_istore_n C [(2, .int (0 : Int32)), (0, .ref (h0 0)), (1, .ref (h1 0))] dX2_hasOpenWiresOf_1 rfl (Nat.le_of_ble_eq_true rfl) rfl rfl ?_
  refine j_sub [(0, .ref (h0 0)), (1, .ref (h1 0)), (2, .int (0 : Int32))] [1, 2, 0] rfl ?_
  refine lX2_hasOpenWiresOf_2 C N0 N1 h0 h1 o0 o1 Rk  _ _ hF
/-! HeadsMeet$Graph.nodesOfKind -/
def LX2_nodesOfKind_4 (N0 : Nat) (x1 : Int32) (o0 : Ob) : Nat → Int32 → Int32 → Option (Int32)
  | 0, _, _ => none
  | n + 1, x2, x3 =>
    if (oV o0 4) ≤ x3 then
      some x2
    else
      b1 (FX2_kindOf N0 x3 o0) fun r_1 =>
      if r_1 = x1 then
        lT (x2 + (1 : Int32)) fun x2_3 =>
        lT (x3 + (1 : Int32)) fun x3_5 =>
        LX2_nodesOfKind_4 N0 x1 o0 n x2_3 x3_5
      else
        lT (x2 + (0 : Int32)) fun x2_7 =>
        lT (x3 + (1 : Int32)) fun x3_9 =>
        LX2_nodesOfKind_4 N0 x1 o0 n x2_7 x3_9
def FX2_nodesOfKind (N0 : Nat) (x1 : Int32) (o0 : Ob) : Option (Int32) :=
  LX2_nodesOfKind_4 N0 x1 o0 fu (0 : Int32) (0 : Int32)
set_option maxRecDepth 100000 in
set_option maxHeartbeats 4000000 in
theorem lX2_nodesOfKind_4 {g : Gl} {X : Cxt} (C : CxOk g X cX2_nodesOfKind RX2 (Cond.code yX2_nodesOfKind cX2_nodesOfKind 4 (some .int) :: wsL_law) 4 1 21) {r : Int32} (N0 : Nat) (h0 : Nat → Nat) (x1 : Int32) (o0 : Ob)  (Rk : RetOk g X [((shX2 N0), h0, o0)] (some (.int r)) (some .int))  : ∀ (n : Nat) (x2 : Int32) (x3 : Int32), LX2_nodesOfKind_4 N0 x1 o0 n x2 x3 = some r → J g X [((shX2 N0), h0, o0)] 4 [(0, .ref (h0 0)), (1, .int x1), (2, .int x2), (3, .int x3)] [] := by
  intro n
  induction n with
  | zero =>
    intro x2 x3 hF
    cases hF
  | succ n ih =>
    intro x2 x3 hF
    rw [LX2_nodesOfKind_4.eq_2] at hF
    refine j_iload_n C 3 dX2_nodesOfKind_4 rfl rfl ?_
    refine j_aload_n C 0 dX2_nodesOfKind_5 rfl rfl ?_
    refine j_get (v := .int (oV o0 4)) C 0 4 rfl rfl (Nat.le_of_ble_eq_true rfl) rfl rfl in1_X2 (List.mem_cons_of_mem _ mw_7_23) dX2_nodesOfKind_6 ?_
    refine j_icmp_ge C 35 dX2_nodesOfKind_9 rfl (fun c_12 => ?_) (fun c_12 => ?_)
    · have hF := (if_pos c_12).symm.trans hF
      refine j_iload_n C 2 dX2_nodesOfKind_35 rfl rfl ?_
      cases hF
      exact j_iret C Rk dX2_nodesOfKind_36
    · have hF := (if_neg c_12).symm.trans hF
      refine j_iload_n C 2 dX2_nodesOfKind_12 rfl rfl ?_
      refine j_aload_n C 0 dX2_nodesOfKind_13 rfl rfl ?_
      refine j_iload_n C 3 dX2_nodesOfKind_14 rfl rfl ?_
      obtain ⟨r_1, k_2, hF⟩ := gb1 hF
      refine j_callVi C (os' := [((shX2 N0), h0, o0)]) [.int x3] (kX2_kindOf g N0 h0 x3 o0 k_2) [0] rfl rfl rfl rfl 0 rfl rfl (wl_gV mw_13_11 mw_13_12 mw_13_13 mw_1_22 mw_13_14) rfl 1 rfl hd_X2_kindOf ⟨Nat.le_of_ble_eq_true rfl, Nat.le_of_ble_eq_true rfl⟩ (Nat.le_of_ble_eq_true rfl) rfl dX2_nodesOfKind_15 ?_
      refine j_iload_n C 1 dX2_nodesOfKind_18 rfl rfl ?_
      refine j_icmp_ne C 26 dX2_nodesOfKind_19 rfl (fun c_11 => ?_) (fun c_11 => ?_)
      · have hF := (if_neg c_11).symm.trans hF
        refine j_iconst (v := (0 : Int32)) C dX2_nodesOfKind_26 rfl ?_
        refine j_iadd C dX2_nodesOfKind_27 ?_
        obtain ⟨x2_7, e_8, hF⟩ := glT hF
        refine j_istore_n C [(2, .int x2_7), (0, .ref (h0 0)), (1, .int x1), (3, .int x3)] dX2_nodesOfKind_28 rfl (Nat.le_of_ble_eq_true rfl) e_8 rfl ?_
        obtain ⟨x3_9, e_10, hF⟩ := glT hF
        refine j_iinc C 3 [(3, .int x3_9), (2, .int x2_7), (0, .ref (h0 0)), (1, .int x1)] dX2_nodesOfKind_29 rfl e_10.symm (Nat.le_of_ble_eq_true rfl) rfl ?_
        refine j_goto C 4 dX2_nodesOfKind_32 rfl ?_
        refine j_sub [(0, .ref (h0 0)), (1, .int x1), (2, .int x2_7), (3, .int x3_9)] [2, 3, 1, 0] rfl ?_
        exact ih _ _ hF
      · have hF := (if_pos c_11).symm.trans hF
        refine j_iconst (v := (1 : Int32)) C dX2_nodesOfKind_22 rfl ?_
        refine j_goto C 27 dX2_nodesOfKind_23 rfl ?_
        refine j_iadd C dX2_nodesOfKind_27 ?_
        obtain ⟨x2_3, e_4, hF⟩ := glT hF
        refine j_istore_n C [(2, .int x2_3), (0, .ref (h0 0)), (1, .int x1), (3, .int x3)] dX2_nodesOfKind_28 rfl (Nat.le_of_ble_eq_true rfl) e_4 rfl ?_
        obtain ⟨x3_5, e_6, hF⟩ := glT hF
        refine j_iinc C 3 [(3, .int x3_5), (2, .int x2_3), (0, .ref (h0 0)), (1, .int x1)] dX2_nodesOfKind_29 rfl e_6.symm (Nat.le_of_ble_eq_true rfl) rfl ?_
        refine j_goto C 4 dX2_nodesOfKind_32 rfl ?_
        refine j_sub [(0, .ref (h0 0)), (1, .int x1), (2, .int x2_3), (3, .int x3_5)] [2, 3, 1, 0] rfl ?_
        exact ih _ _ hF
set_option maxRecDepth 100000 in
set_option maxHeartbeats 4000000 in
theorem kX2_nodesOfKind (g : Gl) (N0 : Nat) (h0 : Nat → Nat) (x1 : Int32) (o0 : Ob) {r : Int32} (hF : FX2_nodesOfKind N0 x1 o0 = some r) : Ctr g yX2_nodesOfKind (Cond.code yX2_nodesOfKind cX2_nodesOfKind 4 (some .int) :: wsL_law) 1 21 [((shX2 N0), h0, o0)] [((shX2 N0), h0, o0)] [.ref (h0 0), .int x1] (some (.int r)) := by
  refine Ctr.of (cc := cX2_nodesOfKind) (maxL := 4) (ret := (some .int)) (by decide) rfl (Nat.le_of_ble_eq_true rfl) ?_
  intro X C Rk
  replace C : CxOk g X cX2_nodesOfKind RX2 (Cond.code yX2_nodesOfKind cX2_nodesOfKind 4 (some .int) :: wsL_law) 4 1 21 := C
  show J g X [((shX2 N0), h0, o0)] 0 [(0, .ref (h0 0)), (1, .int x1)] []
  unfold FX2_nodesOfKind at hF
  refine j_iconst (v := (0 : Int32)) C dX2_nodesOfKind_0 rfl ?_
  refine j_istore_n C [(2, .int (0 : Int32)), (0, .ref (h0 0)), (1, .int x1)] dX2_nodesOfKind_1 rfl (Nat.le_of_ble_eq_true rfl) rfl rfl ?_
  refine j_iconst (v := (0 : Int32)) C dX2_nodesOfKind_2 rfl ?_
  refine j_istore_n C [(3, .int (0 : Int32)), (2, .int (0 : Int32)), (0, .ref (h0 0)), (1, .int x1)] dX2_nodesOfKind_3 rfl (Nat.le_of_ble_eq_true rfl) rfl rfl ?_
  refine j_sub [(0, .ref (h0 0)), (1, .int x1), (2, .int (0 : Int32)), (3, .int (0 : Int32))] [2, 3, 1, 0] rfl ?_
  refine lX2_nodesOfKind_4 C N0 h0 x1 o0 Rk  _ _ _ hF
/-! HeadsMeet$Graph.openWires -/
def LX2_openWires_4 (N0 : Nat) (o0 : Ob) : Nat → Int32 → Int32 → Option (Int32)
  | 0, _, _ => none
  | n + 1, x1, x2 =>
    if (8 : Int32) ≤ x2 then
      some x1
    else
      b1 (FX2_isOpen N0 x2 o0) fun r_1 =>
      if r_1 = 0 then
        lT (x1 + (0 : Int32)) fun x1_7 =>
        lT (x2 + (1 : Int32)) fun x2_9 =>
        LX2_openWires_4 N0 o0 n x1_7 x2_9
      else
        lT (x1 + (1 : Int32)) fun x1_3 =>
        lT (x2 + (1 : Int32)) fun x2_5 =>
        LX2_openWires_4 N0 o0 n x1_3 x2_5
def FX2_openWires (N0 : Nat)  (o0 : Ob) : Option (Int32) :=
  LX2_openWires_4 N0 o0 fu (0 : Int32) (0 : Int32)
set_option maxRecDepth 100000 in
set_option maxHeartbeats 4000000 in
theorem lX2_openWires_4 {g : Gl} {X : Cxt} (C : CxOk g X cX2_openWires RX2 (Cond.code yX2_openWires cX2_openWires 3 (some .int) :: wsL_law) 3 2 42) {r : Int32} (N0 : Nat) (h0 : Nat → Nat) (o0 : Ob)  (Rk : RetOk g X [((shX2 N0), h0, o0)] (some (.int r)) (some .int))  : ∀ (n : Nat) (x1 : Int32) (x2 : Int32), LX2_openWires_4 N0 o0 n x1 x2 = some r → J g X [((shX2 N0), h0, o0)] 4 [(0, .ref (h0 0)), (1, .int x1), (2, .int x2)] [] := by
  intro n
  induction n with
  | zero =>
    intro x1 x2 hF
    cases hF
  | succ n ih =>
    intro x1 x2 hF
    rw [LX2_openWires_4.eq_2] at hF
    refine j_iload_n C 2 dX2_openWires_4 rfl rfl ?_
    refine j_bipush (v := (8 : Int32)) C dX2_openWires_5 rfl ?_
    refine j_icmp_ge C 32 dX2_openWires_7 rfl (fun c_12 => ?_) (fun c_12 => ?_)
    · have hF := (if_pos c_12).symm.trans hF
      refine j_iload_n C 1 dX2_openWires_32 rfl rfl ?_
      cases hF
      exact j_iret C Rk dX2_openWires_33
    · have hF := (if_neg c_12).symm.trans hF
      refine j_iload_n C 1 dX2_openWires_10 rfl rfl ?_
      refine j_aload_n C 0 dX2_openWires_11 rfl rfl ?_
      refine j_iload_n C 2 dX2_openWires_12 rfl rfl ?_
      obtain ⟨r_1, k_2, hF⟩ := gb1 hF
      refine j_callVi C (os' := [((shX2 N0), h0, o0)]) [.int x2] (kX2_isOpen g N0 h0 x2 o0 k_2) [0] rfl rfl rfl rfl 0 rfl rfl (wl_gV mw_37_20 mw_29_10 mw_29_11 mw_1_22 mw_29_12) rfl 1 rfl hd_X2_isOpen ⟨Nat.le_of_ble_eq_true rfl, Nat.le_of_ble_eq_true rfl⟩ (Nat.le_of_ble_eq_true rfl) rfl dX2_openWires_13 ?_
      refine j_if_eq C 23 dX2_openWires_16 rfl (fun c_11 => ?_) (fun c_11 => ?_)
      · have hF := (if_pos c_11).symm.trans hF
        refine j_iconst (v := (0 : Int32)) C dX2_openWires_23 rfl ?_
        refine j_iadd C dX2_openWires_24 ?_
        obtain ⟨x1_7, e_8, hF⟩ := glT hF
        refine j_istore_n C [(1, .int x1_7), (0, .ref (h0 0)), (2, .int x2)] dX2_openWires_25 rfl (Nat.le_of_ble_eq_true rfl) e_8 rfl ?_
        obtain ⟨x2_9, e_10, hF⟩ := glT hF
        refine j_iinc C 2 [(2, .int x2_9), (1, .int x1_7), (0, .ref (h0 0))] dX2_openWires_26 rfl e_10.symm (Nat.le_of_ble_eq_true rfl) rfl ?_
        refine j_goto C 4 dX2_openWires_29 rfl ?_
        refine j_sub [(0, .ref (h0 0)), (1, .int x1_7), (2, .int x2_9)] [2, 1, 0] rfl ?_
        exact ih _ _ hF
      · have hF := (if_neg c_11).symm.trans hF
        refine j_iconst (v := (1 : Int32)) C dX2_openWires_19 rfl ?_
        refine j_goto C 24 dX2_openWires_20 rfl ?_
        refine j_iadd C dX2_openWires_24 ?_
        obtain ⟨x1_3, e_4, hF⟩ := glT hF
        refine j_istore_n C [(1, .int x1_3), (0, .ref (h0 0)), (2, .int x2)] dX2_openWires_25 rfl (Nat.le_of_ble_eq_true rfl) e_4 rfl ?_
        obtain ⟨x2_5, e_6, hF⟩ := glT hF
        refine j_iinc C 2 [(2, .int x2_5), (1, .int x1_3), (0, .ref (h0 0))] dX2_openWires_26 rfl e_6.symm (Nat.le_of_ble_eq_true rfl) rfl ?_
        refine j_goto C 4 dX2_openWires_29 rfl ?_
        refine j_sub [(0, .ref (h0 0)), (1, .int x1_3), (2, .int x2_5)] [2, 1, 0] rfl ?_
        exact ih _ _ hF
set_option maxRecDepth 100000 in
set_option maxHeartbeats 4000000 in
theorem kX2_openWires (g : Gl) (N0 : Nat) (h0 : Nat → Nat)  (o0 : Ob) {r : Int32} (hF : FX2_openWires N0 o0 = some r) : Ctr g yX2_openWires (Cond.code yX2_openWires cX2_openWires 3 (some .int) :: wsL_law) 2 42 [((shX2 N0), h0, o0)] [((shX2 N0), h0, o0)] [.ref (h0 0)] (some (.int r)) := by
  refine Ctr.of (cc := cX2_openWires) (maxL := 3) (ret := (some .int)) (by decide) rfl (Nat.le_of_ble_eq_true rfl) ?_
  intro X C Rk
  replace C : CxOk g X cX2_openWires RX2 (Cond.code yX2_openWires cX2_openWires 3 (some .int) :: wsL_law) 3 2 42 := C
  show J g X [((shX2 N0), h0, o0)] 0 [(0, .ref (h0 0))] []
  unfold FX2_openWires at hF
  refine j_iconst (v := (0 : Int32)) C dX2_openWires_0 rfl ?_
  refine j_istore_n C [(1, .int (0 : Int32)), (0, .ref (h0 0))] dX2_openWires_1 rfl (Nat.le_of_ble_eq_true rfl) rfl rfl ?_
  refine j_iconst (v := (0 : Int32)) C dX2_openWires_2 rfl ?_
  refine j_istore_n C [(2, .int (0 : Int32)), (1, .int (0 : Int32)), (0, .ref (h0 0))] dX2_openWires_3 rfl (Nat.le_of_ble_eq_true rfl) rfl rfl ?_
  refine j_sub [(0, .ref (h0 0)), (1, .int (0 : Int32)), (2, .int (0 : Int32))] [2, 1, 0] rfl ?_
  refine lX2_openWires_4 C N0 h0 o0 Rk  _ _ _ hF
