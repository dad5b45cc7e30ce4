/-! HeadsMeet$Page.add -/
def FX3_add (x1 : Int32) (o0 : Ob) : Option (Int32 × Ob) :=
  if (oV o0 1) < (80 : Int32) then
    if inb (oV o0 1) 80 then
    lT (sA o0 0 (oV o0 1).toNatClampNeg x1) fun o0_3 =>
    lT (sV o0_3 1 ((oV o0_3 1) + (1 : Int32))) fun o0_5 =>
    some ((1 : Int32), o0_5)
    else none
  else
    some ((0 : Int32), o0)
set_option maxRecDepth 100000 in
set_option maxHeartbeats 4000000 in
theorem kX3_add (g : Gl) (h0 : Nat → Nat) (x1 : Int32) (o0 : Ob) {r : Int32} {o0' : Ob} (hF : FX3_add x1 o0 = some (r, o0')) : Ctr g yX3_add (Cond.code yX3_add cX3_add 2 (some .boolean) :: wsL_law) 0 0 [(shX3, h0, o0)] [(shX3, h0, o0')] [.ref (h0 0), .int x1] (some (.int r)) := by
  refine Ctr.of (cc := cX3_add) (maxL := 2) (ret := (some .boolean)) (by decide) rfl (Nat.le_of_ble_eq_true rfl) ?_
  intro X C Rk
  replace C : CxOk g X cX3_add RX3 (Cond.code yX3_add cX3_add 2 (some .boolean) :: wsL_law) 2 0 0 := C
  show J g X [(shX3, h0, o0)] 0 [(0, .ref (h0 0)), (1, .int x1)] []
  unfold FX3_add at hF
  refine j_aload_n C 0 dX3_add_0 rfl rfl ?_
  refine j_get (v := .int (oV o0 1)) C 0 1 rfl rfl (Nat.le_of_ble_eq_true rfl) rfl rfl in1_X3 (List.mem_cons_of_mem _ mw_6_8) dX3_add_1 ?_
  refine j_aload_n C 0 dX3_add_4 rfl rfl ?_
  refine j_get (v := .ref (h0 1)) C 0 0 rfl rfl (Nat.le_of_ble_eq_true rfl) rfl rfl in1_X3 (List.mem_cons_of_mem _ mw_2_20) dX3_add_5 ?_
  refine j_alen (v := (80 : Int32)) C 0 0 rfl rfl rfl dX3_add_8 ?_
  refine j_icmp_lt C 14 dX3_add_9 rfl (fun c_6 => ?_) (fun c_6 => ?_)
  · have hF := (if_pos c_6).symm.trans hF
    refine j_aload_n C 0 dX3_add_14 rfl rfl ?_
    refine j_get (v := .ref (h0 1)) C 0 0 rfl rfl (Nat.le_of_ble_eq_true rfl) rfl rfl in1_X3 (List.mem_cons_of_mem _ mw_2_20) dX3_add_15 ?_
    refine j_aload_n C 0 dX3_add_18 rfl rfl ?_
    refine j_get (v := .int (oV o0 1)) C 0 1 rfl rfl (Nat.le_of_ble_eq_true rfl) rfl rfl in1_X3 (List.mem_cons_of_mem _ mw_6_8) dX3_add_19 ?_
    refine j_iload_n C 1 dX3_add_22 rfl rfl ?_
    obtain ⟨z_1, hF⟩ := gi hF
    obtain ⟨o0_3, e_2, hF⟩ := glT hF
    refine j_iast C 0 0 rfl rfl z_1 [(shX3, h0, o0_3)] (by rw [e_2]; rfl) dX3_add_23 ?_
    refine j_aload_n C 0 dX3_add_24 rfl rfl ?_
    refine j_dup C rfl dX3_add_25 ?_
    refine j_get (v := .int (oV o0_3 1)) C 0 1 rfl rfl (Nat.le_of_ble_eq_true rfl) rfl rfl in1_X3 (List.mem_cons_of_mem _ mw_6_8) dX3_add_26 ?_
    refine j_iconst (v := (1 : Int32)) C dX3_add_29 rfl ?_
    refine j_iadd C dX3_add_30 ?_
    obtain ⟨o0_5, e_4, hF⟩ := glT hF
    refine j_putV C tyX3_ok nmX3 0 1 rfl rfl (Nat.le_of_ble_eq_true rfl) rfl in1_X3 (List.mem_cons_of_mem _ mw_6_8) rfl fd_X3_1 rfl rfl [(shX3, h0, o0_5)] (by rw [e_4]; rfl) dX3_add_31 ?_
    refine j_iconst (v := (1 : Int32)) C dX3_add_34 rfl ?_
    cases hF
    exact j_zret C rfl Rk dX3_add_35
  · have hF := (if_neg c_6).symm.trans hF
    refine j_iconst (v := (0 : Int32)) C dX3_add_12 rfl ?_
    cases hF
    exact j_zret C rfl Rk dX3_add_13
/-! HeadsMeet$Page.size -/
def FX3_size  (o0 : Ob) : Option (Int32) :=
  some (oV o0 1)
set_option maxRecDepth 100000 in
set_option maxHeartbeats 4000000 in
theorem kX3_size (g : Gl) (h0 : Nat → Nat)  (o0 : Ob) {r : Int32} (hF : FX3_size o0 = some r) : Ctr g yX3_size (Cond.code yX3_size cX3_size 1 (some .int) :: wsL_law) 0 0 [(shX3, h0, o0)] [(shX3, h0, o0)] [.ref (h0 0)] (some (.int r)) := by
  refine Ctr.of (cc := cX3_size) (maxL := 1) (ret := (some .int)) (by decide) rfl (Nat.le_of_ble_eq_true rfl) ?_
  intro X C Rk
  replace C : CxOk g X cX3_size RX3 (Cond.code yX3_size cX3_size 1 (some .int) :: wsL_law) 1 0 0 := C
  show J g X [(shX3, h0, o0)] 0 [(0, .ref (h0 0))] []
  unfold FX3_size at hF
  refine j_aload_n C 0 dX3_size_0 rfl rfl ?_
  refine j_get (v := .int (oV o0 1)) C 0 1 rfl rfl (Nat.le_of_ble_eq_true rfl) rfl rfl in1_X3 (List.mem_cons_of_mem _ mw_6_8) dX3_size_1 ?_
  cases hF
  exact j_iret C Rk dX3_size_4
/-! HeadsMeet$Page.clear -/
def FX3_clear  (o0 : Ob) : Option (Int32 × Ob) :=
  lT (oV o0 1) fun x1_1 =>
  lT (sV o0 1 (0 : Int32)) fun o0_4 =>
  some (x1_1, o0_4)
set_option maxRecDepth 100000 in
set_option maxHeartbeats 4000000 in
theorem kX3_clear (g : Gl) (h0 : Nat → Nat)  (o0 : Ob) {r : Int32} {o0' : Ob} (hF : FX3_clear o0 = some (r, o0')) : Ctr g yX3_clear (Cond.code yX3_clear cX3_clear 2 (some .int) :: wsL_law) 0 0 [(shX3, h0, o0)] [(shX3, h0, o0')] [.ref (h0 0)] (some (.int r)) := by
  refine Ctr.of (cc := cX3_clear) (maxL := 2) (ret := (some .int)) (by decide) rfl (Nat.le_of_ble_eq_true rfl) ?_
  intro X C Rk
  replace C : CxOk g X cX3_clear RX3 (Cond.code yX3_clear cX3_clear 2 (some .int) :: wsL_law) 2 0 0 := C
  show J g X [(shX3, h0, o0)] 0 [(0, .ref (h0 0))] []
  unfold FX3_clear at hF
  refine j_aload_n C 0 dX3_clear_0 rfl rfl ?_
  refine j_get (v := .int (oV o0 1)) C 0 1 rfl rfl (Nat.le_of_ble_eq_true rfl) rfl rfl in1_X3 (List.mem_cons_of_mem _ mw_6_8) dX3_clear_1 ?_
  obtain ⟨x1_1, e_2, hF⟩ := glT hF
  refine j_istore_n C [(1, .int x1_1), (0, .ref (h0 0))] dX3_clear_4 rfl (Nat.le_of_ble_eq_true rfl) e_2 rfl ?_
  refine j_aload_n C 1 dX3_clear_5 rfl rfl ?_
  refine j_iconst (v := (0 : Int32)) C dX3_clear_6 rfl ?_
  obtain ⟨o0_4, e_3, hF⟩ := glT hF
  refine j_putV C tyX3_ok nmX3 0 1 rfl rfl (Nat.le_of_ble_eq_true rfl) rfl in1_X3 (List.mem_cons_of_mem _ mw_6_8) rfl fd_X3_1 rfl rfl [(shX3, h0, o0_4)] (by rw [e_3]; rfl) dX3_clear_7 ?_
  refine j_iload_n C 0 dX3_clear_10 rfl rfl ?_
  cases hF
  exact j_iret C Rk dX3_clear_11
/-! HeadsMeet$Page.at -/
def FX3_at (x1 : Int32) (o0 : Ob) : Option (Int32) :=
  if x1 < 0 then
    some (-1 : Int32)
  else
    if (oV o0 1) ≤ x1 then
      some (-1 : Int32)
    else
      if inb x1 80 then
      some (oA o0 0 x1.toNatClampNeg)
      else none
set_option maxRecDepth 100000 in
set_option maxHeartbeats 4000000 in
theorem kX3_at (g : Gl) (h0 : Nat → Nat) (x1 : Int32) (o0 : Ob) {r : Int32} (hF : FX3_at x1 o0 = some r) : Ctr g yX3_at (Cond.code yX3_at cX3_at 2 (some .int) :: wsL_law) 0 0 [(shX3, h0, o0)] [(shX3, h0, o0)] [.ref (h0 0), .int x1] (some (.int r)) := by
  refine Ctr.of (cc := cX3_at) (maxL := 2) (ret := (some .int)) (by decide) rfl (Nat.le_of_ble_eq_true rfl) ?_
  intro X C Rk
  replace C : CxOk g X cX3_at RX3 (Cond.code yX3_at cX3_at 2 (some .int) :: wsL_law) 2 0 0 := C
  show J g X [(shX3, h0, o0)] 0 [(0, .ref (h0 0)), (1, .int x1)] []
  unfold FX3_at at hF
  refine j_iload_n C 1 dX3_at_0 rfl rfl ?_
  refine j_if_lt C 21 dX3_at_1 rfl (fun c_3 => ?_) (fun c_3 => ?_)
  · have hF := (if_pos c_3).symm.trans hF
    refine j_iconst (v := (-1 : Int32)) C dX3_at_21 rfl ?_
    cases hF
    exact j_iret C Rk dX3_at_22
  · have hF := (if_neg c_3).symm.trans hF
    refine j_iload_n C 1 dX3_at_4 rfl rfl ?_
    refine j_aload_n C 0 dX3_at_5 rfl rfl ?_
    refine j_get (v := .int (oV o0 1)) C 0 1 rfl rfl (Nat.le_of_ble_eq_true rfl) rfl rfl in1_X3 (List.mem_cons_of_mem _ mw_6_8) dX3_at_6 ?_
    refine j_icmp_ge C 21 dX3_at_9 rfl (fun c_2 => ?_) (fun c_2 => ?_)
    · have hF := (if_pos c_2).symm.trans hF
      refine j_iconst (v := (-1 : Int32)) C dX3_at_21 rfl ?_
      cases hF
      exact j_iret C Rk dX3_at_22
    · have hF := (if_neg c_2).symm.trans hF
      refine j_aload_n C 0 dX3_at_12 rfl rfl ?_
      refine j_get (v := .ref (h0 1)) C 0 0 rfl rfl (Nat.le_of_ble_eq_true rfl) rfl rfl in1_X3 (List.mem_cons_of_mem _ mw_2_20) dX3_at_13 ?_
      refine j_iload_n C 1 dX3_at_16 rfl rfl ?_
      obtain ⟨z_1, hF⟩ := gi hF
      refine j_iald C 0 0 rfl rfl z_1 dX3_at_17 ?_
      refine j_goto C 22 dX3_at_18 rfl ?_
      cases hF
      exact j_iret C Rk dX3_at_22
/-! HeadsMeet$Sightings.clear -/
def FX4_clear  (o0 : Ob) : Option (Int32 × Ob) :=
  lT (oV o0 3) fun x1_1 =>
  lT (sV o0 3 (0 : Int32)) fun o0_4 =>
  some (x1_1, o0_4)
set_option maxRecDepth 100000 in
set_option maxHeartbeats 4000000 in
theorem kX4_clear (g : Gl) (h0 : Nat → Nat)  (o0 : Ob) {r : Int32} {o0' : Ob} (hF : FX4_clear o0 = some (r, o0')) : Ctr g yX4_clear (Cond.code yX4_clear cX4_clear 2 (some .int) :: wsL_law) 0 0 [(shX4, h0, o0)] [(shX4, h0, o0')] [.ref (h0 0)] (some (.int r)) := by
  refine Ctr.of (cc := cX4_clear) (maxL := 2) (ret := (some .int)) (by decide) rfl (Nat.le_of_ble_eq_true rfl) ?_
  intro X C Rk
  replace C : CxOk g X cX4_clear RX4 (Cond.code yX4_clear cX4_clear 2 (some .int) :: wsL_law) 2 0 0 := C
  show J g X [(shX4, h0, o0)] 0 [(0, .ref (h0 0))] []
  unfold FX4_clear at hF
  refine j_aload_n C 0 dX4_clear_0 rfl rfl ?_
  refine j_get (v := .int (oV o0 3)) C 0 3 rfl rfl (Nat.le_of_ble_eq_true rfl) rfl rfl in1_X4 (List.mem_cons_of_mem _ mw_18_2) dX4_clear_1 ?_
  obtain ⟨x1_1, e_2, hF⟩ := glT hF
  refine j_istore_n C [(1, .int x1_1), (0, .ref (h0 0))] dX4_clear_4 rfl (Nat.le_of_ble_eq_true rfl) e_2 rfl ?_
  refine j_aload_n C 1 dX4_clear_5 rfl rfl ?_
  refine j_iconst (v := (0 : Int32)) C dX4_clear_6 rfl ?_
  obtain ⟨o0_4, e_3, hF⟩ := glT hF
  refine j_putV C tyX4_ok nmX4 0 3 rfl rfl (Nat.le_of_ble_eq_true rfl) rfl in1_X4 (List.mem_cons_of_mem _ mw_18_2) rfl fd_X4_3 rfl rfl [(shX4, h0, o0_4)] (by rw [e_3]; rfl) dX4_clear_7 ?_
  refine j_iload_n C 0 dX4_clear_10 rfl rfl ?_
  cases hF
  exact j_iret C Rk dX4_clear_11
/-! HeadsMeet$Answers.put -/
def FX0_put (x1 : Int32) (x2 : Int32) (x3 : Int32) (o0 : Ob) : Option (Ob) :=
  lT ((x1 * (4 : Int32)) + x2) fun x4_1 =>
  if x4_1 < 0 then
    some o0
  else
    if (16 : Int32) ≤ x4_1 then
      some o0
    else
      if inb x4_1 16 then
      lT (sA o0 0 x4_1.toNatClampNeg x3) fun o0_5 =>
      some o0_5
      else none
set_option maxRecDepth 100000 in
set_option maxHeartbeats 4000000 in
theorem kX0_put (g : Gl) (h0 : Nat → Nat) (x1 : Int32) (x2 : Int32) (x3 : Int32) (o0 : Ob) {o0' : Ob} (hF : FX0_put x1 x2 x3 o0 = some o0') : Ctr g yX0_put (Cond.code yX0_put cX0_put 5 none :: wsL_law) 0 0 [(shX0, h0, o0)] [(shX0, h0, o0')] [.ref (h0 0), .int x1, .int x2, .int x3] none := by
  refine Ctr.of (cc := cX0_put) (maxL := 5) (ret := none) (by decide) rfl (Nat.le_of_ble_eq_true rfl) ?_
  intro X C Rk
  replace C : CxOk g X cX0_put RX0 (Cond.code yX0_put cX0_put 5 none :: wsL_law) 5 0 0 := C
  show J g X [(shX0, h0, o0)] 0 [(0, .ref (h0 0)), (1, .int x1), (2, .int x2), (3, .int x3)] []
  unfold FX0_put at hF
  refine j_iload_n C 1 dX0_put_0 rfl rfl ?_
  refine j_iconst (v := (4 : Int32)) C dX0_put_1 rfl ?_
  refine j_imul C dX0_put_2 ?_
  refine j_iload_n C 2 dX0_put_3 rfl rfl ?_
  refine j_iadd C dX0_put_4 ?_
  obtain ⟨x4_1, e_2, hF⟩ := glT hF
  refine j_istore C [(4, .int x4_1), (0, .ref (h0 0)), (1, .int x1), (2, .int x2), (3, .int x3)] dX0_put_5 (Nat.le_of_ble_eq_true rfl) e_2 rfl ?_
  refine j_iload C 0 dX0_put_7 rfl ?_
  refine j_if_lt C 30 dX0_put_9 rfl (fun c_7 => ?_) (fun c_7 => ?_)
  · have hF := (if_pos c_7).symm.trans hF
    cases hF
    exact j_vret C Rk dX0_put_30
  · have hF := (if_neg c_7).symm.trans hF
    refine j_iload C 0 dX0_put_12 rfl ?_
    refine j_aload_n C 1 dX0_put_14 rfl rfl ?_
    refine j_get (v := .ref (h0 1)) C 0 0 rfl rfl (Nat.le_of_ble_eq_true rfl) rfl rfl in1_X0 (List.mem_cons_of_mem _ mw_4_5) dX0_put_15 ?_
    refine j_alen (v := (16 : Int32)) C 0 0 rfl rfl rfl dX0_put_18 ?_
    refine j_icmp_ge C 30 dX0_put_19 rfl (fun c_6 => ?_) (fun c_6 => ?_)
    · have hF := (if_pos c_6).symm.trans hF
      cases hF
      exact j_vret C Rk dX0_put_30
    · have hF := (if_neg c_6).symm.trans hF
      refine j_aload_n C 1 dX0_put_22 rfl rfl ?_
      refine j_get (v := .ref (h0 1)) C 0 0 rfl rfl (Nat.le_of_ble_eq_true rfl) rfl rfl in1_X0 (List.mem_cons_of_mem _ mw_4_5) dX0_put_23 ?_
      refine j_iload C 0 dX0_put_26 rfl ?_
      refine j_iload_n C 4 dX0_put_28 rfl rfl ?_
      obtain ⟨z_3, hF⟩ := gi hF
      obtain ⟨o0_5, e_4, hF⟩ := glT hF
      refine j_iast C 0 0 rfl rfl z_3 [(shX0, h0, o0_5)] (by rw [e_4]; rfl) dX0_put_29 ?_
      cases hF
      exact j_vret C Rk dX0_put_30
/-! HeadsMeet$Answers.at -/
def FX0_at (x1 : Int32) (x2 : Int32) (o0 : Ob) : Option (Int32) :=
  lT ((x1 * (4 : Int32)) + x2) fun x3_1 =>
  if x3_1 < 0 then
    some (-1 : Int32)
  else
    if (16 : Int32) ≤ x3_1 then
      some (-1 : Int32)
    else
      if inb x3_1 16 then
      some (oA o0 0 x3_1.toNatClampNeg)
      else none
set_option maxRecDepth 100000 in
set_option maxHeartbeats 4000000 in
theorem kX0_at (g : Gl) (h0 : Nat → Nat) (x1 : Int32) (x2 : Int32) (o0 : Ob) {r : Int32} (hF : FX0_at x1 x2 o0 = some r) : Ctr g yX0_at (Cond.code yX0_at cX0_at 4 (some .int) :: wsL_law) 0 0 [(shX0, h0, o0)] [(shX0, h0, o0)] [.ref (h0 0), .int x1, .int x2] (some (.int r)) := by
  refine Ctr.of (cc := cX0_at) (maxL := 4) (ret := (some .int)) (by decide) rfl (Nat.le_of_ble_eq_true rfl) ?_
  intro X C Rk
  replace C : CxOk g X cX0_at RX0 (Cond.code yX0_at cX0_at 4 (some .int) :: wsL_law) 4 0 0 := C
  show J g X [(shX0, h0, o0)] 0 [(0, .ref (h0 0)), (1, .int x1), (2, .int x2)] []
  unfold FX0_at at hF
  refine j_iload_n C 1 dX0_at_0 rfl rfl ?_
  refine j_iconst (v := (4 : Int32)) C dX0_at_1 rfl ?_
  refine j_imul C dX0_at_2 ?_
  refine j_iload_n C 2 dX0_at_3 rfl rfl ?_
  refine j_iadd C dX0_at_4 ?_
  obtain ⟨x3_1, e_2, hF⟩ := glT hF
  refine j_istore_n C [(3, .int x3_1), (0, .ref (h0 0)), (1, .int x1), (2, .int x2)] dX0_at_5 rfl (Nat.le_of_ble_eq_true rfl) e_2 rfl ?_
  refine j_iload_n C 0 dX0_at_6 rfl rfl ?_
  refine j_if_lt C 28 dX0_at_7 rfl (fun c_5 => ?_) (fun c_5 => ?_)
  · have hF := (if_pos c_5).symm.trans hF
    refine j_iconst (v := (-1 : Int32)) C dX0_at_28 rfl ?_
    cases hF
    exact j_iret C Rk dX0_at_29
  · have hF := (if_neg c_5).symm.trans hF
    refine j_iload_n C 0 dX0_at_10 rfl rfl ?_
    refine j_aload_n C 1 dX0_at_11 rfl rfl ?_
    refine j_get (v := .ref (h0 1)) C 0 0 rfl rfl (Nat.le_of_ble_eq_true rfl) rfl rfl in1_X0 (List.mem_cons_of_mem _ mw_4_5) dX0_at_12 ?_
    refine j_alen (v := (16 : Int32)) C 0 0 rfl rfl rfl dX0_at_15 ?_
    refine j_icmp_ge C 28 dX0_at_16 rfl (fun c_4 => ?_) (fun c_4 => ?_)
    · have hF := (if_pos c_4).symm.trans hF
      refine j_iconst (v := (-1 : Int32)) C dX0_at_28 rfl ?_
      cases hF
      exact j_iret C Rk dX0_at_29
    · have hF := (if_neg c_4).symm.trans hF
      refine j_aload_n C 1 dX0_at_19 rfl rfl ?_
      refine j_get (v := .ref (h0 1)) C 0 0 rfl rfl (Nat.le_of_ble_eq_true rfl) rfl rfl in1_X0 (List.mem_cons_of_mem _ mw_4_5) dX0_at_20 ?_
      refine j_iload_n C 0 dX0_at_23 rfl rfl ?_
      obtain ⟨z_3, hF⟩ := gi hF
      refine j_iald C 0 0 rfl rfl z_3 dX0_at_24 ?_
      refine j_goto C 29 dX0_at_25 rfl ?_
      cases hF
      exact j_iret C Rk dX0_at_29
/-! HeadsMeet$Sightings.agree -/
def LX4_agree_3 (x1 : Int32) (x2 : Int32) (o0 : Ob) (o1 : Ob) : Nat → Int32 → Option (Int32)
  | 0, _ => none
  | n + 1, x4 =>
    if (oV o0 3) ≤ x4 then
      some (1 : Int32)
    else
      if (6 : Int32) ≤ x4 then
        some (1 : Int32)
      else
        if inb x4 6 then
        if (oA o0 0 x4.toNatClampNeg) = x1 then
          b1 (FX0_at x2 (oA o0 1 x4.toNatClampNeg) o1) fun r_2 =>
          if r_2 = (oA o0 2 x4.toNatClampNeg) then
            lT (x4 + (1 : Int32)) fun x4_4 =>
            LX4_agree_3 x1 x2 o0 o1 n x4_4
          else
            some (0 : Int32)
        else
          lT (x4 + (1 : Int32)) fun x4_7 =>
          LX4_agree_3 x1 x2 o0 o1 n x4_7
        else none
def FX4_agree (x1 : Int32) (x2 : Int32) (o0 : Ob) (o1 : Ob) : Option (Int32) :=
  LX4_agree_3 x1 x2 o0 o1 fu (0 : Int32)
set_option maxRecDepth 100000 in
set_option maxHeartbeats 4000000 in
theorem lX4_agree_3 {g : Gl} {X : Cxt} (C : CxOk g X cX4_agree RX4 (Cond.code yX4_agree cX4_agree 5 (some .boolean) :: wsL_law) 5 1 23) {r : Int32} (h0 : Nat → Nat) (h1 : Nat → Nat) (x1 : Int32) (x2 : Int32) (o0 : Ob) (o1 : Ob)  (Rk : RetOk g X [(shX4, h0, o0), (shX0, h1, o1)] (some (.int r)) (some .boolean))  : ∀ (n : Nat) (x4 : Int32), LX4_agree_3 x1 x2 o0 o1 n x4 = some r → J g X [(shX4, h0, o0), (shX0, h1, o1)] 3 [(0, .ref (h0 0)), (1, .int x1), (2, .int x2), (3, .ref (h1 0)), (4, .int x4)] [] := by
  intro n
  induction n with
  | zero =>
    intro x4 hF
    cases hF
  | succ n ih =>
    intro x4 hF
    rw [LX4_agree_3.eq_2] at hF
    refine j_iload C 4 dX4_agree_3 rfl ?_
    refine j_aload_n C 0 dX4_agree_5 rfl rfl ?_
    refine j_get (v := .int (oV o0 3)) C 0 3 rfl rfl (Nat.le_of_ble_eq_true rfl) rfl rfl in1_X4 (List.mem_cons_of_mem _ mw_18_2) dX4_agree_6 ?_
    refine j_icmp_ge C 60 dX4_agree_9 rfl (fun c_11 => ?_) (fun c_11 => ?_)
    · have hF := (if_pos c_11).symm.trans hF
      refine j_iconst (v := (1 : Int32)) C dX4_agree_60 rfl ?_
      cases hF
      exact j_zret C rfl Rk dX4_agree_61
    · have hF := (if_neg c_11).symm.trans hF
      refine j_iload C 4 dX4_agree_12 rfl ?_
      refine j_bipush (v := (6 : Int32)) C dX4_agree_14 rfl ?_
      refine j_icmp_ge C 60 dX4_agree_16 rfl (fun c_10 => ?_) (fun c_10 => ?_)
      · have hF := (if_pos c_10).symm.trans hF
        refine j_iconst (v := (1 : Int32)) C dX4_agree_60 rfl ?_
        cases hF
        exact j_zret C rfl Rk dX4_agree_61
      · have hF := (if_neg c_10).symm.trans hF
        refine j_aload_n C 0 dX4_agree_19 rfl rfl ?_
        refine j_get (v := .ref (h0 1)) C 0 0 rfl rfl (Nat.le_of_ble_eq_true rfl) rfl rfl in1_X4 (List.mem_cons_of_mem _ mw_3_18) dX4_agree_20 ?_
        refine j_iload C 4 dX4_agree_23 rfl ?_
        obtain ⟨z_1, hF⟩ := gi hF
        refine j_iald C 0 0 rfl rfl z_1 dX4_agree_25 ?_
        refine j_iload_n C 1 dX4_agree_26 rfl rfl ?_
        refine j_icmp_ne C 54 dX4_agree_27 rfl (fun c_9 => ?_) (fun c_9 => ?_)
        · have hF := (if_neg c_9).symm.trans hF
          obtain ⟨x4_7, e_8, hF⟩ := glT hF
          refine j_iinc C 4 [(4, .int x4_7), (0, .ref (h0 0)), (1, .int x1), (2, .int x2), (3, .ref (h1 0))] dX4_agree_54 rfl e_8.symm (Nat.le_of_ble_eq_true rfl) rfl ?_
          refine j_goto C 3 dX4_agree_57 rfl ?_
          refine j_sub [(0, .ref (h0 0)), (1, .int x1), (2, .int x2), (3, .ref (h1 0)), (4, .int x4_7)] [1, 2, 3, 4, 0] rfl ?_
          exact ih _ hF
        · have hF := (if_pos c_9).symm.trans hF
          refine j_aload_n C 3 dX4_agree_30 rfl rfl ?_
          refine j_iload_n C 2 dX4_agree_31 rfl rfl ?_
          refine j_aload_n C 0 dX4_agree_32 rfl rfl ?_
          refine j_get (v := .ref (h0 2)) C 0 1 rfl rfl (Nat.le_of_ble_eq_true rfl) rfl rfl in1_X4 (List.mem_cons_of_mem _ mw_3_19) dX4_agree_33 ?_
          refine j_iload C 4 dX4_agree_36 rfl ?_
          refine j_iald C 0 1 rfl rfl z_1 dX4_agree_38 ?_
          obtain ⟨r_2, k_3, hF⟩ := gb1 hF
          refine j_callVi C (os' := [(shX4, h0, o0), (shX0, h1, o1)]) [.int x2, .int (oA o0 1 x4.toNatClampNeg)] (kX0_at g h1 x2 (oA o0 1 x4.toNatClampNeg) o1 k_3) [1] rfl rfl rfl rfl 1 rfl rfl (wl_gV mw_23_7 mw_23_8 mw_23_9 mw_2_14 mw_23_10) rfl 2 rfl hd_X0_at ⟨Nat.le_of_ble_eq_true rfl, Nat.le_of_ble_eq_true rfl⟩ (Nat.le_of_ble_eq_true rfl) rfl dX4_agree_39 ?_
          refine j_aload_n C 0 dX4_agree_42 rfl rfl ?_
          refine j_get (v := .ref (h0 3)) C 0 2 rfl rfl (Nat.le_of_ble_eq_true rfl) rfl rfl in1_X4 (List.mem_cons_of_mem _ mw_3_20) dX4_agree_43 ?_
          refine j_iload C 4 dX4_agree_46 rfl ?_
          refine j_iald C 0 2 rfl rfl z_1 dX4_agree_48 ?_
          refine j_icmp_eq C 54 dX4_agree_49 rfl (fun c_6 => ?_) (fun c_6 => ?_)
          · have hF := (if_pos c_6).symm.trans hF
            obtain ⟨x4_4, e_5, hF⟩ := glT hF
            refine j_iinc C 4 [(4, .int x4_4), (0, .ref (h0 0)), (1, .int x1), (2, .int x2), (3, .ref (h1 0))] dX4_agree_54 rfl e_5.symm (Nat.le_of_ble_eq_true rfl) rfl ?_
            refine j_goto C 3 dX4_agree_57 rfl ?_
            refine j_sub [(0, .ref (h0 0)), (1, .int x1), (2, .int x2), (3, .ref (h1 0)), (4, .int x4_4)] [1, 2, 3, 4, 0] rfl ?_
            exact ih _ hF
          · have hF := (if_neg c_6).symm.trans hF
            refine j_iconst (v := (0 : Int32)) C dX4_agree_52 rfl ?_
            cases hF
            exact j_zret C rfl Rk dX4_agree_53
set_option maxRecDepth 100000 in
set_option maxHeartbeats 4000000 in
theorem kX4_agree (g : Gl) (h0 : Nat → Nat) (h1 : Nat → Nat) (x1 : Int32) (x2 : Int32) (o0 : Ob) (o1 : Ob) {r : Int32} (hF : FX4_agree x1 x2 o0 o1 = some r) : Ctr g yX4_agree (Cond.code yX4_agree cX4_agree 5 (some .boolean) :: wsL_law) 1 23 [(shX4, h0, o0), (shX0, h1, o1)] [(shX4, h0, o0), (shX0, h1, o1)] [.ref (h0 0), .int x1, .int x2, .ref (h1 0)] (some (.int r)) := by
  refine Ctr.of (cc := cX4_agree) (maxL := 5) (ret := (some .boolean)) (by decide) rfl (Nat.le_of_ble_eq_true rfl) ?_
  intro X C Rk
  replace C : CxOk g X cX4_agree RX4 (Cond.code yX4_agree cX4_agree 5 (some .boolean) :: wsL_law) 5 1 23 := C
  show J g X [(shX4, h0, o0), (shX0, h1, o1)] 0 [(0, .ref (h0 0)), (1, .int x1), (2, .int x2), (3, .ref (h1 0))] []
  unfold FX4_agree at hF
  refine j_iconst (v := (0 : Int32)) C dX4_agree_0 rfl ?_
  refine j_istore C [(4, .int (0 : Int32)), (0, .ref (h0 0)), (1, .int x1), (2, .int x2), (3, .ref (h1 0))] dX4_agree_1 (Nat.le_of_ble_eq_true rfl) rfl rfl ?_
  refine j_sub [(0, .ref (h0 0)), (1, .int x1), (2, .int x2), (3, .ref (h1 0)), (4, .int (0 : Int32))] [1, 2, 3, 4, 0] rfl ?_
  refine lX4_agree_3 C h0 h1 x1 x2 o0 o1 Rk  _ _ hF
/-! HeadsMeet$Answers.kindsLike -/
def BX0_kindsLike_33 (E6 : Int32 → Int32 → Option (Int32)) (x1 : Int32) (x2 : Int32) (x3 : Int32) (x4 : Int32) (x5 : Int32) (y0 : Int32) (o0 : Ob) : Option (Int32) :=
  if y0 = 0 then
    lT (x4 + (0 : Int32)) fun x4_14 =>
    lT (x5 + (1 : Int32)) fun x5_16 =>
    E6 x4_14 x5_16
  else
    if ((x3 >>> (x5 &&& 31)) &&& (1 : Int32)) = (1 : Int32) then
      lT (x4 + (1 : Int32)) fun x4_5 =>
      lT (x5 + (1 : Int32)) fun x5_7 =>
      E6 x4_5 x5_7
    else
      lT (x4 + (0 : Int32)) fun x4_9 =>
      lT (x5 + (1 : Int32)) fun x5_11 =>
      E6 x4_9 x5_11
def LX0_kindsLike_6 (x1 : Int32) (x2 : Int32) (x3 : Int32) (o0 : Ob) : Nat → Int32 → Int32 → Option (Int32)
  | 0, _, _ => none
  | n + 1, x4, x5 =>
    if (3 : Int32) < x5 then
      some x4
    else
      b1 (FX0_at x5 x2 o0) fun r_1 =>
      b1 (FX0_at x1 x2 o0) fun r_3 =>
      if r_1 = r_3 then
        BX0_kindsLike_33 (LX0_kindsLike_6 x1 x2 x3 o0 n) x1 x2 x3 x4 x5 (1 : Int32) o0
      else
        BX0_kindsLike_33 (LX0_kindsLike_6 x1 x2 x3 o0 n) x1 x2 x3 x4 x5 (0 : Int32) o0
def FX0_kindsLike (x1 : Int32) (x2 : Int32) (x3 : Int32) (o0 : Ob) : Option (Int32) :=
  LX0_kindsLike_6 x1 x2 x3 o0 fu (0 : Int32) (1 : Int32)
set_option maxRecDepth 100000 in
set_option maxHeartbeats 4000000 in
theorem bX0_kindsLike_33 {g : Gl} {X : Cxt} (C : CxOk g X cX0_kindsLike RX0 (Cond.code yX0_kindsLike cX0_kindsLike 7 (some .int) :: wsL_law) 7 1 23) {r : Int32} (h0 : Nat → Nat) (x1 : Int32) (x2 : Int32) (x3 : Int32) (x4 : Int32) (x5 : Int32) (y0 : Int32) (o0 : Ob) (E6 : Int32 → Int32 → Option (Int32)) (Rk : RetOk g X [(shX0, h0, o0)] (some (.int r)) (some .int)) (hE6 : ∀ (x4 : Int32) (x5 : Int32), E6 x4 x5 = some r → J g X [(shX0, h0, o0)] 6 [(0, .ref (h0 0)), (1, .int x1), (2, .int x2), (3, .int x3), (4, .int x4), (5, .int x5)] []) (hF : BX0_kindsLike_33 E6 x1 x2 x3 x4 x5 y0 o0 = some r) : J g X [(shX0, h0, o0)] 33 [(0, .ref (h0 0)), (1, .int x1), (2, .int x2), (3, .int x3), (4, .int x4), (5, .int x5)] [.int y0] := by
  unfold BX0_kindsLike_33 at hF
  refine j_istore C [(6, .int y0), (0, .ref (h0 0)), (1, .int x1), (2, .int x2), (3, .int x3), (4, .int x4), (5, .int x5)] dX0_kindsLike_33 (Nat.le_of_ble_eq_true rfl) rfl rfl ?_
  refine j_iload C 5 dX0_kindsLike_35 rfl ?_
  refine j_iload C 0 dX0_kindsLike_37 rfl ?_
  refine j_if_eq C 56 dX0_kindsLike_39 rfl (fun c_18 => ?_) (fun c_18 => ?_)
  · have hF := (if_pos c_18).symm.trans hF
    refine j_iconst (v := (0 : Int32)) C dX0_kindsLike_56 rfl ?_
    refine j_iadd C dX0_kindsLike_57 ?_
    obtain ⟨x4_14, e_15, hF⟩ := glT hF
    refine j_istore C [(4, .int x4_14), (6, .int y0), (0, .ref (h0 0)), (1, .int x1), (2, .int x2), (3, .int x3), (5, .int x5)] dX0_kindsLike_58 (Nat.le_of_ble_eq_true rfl) e_15 rfl ?_
    obtain ⟨x5_16, e_17, hF⟩ := glT hF
    refine j_iinc C 6 [(5, .int x5_16), (4, .int x4_14), (6, .int y0), (0, .ref (h0 0)), (1, .int x1), (2, .int x2), (3, .int x3)] dX0_kindsLike_60 rfl e_17.symm (Nat.le_of_ble_eq_true rfl) rfl ?_
    refine j_goto C 6 dX0_kindsLike_63 rfl ?_
    refine j_sub [(0, .ref (h0 0)), (1, .int x1), (2, .int x2), (3, .int x3), (4, .int x4_14), (5, .int x5_16)] [3, 4, 5, 6, 1, 0] rfl ?_
    exact hE6 _ _ hF
  · have hF := (if_neg c_18).symm.trans hF
    refine j_iload_n C 4 dX0_kindsLike_42 rfl rfl ?_
    refine j_iload C 6 dX0_kindsLike_43 rfl ?_
    refine j_ishr C dX0_kindsLike_45 ?_
    refine j_iconst (v := (1 : Int32)) C dX0_kindsLike_46 rfl ?_
    refine j_iand C dX0_kindsLike_47 ?_
    refine j_iconst (v := (1 : Int32)) C dX0_kindsLike_48 rfl ?_
    refine j_icmp_ne C 56 dX0_kindsLike_49 rfl (fun c_13 => ?_) (fun c_13 => ?_)
    · have hF := (if_neg c_13).symm.trans hF
      refine j_iconst (v := (0 : Int32)) C dX0_kindsLike_56 rfl ?_
      refine j_iadd C dX0_kindsLike_57 ?_
      obtain ⟨x4_9, e_10, hF⟩ := glT hF
      refine j_istore C [(4, .int x4_9), (6, .int y0), (0, .ref (h0 0)), (1, .int x1), (2, .int x2), (3, .int x3), (5, .int x5)] dX0_kindsLike_58 (Nat.le_of_ble_eq_true rfl) e_10 rfl ?_
      obtain ⟨x5_11, e_12, hF⟩ := glT hF
      refine j_iinc C 6 [(5, .int x5_11), (4, .int x4_9), (6, .int y0), (0, .ref (h0 0)), (1, .int x1), (2, .int x2), (3, .int x3)] dX0_kindsLike_60 rfl e_12.symm (Nat.le_of_ble_eq_true rfl) rfl ?_
      refine j_goto C 6 dX0_kindsLike_63 rfl ?_
      refine j_sub [(0, .ref (h0 0)), (1, .int x1), (2, .int x2), (3, .int x3), (4, .int x4_9), (5, .int x5_11)] [3, 4, 5, 6, 1, 0] rfl ?_
      exact hE6 _ _ hF
    · have hF := (if_pos c_13).symm.trans hF
      refine j_iconst (v := (1 : Int32)) C dX0_kindsLike_52 rfl ?_
      refine j_goto C 57 dX0_kindsLike_53 rfl ?_
      refine j_iadd C dX0_kindsLike_57 ?_
      obtain ⟨x4_5, e_6, hF⟩ := glT hF
      refine j_istore C [(4, .int x4_5), (6, .int y0), (0, .ref (h0 0)), (1, .int x1), (2, .int x2), (3, .int x3), (5, .int x5)] dX0_kindsLike_58 (Nat.le_of_ble_eq_true rfl) e_6 rfl ?_
      obtain ⟨x5_7, e_8, hF⟩ := glT hF
      refine j_iinc C 6 [(5, .int x5_7), (4, .int x4_5), (6, .int y0), (0, .ref (h0 0)), (1, .int x1), (2, .int x2), (3, .int x3)] dX0_kindsLike_60 rfl e_8.symm (Nat.le_of_ble_eq_true rfl) rfl ?_
      refine j_goto C 6 dX0_kindsLike_63 rfl ?_
      refine j_sub [(0, .ref (h0 0)), (1, .int x1), (2, .int x2), (3, .int x3), (4, .int x4_5), (5, .int x5_7)] [3, 4, 5, 6, 1, 0] rfl ?_
      exact hE6 _ _ hF
set_option maxRecDepth 100000 in
set_option maxHeartbeats 4000000 in
theorem lX0_kindsLike_6 {g : Gl} {X : Cxt} (C : CxOk g X cX0_kindsLike RX0 (Cond.code yX0_kindsLike cX0_kindsLike 7 (some .int) :: wsL_law) 7 1 23) {r : Int32} (h0 : Nat → Nat) (x1 : Int32) (x2 : Int32) (x3 : Int32) (o0 : Ob)  (Rk : RetOk g X [(shX0, h0, o0)] (some (.int r)) (some .int))  : ∀ (n : Nat) (x4 : Int32) (x5 : Int32), LX0_kindsLike_6 x1 x2 x3 o0 n x4 x5 = some r → J g X [(shX0, h0, o0)] 6 [(0, .ref (h0 0)), (1, .int x1), (2, .int x2), (3, .int x3), (4, .int x4), (5, .int x5)] [] := by
  intro n
  induction n with
  | zero =>
    intro x4 x5 hF
    cases hF
  | succ n ih =>
    intro x4 x5 hF
    rw [LX0_kindsLike_6.eq_2] at hF
    refine j_iload C 5 dX0_kindsLike_6 rfl ?_
    refine j_iconst (v := (3 : Int32)) C dX0_kindsLike_8 rfl ?_
    refine j_icmp_gt C 66 dX0_kindsLike_9 rfl (fun c_20 => ?_) (fun c_20 => ?_)
    · have hF := (if_pos c_20).symm.trans hF
      refine j_iload C 4 dX0_kindsLike_66 rfl ?_
      cases hF
      exact j_iret C Rk dX0_kindsLike_68
    · have hF := (if_neg c_20).symm.trans hF
      refine j_aload_n C 0 dX0_kindsLike_12 rfl rfl ?_
      refine j_iload C 5 dX0_kindsLike_13 rfl ?_
      refine j_iload_n C 2 dX0_kindsLike_15 rfl rfl ?_
      obtain ⟨r_1, k_2, hF⟩ := gb1 hF
      refine j_callVi C (os' := [(shX0, h0, o0)]) [.int x5, .int x2] (kX0_at g h0 x5 x2 o0 k_2) [0] rfl rfl rfl rfl 0 rfl rfl (wl_gV mw_24_0 mw_23_8 mw_23_9 mw_2_14 mw_23_10) rfl 2 rfl hd_X0_at ⟨Nat.le_of_ble_eq_true rfl, Nat.le_of_ble_eq_true rfl⟩ (Nat.le_of_ble_eq_true rfl) rfl dX0_kindsLike_16 ?_
      refine j_aload_n C 0 dX0_kindsLike_19 rfl rfl ?_
      refine j_iload_n C 1 dX0_kindsLike_20 rfl rfl ?_
      refine j_iload_n C 2 dX0_kindsLike_21 rfl rfl ?_
      obtain ⟨r_3, k_4, hF⟩ := gb1 hF
      refine j_callVi C (os' := [(shX0, h0, o0)]) [.int x1, .int x2] (kX0_at g h0 x1 x2 o0 k_4) [0] rfl rfl rfl rfl 0 rfl rfl (wl_gV mw_24_0 mw_23_8 mw_23_9 mw_2_14 mw_23_10) rfl 2 rfl hd_X0_at ⟨Nat.le_of_ble_eq_true rfl, Nat.le_of_ble_eq_true rfl⟩ (Nat.le_of_ble_eq_true rfl) rfl dX0_kindsLike_22 ?_
      refine j_icmp_ne C 32 dX0_kindsLike_25 rfl (fun c_19 => ?_) (fun c_19 => ?_)
      · have hF := (if_neg c_19).symm.trans hF
        refine j_iconst (v := (0 : Int32)) C dX0_kindsLike_32 rfl ?_
        exact bX0_kindsLike_33 C h0 _ _ _ _ _ _ _ _ Rk ih hF
      · have hF := (if_pos c_19).symm.trans hF
        refine j_iconst (v := (1 : Int32)) C dX0_kindsLike_28 rfl ?_
        refine j_goto C 33 dX0_kindsLike_29 rfl ?_
        exact bX0_kindsLike_33 C h0 _ _ _ _ _ _ _ _ Rk ih hF
set_option maxRecDepth 100000 in
set_option maxHeartbeats 4000000 in
theorem kX0_kindsLike (g : Gl) (h0 : Nat → Nat) (x1 : Int32) (x2 : Int32) (x3 : Int32) (o0 : Ob) {r : Int32} (hF : FX0_kindsLike x1 x2 x3 o0 = some r) : Ctr g yX0_kindsLike (Cond.code yX0_kindsLike cX0_kindsLike 7 (some .int) :: wsL_law) 1 23 [(shX0, h0, o0)] [(shX0, h0, o0)] [.ref (h0 0), .int x1, .int x2, .int x3] (some (.int r)) := by
  refine Ctr.of (cc := cX0_kindsLike) (maxL := 7) (ret := (some .int)) (by decide) rfl (Nat.le_of_ble_eq_true rfl) ?_
  intro X C Rk
  replace C : CxOk g X cX0_kindsLike RX0 (Cond.code yX0_kindsLike cX0_kindsLike 7 (some .int) :: wsL_law) 7 1 23 := C
  show J g X [(shX0, h0, o0)] 0 [(0, .ref (h0 0)), (1, .int x1), (2, .int x2), (3, .int x3)] []
  unfold FX0_kindsLike at hF
  refine j_iconst (v := (0 : Int32)) C dX0_kindsLike_0 rfl ?_
  refine j_istore C [(4, .int (0 : Int32)), (0, .ref (h0 0)), (1, .int x1), (2, .int x2), (3, .int x3)] dX0_kindsLike_1 (Nat.le_of_ble_eq_true rfl) rfl rfl ?_
  refine j_iconst (v := (1 : Int32)) C dX0_kindsLike_3 rfl ?_
  refine j_istore C [(5, .int (1 : Int32)), (4, .int (0 : Int32)), (0, .ref (h0 0)), (1, .int x1), (2, .int x2), (3, .int x3)] dX0_kindsLike_4 (Nat.le_of_ble_eq_true rfl) rfl rfl ?_
  refine j_sub [(0, .ref (h0 0)), (1, .int x1), (2, .int x2), (3, .int x3), (4, .int (0 : Int32)), (5, .int (1 : Int32))] [2, 3, 4, 5, 1, 0] rfl ?_
  refine lX0_kindsLike_6 C h0 x1 x2 x3 o0 Rk  _ _ _ hF
/-! HeadsMeet$Answers.mostLeft -/
def LX0_mostLeft_5 (x1 : Int32) (x2 : Int32) (o0 : Ob) : Nat → Int32 → Int32 → Option (Int32)
  | 0, _, _ => none
  | n + 1, x3, x4 =>
    if (3 : Int32) < x4 then
      some x3
    else
      if ((x2 >>> (x4 &&& 31)) &&& (1 : Int32)) = (1 : Int32) then
        b1 (FX0_kindsLike x4 x1 x2 o0) fun r_1 =>
        lT (if x3 < r_1 then r_1 else x3) fun x3_3 =>
        lT (x4 + (1 : Int32)) fun x4_5 =>
        LX0_mostLeft_5 x1 x2 o0 n x3_3 x4_5
      else
        lT (x4 + (1 : Int32)) fun x4_7 =>
        LX0_mostLeft_5 x1 x2 o0 n x3 x4_7
def FX0_mostLeft (x1 : Int32) (x2 : Int32) (o0 : Ob) : Option (Int32) :=
  LX0_mostLeft_5 x1 x2 o0 fu (0 : Int32) (1 : Int32)
set_option maxRecDepth 100000 in
set_option maxHeartbeats 4000000 in
theorem lX0_mostLeft_5 {g : Gl} {X : Cxt} (C : CxOk g X cX0_mostLeft RX0 (Cond.code yX0_mostLeft cX0_mostLeft 5 (some .int) :: wsL_law) 5 2 49) {r : Int32} (h0 : Nat → Nat) (x1 : Int32) (x2 : Int32) (o0 : Ob)  (Rk : RetOk g X [(shX0, h0, o0)] (some (.int r)) (some .int))  : ∀ (n : Nat) (x3 : Int32) (x4 : Int32), LX0_mostLeft_5 x1 x2 o0 n x3 x4 = some r → J g X [(shX0, h0, o0)] 5 [(0, .ref (h0 0)), (1, .int x1), (2, .int x2), (3, .int x3), (4, .int x4)] [] := by
  intro n
  induction n with
  | zero =>
    intro x3 x4 hF
    cases hF
  | succ n ih =>
    intro x3 x4 hF
    rw [LX0_mostLeft_5.eq_2] at hF
    refine j_iload C 4 dX0_mostLeft_5 rfl ?_
    refine j_iconst (v := (3 : Int32)) C dX0_mostLeft_7 rfl ?_
    refine j_icmp_gt C 40 dX0_mostLeft_8 rfl (fun c_10 => ?_) (fun c_10 => ?_)
    · have hF := (if_pos c_10).symm.trans hF
      refine j_iload_n C 3 dX0_mostLeft_40 rfl rfl ?_
      cases hF
      exact j_iret C Rk dX0_mostLeft_41
    · have hF := (if_neg c_10).symm.trans hF
      refine j_iload_n C 2 dX0_mostLeft_11 rfl rfl ?_
      refine j_iload C 4 dX0_mostLeft_12 rfl ?_
      refine j_ishr C dX0_mostLeft_14 ?_
      refine j_iconst (v := (1 : Int32)) C dX0_mostLeft_15 rfl ?_
      refine j_iand C dX0_mostLeft_16 ?_
      refine j_iconst (v := (1 : Int32)) C dX0_mostLeft_17 rfl ?_
      refine j_icmp_ne C 34 dX0_mostLeft_18 rfl (fun c_9 => ?_) (fun c_9 => ?_)
      · have hF := (if_neg c_9).symm.trans hF
        obtain ⟨x4_7, e_8, hF⟩ := glT hF
        refine j_iinc C 4 [(4, .int x4_7), (0, .ref (h0 0)), (1, .int x1), (2, .int x2), (3, .int x3)] dX0_mostLeft_34 rfl e_8.symm (Nat.le_of_ble_eq_true rfl) rfl ?_
        refine j_goto C 5 dX0_mostLeft_37 rfl ?_
        refine j_sub [(0, .ref (h0 0)), (1, .int x1), (2, .int x2), (3, .int x3), (4, .int x4_7)] [1, 2, 3, 4, 0] rfl ?_
        exact ih _ _ hF
      · have hF := (if_pos c_9).symm.trans hF
        refine j_iload_n C 3 dX0_mostLeft_21 rfl rfl ?_
        refine j_aload_n C 0 dX0_mostLeft_22 rfl rfl ?_
        refine j_iload C 4 dX0_mostLeft_23 rfl ?_
        refine j_iload_n C 1 dX0_mostLeft_25 rfl rfl ?_
        refine j_iload_n C 2 dX0_mostLeft_26 rfl rfl ?_
        obtain ⟨r_1, k_2, hF⟩ := gb1 hF
        refine j_callVi C (os' := [(shX0, h0, o0)]) [.int x4, .int x1, .int x2] (kX0_kindsLike g h0 x4 x1 x2 o0 k_2) [0] rfl rfl rfl rfl 0 rfl rfl (wl_gV mw_23_20 mw_23_21 mw_23_22 mw_2_14 mw_23_23) rfl 3 rfl hd_X0_kindsLike ⟨Nat.le_of_ble_eq_true rfl, Nat.le_of_ble_eq_true rfl⟩ (Nat.le_of_ble_eq_true rfl) rfl dX0_mostLeft_27 ?_
        refine j_mmax C (List.mem_cons_of_mem _ mw_23_19) (List.mem_cons_of_mem _ mw_10_18) (List.mem_cons_of_mem _ mw_10_19) (List.mem_cons_of_mem _ mw_10_20) (Nat.le_of_ble_eq_true rfl) (Nat.le_of_ble_eq_true rfl) dX0_mostLeft_30 ?_
        obtain ⟨x3_3, e_4, hF⟩ := glT hF
        refine j_istore_n C [(3, .int x3_3), (0, .ref (h0 0)), (1, .int x1), (2, .int x2), (4, .int x4)] dX0_mostLeft_33 rfl (Nat.le_of_ble_eq_true rfl) e_4 rfl ?_
        obtain ⟨x4_5, e_6, hF⟩ := glT hF
        refine j_iinc C 4 [(4, .int x4_5), (3, .int x3_3), (0, .ref (h0 0)), (1, .int x1), (2, .int x2)] dX0_mostLeft_34 rfl e_6.symm (Nat.le_of_ble_eq_true rfl) rfl ?_
        refine j_goto C 5 dX0_mostLeft_37 rfl ?_
        refine j_sub [(0, .ref (h0 0)), (1, .int x1), (2, .int x2), (3, .int x3_3), (4, .int x4_5)] [2, 3, 4, 1, 0] rfl ?_
        exact ih _ _ hF
set_option maxRecDepth 100000 in
set_option maxHeartbeats 4000000 in
theorem kX0_mostLeft (g : Gl) (h0 : Nat → Nat) (x1 : Int32) (x2 : Int32) (o0 : Ob) {r : Int32} (hF : FX0_mostLeft x1 x2 o0 = some r) : Ctr g yX0_mostLeft (Cond.code yX0_mostLeft cX0_mostLeft 5 (some .int) :: wsL_law) 2 49 [(shX0, h0, o0)] [(shX0, h0, o0)] [.ref (h0 0), .int x1, .int x2] (some (.int r)) := by
  refine Ctr.of (cc := cX0_mostLeft) (maxL := 5) (ret := (some .int)) (by decide) rfl (Nat.le_of_ble_eq_true rfl) ?_
  intro X C Rk
  replace C : CxOk g X cX0_mostLeft RX0 (Cond.code yX0_mostLeft cX0_mostLeft 5 (some .int) :: wsL_law) 5 2 49 := C
  show J g X [(shX0, h0, o0)] 0 [(0, .ref (h0 0)), (1, .int x1), (2, .int x2)] []
  unfold FX0_mostLeft at hF
  refine j_iconst (v := (0 : Int32)) C dX0_mostLeft_0 rfl ?_
  refine j_istore_n C [(3, .int (0 : Int32)), (0, .ref (h0 0)), (1, .int x1), (2, .int x2)] dX0_mostLeft_1 rfl (Nat.le_of_ble_eq_true rfl) rfl rfl ?_
  refine j_iconst (v := (1 : Int32)) C dX0_mostLeft_2 rfl ?_
  refine j_istore C [(4, .int (1 : Int32)), (3, .int (0 : Int32)), (0, .ref (h0 0)), (1, .int x1), (2, .int x2)] dX0_mostLeft_3 (Nat.le_of_ble_eq_true rfl) rfl rfl ?_
  refine j_sub [(0, .ref (h0 0)), (1, .int x1), (2, .int x2), (3, .int (0 : Int32)), (4, .int (1 : Int32))] [2, 3, 4, 1, 0] rfl ?_
  refine lX0_mostLeft_5 C h0 x1 x2 o0 Rk  _ _ _ hF
/-! HeadsMeet$Answers.bestQuestion -/
def LX0_bestQuestion_10 (x1 : Int32) (o0 : Ob) : Nat → Int32 → Int32 → Option (Int32)
  | 0, _, _ => none
  | n + 1, x2, x3 =>
    if (4 : Int32) ≤ x3 then
      some x2
    else
      b1 (FX0_mostLeft x3 x1 o0) fun r_1 =>
      b1 (FX0_mostLeft x2 x1 o0) fun r_3 =>
      if r_3 ≤ r_1 then
        lT (x3 + (1 : Int32)) fun x3_7 =>
        LX0_bestQuestion_10 x1 o0 n x2 x3_7
      else
        lT (x3 + (1 : Int32)) fun x3_5 =>
        LX0_bestQuestion_10 x1 o0 n x3 x3_5
def FX0_bestQuestion (x1 : Int32) (o0 : Ob) : Option (Int32) :=
  if x1 = 0 then
    some (-1 : Int32)
  else
    LX0_bestQuestion_10 x1 o0 fu (0 : Int32) (1 : Int32)
set_option maxRecDepth 100000 in
set_option maxHeartbeats 4000000 in
theorem lX0_bestQuestion_10 {g : Gl} {X : Cxt} (C : CxOk g X cX0_bestQuestion RX0 (Cond.code yX0_bestQuestion cX0_bestQuestion 4 (some .int) :: wsL_law) 4 3 73) {r : Int32} (h0 : Nat → Nat) (x1 : Int32) (o0 : Ob)  (Rk : RetOk g X [(shX0, h0, o0)] (some (.int r)) (some .int))  : ∀ (n : Nat) (x2 : Int32) (x3 : Int32), LX0_bestQuestion_10 x1 o0 n x2 x3 = some r → J g X [(shX0, h0, o0)] 10 [(0, .ref (h0 0)), (1, .int x1), (2, .int x2), (3, .int x3)] [] := by
  intro n
  induction n with
  | zero =>
    intro x2 x3 hF
    cases hF
  | succ n ih =>
    intro x2 x3 hF
    rw [LX0_bestQuestion_10.eq_2] at hF
    refine j_iload_n C 3 dX0_bestQuestion_10 rfl rfl ?_
    refine j_iconst (v := (4 : Int32)) C dX0_bestQuestion_11 rfl ?_
    refine j_icmp_ge C 38 dX0_bestQuestion_12 rfl (fun c_10 => ?_) (fun c_10 => ?_)
    · have hF := (if_pos c_10).symm.trans hF
      refine j_iload_n C 2 dX0_bestQuestion_38 rfl rfl ?_
      cases hF
      exact j_iret C Rk dX0_bestQuestion_39
    · have hF := (if_neg c_10).symm.trans hF
      refine j_aload_n C 0 dX0_bestQuestion_15 rfl rfl ?_
      refine j_iload_n C 3 dX0_bestQuestion_16 rfl rfl ?_
      refine j_iload_n C 1 dX0_bestQuestion_17 rfl rfl ?_
      obtain ⟨r_1, k_2, hF⟩ := gb1 hF
      refine j_callVi C (os' := [(shX0, h0, o0)]) [.int x3, .int x1] (kX0_mostLeft g h0 x3 x1 o0 k_2) [0] rfl rfl rfl rfl 0 rfl rfl (wl_gV mw_23_15 mw_23_16 mw_23_17 mw_2_14 mw_23_18) rfl 2 rfl hd_X0_mostLeft ⟨Nat.le_of_ble_eq_true rfl, Nat.le_of_ble_eq_true rfl⟩ (Nat.le_of_ble_eq_true rfl) rfl dX0_bestQuestion_18 ?_
      refine j_aload_n C 0 dX0_bestQuestion_21 rfl rfl ?_
      refine j_iload_n C 2 dX0_bestQuestion_22 rfl rfl ?_
      refine j_iload_n C 1 dX0_bestQuestion_23 rfl rfl ?_
      obtain ⟨r_3, k_4, hF⟩ := gb1 hF
      refine j_callVi C (os' := [(shX0, h0, o0)]) [.int x2, .int x1] (kX0_mostLeft g h0 x2 x1 o0 k_4) [0] rfl rfl rfl rfl 0 rfl rfl (wl_gV mw_23_15 mw_23_16 mw_23_17 mw_2_14 mw_23_18) rfl 2 rfl hd_X0_mostLeft ⟨Nat.le_of_ble_eq_true rfl, Nat.le_of_ble_eq_true rfl⟩ (Nat.le_of_ble_eq_true rfl) rfl dX0_bestQuestion_24 ?_
      refine j_icmp_ge C 32 dX0_bestQuestion_27 rfl (fun c_9 => ?_) (fun c_9 => ?_)
      · have hF := (if_pos c_9).symm.trans hF
        obtain ⟨x3_7, e_8, hF⟩ := glT hF
        refine j_iinc C 3 [(3, .int x3_7), (0, .ref (h0 0)), (1, .int x1), (2, .int x2)] dX0_bestQuestion_32 rfl e_8.symm (Nat.le_of_ble_eq_true rfl) rfl ?_
        refine j_goto C 10 dX0_bestQuestion_35 rfl ?_
        refine j_sub [(0, .ref (h0 0)), (1, .int x1), (2, .int x2), (3, .int x3_7)] [1, 2, 3, 0] rfl ?_
        exact ih _ _ hF
      · have hF := (if_neg c_9).symm.trans hF
        refine j_iload_n C 3 dX0_bestQuestion_30 rfl rfl ?_
        refine j_istore_n C [(2, .int x3), (0, .ref (h0 0)), (1, .int x1), (3, .int x3)] dX0_bestQuestion_31 rfl (Nat.le_of_ble_eq_true rfl) rfl rfl ?_
        obtain ⟨x3_5, e_6, hF⟩ := glT hF
        refine j_iinc C 3 [(3, .int x3_5), (2, .int x3), (0, .ref (h0 0)), (1, .int x1)] dX0_bestQuestion_32 rfl e_6.symm (Nat.le_of_ble_eq_true rfl) rfl ?_
        refine j_goto C 10 dX0_bestQuestion_35 rfl ?_
        refine j_sub [(0, .ref (h0 0)), (1, .int x1), (2, .int x3), (3, .int x3_5)] [2, 3, 1, 0] rfl ?_
        exact ih _ _ hF
set_option maxRecDepth 100000 in
set_option maxHeartbeats 4000000 in
theorem kX0_bestQuestion (g : Gl) (h0 : Nat → Nat) (x1 : Int32) (o0 : Ob) {r : Int32} (hF : FX0_bestQuestion x1 o0 = some r) : Ctr g yX0_bestQuestion (Cond.code yX0_bestQuestion cX0_bestQuestion 4 (some .int) :: wsL_law) 3 73 [(shX0, h0, o0)] [(shX0, h0, o0)] [.ref (h0 0), .int x1] (some (.int r)) := by
  refine Ctr.of (cc := cX0_bestQuestion) (maxL := 4) (ret := (some .int)) (by decide) rfl (Nat.le_of_ble_eq_true rfl) ?_
  intro X C Rk
  replace C : CxOk g X cX0_bestQuestion RX0 (Cond.code yX0_bestQuestion cX0_bestQuestion 4 (some .int) :: wsL_law) 4 3 73 := C
  show J g X [(shX0, h0, o0)] 0 [(0, .ref (h0 0)), (1, .int x1)] []
  unfold FX0_bestQuestion at hF
  refine j_iload_n C 1 dX0_bestQuestion_0 rfl rfl ?_
  refine j_if_ne C 6 dX0_bestQuestion_1 rfl (fun c_11 => ?_) (fun c_11 => ?_)
  · have hF := (if_neg c_11).symm.trans hF
    refine j_iconst (v := (0 : Int32)) C dX0_bestQuestion_6 rfl ?_
    refine j_istore_n C [(2, .int (0 : Int32)), (0, .ref (h0 0)), (1, .int x1)] dX0_bestQuestion_7 rfl (Nat.le_of_ble_eq_true rfl) rfl rfl ?_
    refine j_iconst (v := (1 : Int32)) C dX0_bestQuestion_8 rfl ?_
    refine j_istore_n C [(3, .int (1 : Int32)), (2, .int (0 : Int32)), (0, .ref (h0 0)), (1, .int x1)] dX0_bestQuestion_9 rfl (Nat.le_of_ble_eq_true rfl) rfl rfl ?_
    refine j_sub [(0, .ref (h0 0)), (1, .int x1), (2, .int (0 : Int32)), (3, .int (1 : Int32))] [2, 3, 1, 0] rfl ?_
    refine lX0_bestQuestion_10 C h0 x1 o0 Rk  _ _ _ hF
  · have hF := (if_pos c_11).symm.trans hF
    refine j_iconst (v := (-1 : Int32)) C dX0_bestQuestion_4 rfl ?_
    cases hF
    exact j_iret C Rk dX0_bestQuestion_5
/-! HeadsMeet$Sightings.add -/
def FX4_add (x1 : Int32) (x2 : Int32) (x3 : Int32) (o0 : Ob) : Option (Int32 × Ob) :=
  if (oV o0 3) < (6 : Int32) then
    if inb (oV o0 3) 6 then
    lT (sA o0 0 (oV o0 3).toNatClampNeg x1) fun o0_3 =>
    if inb (oV o0_3 3) 6 then
    lT (sA o0_3 1 (oV o0_3 3).toNatClampNeg x2) fun o0_6 =>
    if inb (oV o0_6 3) 6 then
    lT (sA o0_6 2 (oV o0_6 3).toNatClampNeg x3) fun o0_9 =>
    lT (sV o0_9 3 ((oV o0_9 3) + (1 : Int32))) fun o0_11 =>
    some ((1 : Int32), o0_11)
    else none
    else none
    else none
  else
    some ((0 : Int32), o0)
set_option maxRecDepth 100000 in
set_option maxHeartbeats 4000000 in
theorem kX4_add (g : Gl) (h0 : Nat → Nat) (x1 : Int32) (x2 : Int32) (x3 : Int32) (o0 : Ob) {r : Int32} {o0' : Ob} (hF : FX4_add x1 x2 x3 o0 = some (r, o0')) : Ctr g yX4_add (Cond.code yX4_add cX4_add 4 (some .boolean) :: wsL_law) 0 0 [(shX4, h0, o0)] [(shX4, h0, o0')] [.ref (h0 0), .int x1, .int x2, .int x3] (some (.int r)) := by
  refine Ctr.of (cc := cX4_add) (maxL := 4) (ret := (some .boolean)) (by decide) rfl (Nat.le_of_ble_eq_true rfl) ?_
  intro X C Rk
  replace C : CxOk g X cX4_add RX4 (Cond.code yX4_add cX4_add 4 (some .boolean) :: wsL_law) 4 0 0 := C
  show J g X [(shX4, h0, o0)] 0 [(0, .ref (h0 0)), (1, .int x1), (2, .int x2), (3, .int x3)] []
  unfold FX4_add at hF
  refine j_aload_n C 0 dX4_add_0 rfl rfl ?_
  refine j_get (v := .int (oV o0 3)) C 0 3 rfl rfl (Nat.le_of_ble_eq_true rfl) rfl rfl in1_X4 (List.mem_cons_of_mem _ mw_18_2) dX4_add_1 ?_
  refine j_bipush (v := (6 : Int32)) C dX4_add_4 rfl ?_
  refine j_icmp_lt C 11 dX4_add_6 rfl (fun c_12 => ?_) (fun c_12 => ?_)
  · have hF := (if_pos c_12).symm.trans hF
    refine j_aload_n C 0 dX4_add_11 rfl rfl ?_
    refine j_get (v := .ref (h0 1)) C 0 0 rfl rfl (Nat.le_of_ble_eq_true rfl) rfl rfl in1_X4 (List.mem_cons_of_mem _ mw_3_18) dX4_add_12 ?_
    refine j_aload_n C 0 dX4_add_15 rfl rfl ?_
    refine j_get (v := .int (oV o0 3)) C 0 3 rfl rfl (Nat.le_of_ble_eq_true rfl) rfl rfl in1_X4 (List.mem_cons_of_mem _ mw_18_2) dX4_add_16 ?_
    refine j_iload_n C 1 dX4_add_19 rfl rfl ?_
    obtain ⟨z_1, hF⟩ := gi hF
    obtain ⟨o0_3, e_2, hF⟩ := glT hF
    refine j_iast C 0 0 rfl rfl z_1 [(shX4, h0, o0_3)] (by rw [e_2]; rfl) dX4_add_20 ?_
    refine j_aload_n C 0 dX4_add_21 rfl rfl ?_
    refine j_get (v := .ref (h0 2)) C 0 1 rfl rfl (Nat.le_of_ble_eq_true rfl) rfl rfl in1_X4 (List.mem_cons_of_mem _ mw_3_19) dX4_add_22 ?_
    refine j_aload_n C 0 dX4_add_25 rfl rfl ?_
    refine j_get (v := .int (oV o0_3 3)) C 0 3 rfl rfl (Nat.le_of_ble_eq_true rfl) rfl rfl in1_X4 (List.mem_cons_of_mem _ mw_18_2) dX4_add_26 ?_
    refine j_iload_n C 2 dX4_add_29 rfl rfl ?_
    obtain ⟨z_4, hF⟩ := gi hF
    obtain ⟨o0_6, e_5, hF⟩ := glT hF
    refine j_iast C 0 1 rfl rfl z_4 [(shX4, h0, o0_6)] (by rw [e_5]; rfl) dX4_add_30 ?_
    refine j_aload_n C 0 dX4_add_31 rfl rfl ?_
    refine j_get (v := .ref (h0 3)) C 0 2 rfl rfl (Nat.le_of_ble_eq_true rfl) rfl rfl in1_X4 (List.mem_cons_of_mem _ mw_3_20) dX4_add_32 ?_
    refine j_aload_n C 0 dX4_add_35 rfl rfl ?_
    refine j_get (v := .int (oV o0_6 3)) C 0 3 rfl rfl (Nat.le_of_ble_eq_true rfl) rfl rfl in1_X4 (List.mem_cons_of_mem _ mw_18_2) dX4_add_36 ?_
    refine j_iload_n C 3 dX4_add_39 rfl rfl ?_
    obtain ⟨z_7, hF⟩ := gi hF
    obtain ⟨o0_9, e_8, hF⟩ := glT hF
    refine j_iast C 0 2 rfl rfl z_7 [(shX4, h0, o0_9)] (by rw [e_8]; rfl) dX4_add_40 ?_
    refine j_aload_n C 0 dX4_add_41 rfl rfl ?_
    refine j_dup C rfl dX4_add_42 ?_
    refine j_get (v := .int (oV o0_9 3)) C 0 3 rfl rfl (Nat.le_of_ble_eq_true rfl) rfl rfl in1_X4 (List.mem_cons_of_mem _ mw_18_2) dX4_add_43 ?_
    refine j_iconst (v := (1 : Int32)) C dX4_add_46 rfl ?_
    refine j_iadd C dX4_add_47 ?_
    obtain ⟨o0_11, e_10, hF⟩ := glT hF
    refine j_putV C tyX4_ok nmX4 0 3 rfl rfl (Nat.le_of_ble_eq_true rfl) rfl in1_X4 (List.mem_cons_of_mem _ mw_18_2) rfl fd_X4_3 rfl rfl [(shX4, h0, o0_11)] (by rw [e_10]; rfl) dX4_add_48 ?_
    refine j_iconst (v := (1 : Int32)) C dX4_add_51 rfl ?_
    cases hF
    exact j_zret C rfl Rk dX4_add_52
  · have hF := (if_neg c_12).symm.trans hF
    refine j_iconst (v := (0 : Int32)) C dX4_add_9 rfl ?_
    cases hF
    exact j_zret C rfl Rk dX4_add_10
/-! HeadsMeet$Sightings.size -/
def FX4_size  (o0 : Ob) : Option (Int32) :=
  some (oV o0 3)
set_option maxRecDepth 100000 in
set_option maxHeartbeats 4000000 in
theorem kX4_size (g : Gl) (h0 : Nat → Nat)  (o0 : Ob) {r : Int32} (hF : FX4_size o0 = some r) : Ctr g yX4_size (Cond.code yX4_size cX4_size 1 (some .int) :: wsL_law) 0 0 [(shX4, h0, o0)] [(shX4, h0, o0)] [.ref (h0 0)] (some (.int r)) := by
  refine Ctr.of (cc := cX4_size) (maxL := 1) (ret := (some .int)) (by decide) rfl (Nat.le_of_ble_eq_true rfl) ?_
  intro X C Rk
  replace C : CxOk g X cX4_size RX4 (Cond.code yX4_size cX4_size 1 (some .int) :: wsL_law) 1 0 0 := C
  show J g X [(shX4, h0, o0)] 0 [(0, .ref (h0 0))] []
  unfold FX4_size at hF
  refine j_aload_n C 0 dX4_size_0 rfl rfl ?_
  refine j_get (v := .int (oV o0 3)) C 0 3 rfl rfl (Nat.le_of_ble_eq_true rfl) rfl rfl in1_X4 (List.mem_cons_of_mem _ mw_18_2) dX4_size_1 ?_
  cases hF
  exact j_iret C Rk dX4_size_4
/-! HeadsMeet$Sightings.copyFrom -/
def FX4_copyFrom  (o0 : Ob) (o1 : Ob) : Option (Ob) :=
  if cpok (0 : Int32) (0 : Int32) (6 : Int32) 6 6 then
  lT (sR o0 0 (va_cpy (oA o1 0) (oA o0 0) (0 : Int32).toNatClampNeg (0 : Int32).toNatClampNeg (6 : Int32).toNatClampNeg)) fun o0_3 =>
  if cpok (0 : Int32) (0 : Int32) (6 : Int32) 6 6 then
  lT (sR o0_3 1 (va_cpy (oA o1 1) (oA o0_3 1) (0 : Int32).toNatClampNeg (0 : Int32).toNatClampNeg (6 : Int32).toNatClampNeg)) fun o0_6 =>
  if cpok (0 : Int32) (0 : Int32) (6 : Int32) 6 6 then
  lT (sR o0_6 2 (va_cpy (oA o1 2) (oA o0_6 2) (0 : Int32).toNatClampNeg (0 : Int32).toNatClampNeg (6 : Int32).toNatClampNeg)) fun o0_9 =>
  lT (sV o0_9 3 (oV o1 3)) fun o0_11 =>
  some o0_11
  else none
  else none
  else none
set_option maxRecDepth 100000 in
set_option maxHeartbeats 4000000 in
theorem kX4_copyFrom (g : Gl) (h0 : Nat → Nat) (h1 : Nat → Nat)  (o0 : Ob) (o1 : Ob) {o0' : Ob} (hF : FX4_copyFrom o0 o1 = some o0') : Ctr g yX4_copyFrom (Cond.code yX4_copyFrom cX4_copyFrom 2 none :: wsL_law) 1 60 [(shX4, h0, o0), (shX4, h1, o1)] [(shX4, h0, o0'), (shX4, h1, o1)] [.ref (h0 0), .ref (h1 0)] none := by
  refine Ctr.of (cc := cX4_copyFrom) (maxL := 2) (ret := none) (by decide) rfl (Nat.le_of_ble_eq_true rfl) ?_
  intro X C Rk
  replace C : CxOk g X cX4_copyFrom RX4 (Cond.code yX4_copyFrom cX4_copyFrom 2 none :: wsL_law) 2 1 60 := C
  show J g X [(shX4, h0, o0), (shX4, h1, o1)] 0 [(0, .ref (h0 0)), (1, .ref (h1 0))] []
  unfold FX4_copyFrom at hF
  refine j_aload_n C 1 dX4_copyFrom_0 rfl rfl ?_
  refine j_get (v := .ref (h1 1)) C 1 0 rfl rfl (Nat.le_of_ble_eq_true rfl) rfl rfl in1_X4 (List.mem_cons_of_mem _ mw_3_18) dX4_copyFrom_1 ?_
  refine j_iconst (v := (0 : Int32)) C dX4_copyFrom_4 rfl ?_
  refine j_aload_n C 0 dX4_copyFrom_5 rfl rfl ?_
  refine j_get (v := .ref (h0 1)) C 0 0 rfl rfl (Nat.le_of_ble_eq_true rfl) rfl rfl in1_X4 (List.mem_cons_of_mem _ mw_3_18) dX4_copyFrom_6 ?_
  refine j_iconst (v := (0 : Int32)) C dX4_copyFrom_9 rfl ?_
  refine j_bipush (v := (6 : Int32)) C dX4_copyFrom_10 rfl ?_
  obtain ⟨z_1, hF⟩ := gi hF
  obtain ⟨o0_3, e_2, hF⟩ := glT hF
  refine j_copy C 1 0 0 0 rfl rfl rfl rfl z_1 (List.mem_cons_of_mem _ mw_40_21) (List.mem_cons_of_mem _ mw_17_19) (List.mem_cons_of_mem _ mw_17_20) (List.mem_cons_of_mem _ mw_17_21) (Nat.le_of_ble_eq_true rfl) (Nat.le_of_ble_eq_true rfl) [(shX4, h0, o0_3), (shX4, h1, o1)] (by rw [e_2]; rfl) dX4_copyFrom_12 ?_
  refine j_aload_n C 1 dX4_copyFrom_15 rfl rfl ?_
  refine j_get (v := .ref (h1 2)) C 1 1 rfl rfl (Nat.le_of_ble_eq_true rfl) rfl rfl in1_X4 (List.mem_cons_of_mem _ mw_3_19) dX4_copyFrom_16 ?_
  refine j_iconst (v := (0 : Int32)) C dX4_copyFrom_19 rfl ?_
  refine j_aload_n C 0 dX4_copyFrom_20 rfl rfl ?_
  refine j_get (v := .ref (h0 2)) C 0 1 rfl rfl (Nat.le_of_ble_eq_true rfl) rfl rfl in1_X4 (List.mem_cons_of_mem _ mw_3_19) dX4_copyFrom_21 ?_
  refine j_iconst (v := (0 : Int32)) C dX4_copyFrom_24 rfl ?_
  refine j_bipush (v := (6 : Int32)) C dX4_copyFrom_25 rfl ?_
  obtain ⟨z_4, hF⟩ := gi hF
  obtain ⟨o0_6, e_5, hF⟩ := glT hF
  refine j_copy C 1 1 0 1 rfl rfl rfl rfl z_4 (List.mem_cons_of_mem _ mw_40_21) (List.mem_cons_of_mem _ mw_17_19) (List.mem_cons_of_mem _ mw_17_20) (List.mem_cons_of_mem _ mw_17_21) (Nat.le_of_ble_eq_true rfl) (Nat.le_of_ble_eq_true rfl) [(shX4, h0, o0_6), (shX4, h1, o1)] (by rw [e_5]; rfl) dX4_copyFrom_27 ?_
  refine j_aload_n C 1 dX4_copyFrom_30 rfl rfl ?_
  refine j_get (v := .ref (h1 3)) C 1 2 rfl rfl (Nat.le_of_ble_eq_true rfl) rfl rfl in1_X4 (List.mem_cons_of_mem _ mw_3_20) dX4_copyFrom_31 ?_
  refine j_iconst (v := (0 : Int32)) C dX4_copyFrom_34 rfl ?_
  refine j_aload_n C 0 dX4_copyFrom_35 rfl rfl ?_
  refine j_get (v := .ref (h0 3)) C 0 2 rfl rfl (Nat.le_of_ble_eq_true rfl) rfl rfl in1_X4 (List.mem_cons_of_mem _ mw_3_20) dX4_copyFrom_36 ?_
  refine j_iconst (v := (0 : Int32)) C dX4_copyFrom_39 rfl ?_
  refine j_bipush (v := (6 : Int32)) C dX4_copyFrom_40 rfl ?_
  obtain ⟨z_7, hF⟩ := gi hF
  obtain ⟨o0_9, e_8, hF⟩ := glT hF
  refine j_copy C 1 2 0 2 rfl rfl rfl rfl z_7 (List.mem_cons_of_mem _ mw_40_21) (List.mem_cons_of_mem _ mw_17_19) (List.mem_cons_of_mem _ mw_17_20) (List.mem_cons_of_mem _ mw_17_21) (Nat.le_of_ble_eq_true rfl) (Nat.le_of_ble_eq_true rfl) [(shX4, h0, o0_9), (shX4, h1, o1)] (by rw [e_8]; rfl) dX4_copyFrom_42 ?_
  refine j_aload_n C 0 dX4_copyFrom_45 rfl rfl ?_
  refine j_aload_n C 1 dX4_copyFrom_46 rfl rfl ?_
  refine j_get (v := .int (oV o1 3)) C 1 3 rfl rfl (Nat.le_of_ble_eq_true rfl) rfl rfl in1_X4 (List.mem_cons_of_mem _ mw_18_2) dX4_copyFrom_47 ?_
  obtain ⟨o0_11, e_10, hF⟩ := glT hF
  refine j_putV C tyX4_ok nmX4 0 3 rfl rfl (Nat.le_of_ble_eq_true rfl) rfl in1_X4 (List.mem_cons_of_mem _ mw_18_2) rfl fd_X4_3 rfl rfl [(shX4, h0, o0_11), (shX4, h1, o1)] (by rw [e_10]; rfl) dX4_copyFrom_50 ?_
  cases hF
  exact j_vret C Rk dX4_copyFrom_53
/-! HeadsMeet$Page.hashedInto -/
def LX3_hashedInto_5 (o0 : Ob) : Nat → Int64 → Int32 → Option (Int64)
  | 0, _, _ => none
  | n + 1, x3, x5 =>
    if (oV o0 1) ≤ x5 then
      some x3
    else
      b1 (FX3_at x5 o0) fun r_1 =>
      lT (((31 : Int64) * x3) + r_1.toInt64) fun x3_3 =>
      lT (x5 + (1 : Int32)) fun x5_5 =>
      LX3_hashedInto_5 o0 n x3_3 x5_5
def FX3_hashedInto (x1 : Int64) (o0 : Ob) : Option (Int64) :=
  LX3_hashedInto_5 o0 fu x1 (0 : Int32)
set_option maxRecDepth 100000 in
set_option maxHeartbeats 4000000 in
theorem lX3_hashedInto_5 {g : Gl} {X : Cxt} (C : CxOk g X cX3_hashedInto RX3 (Cond.code yX3_hashedInto cX3_hashedInto 6 (some .long) :: wsL_law) 6 1 21) {r : Int64} (h0 : Nat → Nat) (o0 : Ob)  (Rk : RetOk g X [(shX3, h0, o0)] (some (.long r)) (some .long))  : ∀ (n : Nat) (x3 : Int64) (x5 : Int32), LX3_hashedInto_5 o0 n x3 x5 = some r → J g X [(shX3, h0, o0)] 5 [(0, .ref (h0 0)), (3, .long x3), (5, .int x5)] [] := by
  intro n
  induction n with
  | zero =>
    intro x3 x5 hF
    cases hF
  | succ n ih =>
    intro x3 x5 hF
    rw [LX3_hashedInto_5.eq_2] at hF
    refine j_iload C 2 dX3_hashedInto_5 rfl ?_
    refine j_aload_n C 0 dX3_hashedInto_7 rfl rfl ?_
    refine j_get (v := .int (oV o0 1)) C 0 1 rfl rfl (Nat.le_of_ble_eq_true rfl) rfl rfl in1_X3 (List.mem_cons_of_mem _ mw_6_8) dX3_hashedInto_8 ?_
    refine j_icmp_ge C 34 dX3_hashedInto_11 rfl (fun c_7 => ?_) (fun c_7 => ?_)
    · have hF := (if_pos c_7).symm.trans hF
      refine j_lload_n C 1 dX3_hashedInto_34 rfl rfl ?_
      cases hF
      exact j_lret C Rk dX3_hashedInto_35
    · have hF := (if_neg c_7).symm.trans hF
      refine j_ldc2 (v := (31 : Int64)) C (List.mem_cons_of_mem _ mw_43_22) dX3_hashedInto_14 ?_
      refine j_lload_n C 1 dX3_hashedInto_17 rfl rfl ?_
      refine j_lmul C dX3_hashedInto_18 ?_
      refine j_aload_n C 0 dX3_hashedInto_19 rfl rfl ?_
      refine j_iload C 2 dX3_hashedInto_20 rfl ?_
      obtain ⟨r_1, k_2, hF⟩ := gb1 hF
      refine j_callVi C (os' := [(shX3, h0, o0)]) [.int x5] (kX3_at g h0 x5 o0 k_2) [0] rfl rfl rfl rfl 0 rfl rfl (wl_gV mw_43_23 mw_8_6 mw_8_7 mw_1_14 mw_8_8) rfl 1 rfl hd_X3_at ⟨Nat.le_of_ble_eq_true rfl, Nat.le_of_ble_eq_true rfl⟩ (Nat.le_of_ble_eq_true rfl) rfl dX3_hashedInto_22 ?_
      refine j_i2l C dX3_hashedInto_25 ?_
      refine j_ladd C dX3_hashedInto_26 ?_
      obtain ⟨x3_3, e_4, hF⟩ := glT hF
      refine j_lstore_n C [(3, .long x3_3), (0, .ref (h0 0)), (5, .int x5)] dX3_hashedInto_27 rfl (Nat.le_of_ble_eq_true rfl) e_4 rfl ?_
      obtain ⟨x5_5, e_6, hF⟩ := glT hF
      refine j_iinc C 2 [(5, .int x5_5), (3, .long x3_3), (0, .ref (h0 0))] dX3_hashedInto_28 rfl e_6.symm (Nat.le_of_ble_eq_true rfl) rfl ?_
      refine j_goto C 5 dX3_hashedInto_31 rfl ?_
      refine j_sub [(0, .ref (h0 0)), (3, .long x3_3), (5, .int x5_5)] [2, 1, 0] rfl ?_
      exact ih _ _ hF
set_option maxRecDepth 100000 in
set_option maxHeartbeats 4000000 in
theorem kX3_hashedInto (g : Gl) (h0 : Nat → Nat) (x1 : Int64) (o0 : Ob) {r : Int64} (hF : FX3_hashedInto x1 o0 = some r) : Ctr g yX3_hashedInto (Cond.code yX3_hashedInto cX3_hashedInto 6 (some .long) :: wsL_law) 1 21 [(shX3, h0, o0)] [(shX3, h0, o0)] [.ref (h0 0), .long x1] (some (.long r)) := by
  refine Ctr.of (cc := cX3_hashedInto) (maxL := 6) (ret := (some .long)) (by decide) rfl (Nat.le_of_ble_eq_true rfl) ?_
  intro X C Rk
  replace C : CxOk g X cX3_hashedInto RX3 (Cond.code yX3_hashedInto cX3_hashedInto 6 (some .long) :: wsL_law) 6 1 21 := C
  show J g X [(shX3, h0, o0)] 0 [(0, .ref (h0 0)), (1, .long x1)] []
  unfold FX3_hashedInto at hF
  refine j_lload_n C 1 dX3_hashedInto_0 rfl rfl ?_
  refine j_lstore_n C [(3, .long x1), (0, .ref (h0 0)), (1, .long x1)] dX3_hashedInto_1 rfl (Nat.le_of_ble_eq_true rfl) rfl rfl ?_
  refine j_iconst (v := (0 : Int32)) C dX3_hashedInto_2 rfl ?_
  refine j_istore C [(5, .int (0 : Int32)), (3, .long x1), (0, .ref (h0 0)), (1, .long x1)] dX3_hashedInto_3 (Nat.le_of_ble_eq_true rfl) rfl rfl ?_
  refine j_sub [(0, .ref (h0 0)), (3, .long x1), (5, .int (0 : Int32))] [2, 1, 0] rfl ?_
  refine lX3_hashedInto_5 C h0 o0 Rk  _ _ _ hF
