/-! HeadsMeetModel.within -/
def FX7_within (x0 : Int32) (x1 : Int32) (x2 : Int32)  : Option (Int32) :=
  if x0 < x1 then
    some (0 : Int32)
  else
    if x2 < x0 then
      some (0 : Int32)
    else
      some (1 : Int32)
set_option maxRecDepth 100000 in
set_option maxHeartbeats 4000000 in
theorem kX7_within (g : Gl)  (x0 : Int32) (x1 : Int32) (x2 : Int32)  {r : Int32} (hF : FX7_within x0 x1 x2 = some r) : Ctr g yX7_within (Cond.code yX7_within cX7_within 3 (some .boolean) :: wsL_law) 0 0 [] [] [.int x0, .int x1, .int x2] (some (.int r)) := by
  refine Ctr.of (cc := cX7_within) (maxL := 3) (ret := (some .boolean)) (by decide) rfl (Nat.le_of_ble_eq_true rfl) ?_
  intro X C Rk
  replace C : CxOk g X cX7_within RX7 (Cond.code yX7_within cX7_within 3 (some .boolean) :: wsL_law) 3 0 0 := C
  show J g X [] 0 [(0, .int x0), (1, .int x1), (2, .int x2)] []
  unfold FX7_within at hF
  refine j_iload_n C 0 dX7_within_0 rfl rfl ?_
  refine j_iload_n C 1 dX7_within_1 rfl rfl ?_
  refine j_icmp_lt C 14 dX7_within_2 rfl (fun c_2 => ?_) (fun c_2 => ?_)
  · have hF := (if_pos c_2).symm.trans hF
    refine j_iconst (v := (0 : Int32)) C dX7_within_14 rfl ?_
    cases hF
    exact j_zret C rfl Rk dX7_within_15
  · have hF := (if_neg c_2).symm.trans hF
    refine j_iload_n C 0 dX7_within_5 rfl rfl ?_
    refine j_iload_n C 2 dX7_within_6 rfl rfl ?_
    refine j_icmp_gt C 14 dX7_within_7 rfl (fun c_1 => ?_) (fun c_1 => ?_)
    · have hF := (if_pos c_1).symm.trans hF
      refine j_iconst (v := (0 : Int32)) C dX7_within_14 rfl ?_
      cases hF
      exact j_zret C rfl Rk dX7_within_15
    · have hF := (if_neg c_1).symm.trans hF
      refine j_iconst (v := (1 : Int32)) C dX7_within_10 rfl ?_
      refine j_goto C 15 dX7_within_11 rfl ?_
      cases hF
      exact j_zret C rfl Rk dX7_within_15
/-! HeadsMeetModel.empty -/
def LX7_empty_2 (E31 : Ob → Option (Ob)) : Nat → Int32 → Ob → Option (Ob)
  | 0, _, _ => none
  | n + 1, x1, o0 =>
    if (180 : Int32) ≤ x1 then
      E31 o0
    else
      if inb (((180 : Int32) * (oV o0 4)) + x1) 720 then
      lT (sA o0 0 (((180 : Int32) * (oV o0 4)) + x1).toNatClampNeg (-1 : Int32)) fun o0_3 =>
      lT (x1 + (1 : Int32)) fun x1_4 =>
      LX7_empty_2 E31 n x1_4 o0_3
      else none
def LX7_empty_33 (E62 : Ob → Option (Ob)) : Nat → Int32 → Ob → Option (Ob)
  | 0, _, _ => none
  | n + 1, x1, o0 =>
    if (540 : Int32) ≤ x1 then
      E62 o0
    else
      if inb (((540 : Int32) * (oV o0 4)) + x1) 2160 then
      lT (sA o0 1 (((540 : Int32) * (oV o0 4)) + x1).toNatClampNeg (-1 : Int32)) fun o0_10 =>
      lT (x1 + (1 : Int32)) fun x1_11 =>
      LX7_empty_33 E62 n x1_11 o0_10
      else none
def LX7_empty_64 (E91 : Ob → Option (Ob)) : Nat → Int32 → Ob → Option (Ob)
  | 0, _, _ => none
  | n + 1, x1, o0 =>
    if (8 : Int32) ≤ x1 then
      E91 o0
    else
      if inb (((8 : Int32) * (oV o0 4)) + x1) 32 then
      lT (sA o0 2 (((8 : Int32) * (oV o0 4)) + x1).toNatClampNeg (-1 : Int32)) fun o0_17 =>
      lT (x1 + (1 : Int32)) fun x1_18 =>
      LX7_empty_64 E91 n x1_18 o0_17
      else none
def FX7_empty  (o0 : Ob) : Option (Ob) :=
  LX7_empty_2 (fun o0_7 =>
   LX7_empty_33 (fun o0_14 =>
    LX7_empty_64 (fun o0_21 =>
    if inb (oV o0_21 4) 4 then
    lT (sA o0_21 3 (oV o0_21 4).toNatClampNeg (0 : Int32)) fun o0_24 =>
    some o0_24
    else none) fu (0 : Int32) o0_14) fu (0 : Int32) o0_7) fu (0 : Int32) o0
set_option maxRecDepth 100000 in
set_option maxHeartbeats 4000000 in
theorem lX7_empty_2 {g : Gl} {X : Cxt} (C : CxOk g X cX7_empty RX7 (Cond.code yX7_empty cX7_empty 2 none :: wsL_law) 2 0 0) {o0' : Ob} (h0 : Nat → Nat)  (E31 : Ob → Option (Ob)) (Rk : RetOk g X [(shX7, h0, o0')] none none) (hE31 : ∀ (o0 : Ob), E31 o0 = some o0' → J g X [(shX7, h0, o0)] 31 [(0, .ref (h0 0))] []) : ∀ (n : Nat) (x1 : Int32) (o0 : Ob), LX7_empty_2 E31 n x1 o0 = some o0' → J g X [(shX7, h0, o0)] 2 [(0, .ref (h0 0)), (1, .int x1)] [] := by
  intro n
  induction n with
  | zero =>
    intro x1 o0 hF
    cases hF
  | succ n ih =>
    intro x1 o0 hF
    rw [LX7_empty_2.eq_2] at hF
    refine j_iload_n C 1 dX7_empty_2 rfl rfl ?_
    refine j_sipush (v := (180 : Int32)) C dX7_empty_3 rfl ?_
    refine j_icmp_ge C 31 dX7_empty_6 rfl (fun c_6 => ?_) (fun c_6 => ?_)
    · have hF := (if_pos c_6).symm.trans hF
      refine j_sub [(0, .ref (h0 0))] [0] rfl ?_
      exact hE31 _ hF
    · have hF := (if_neg c_6).symm.trans hF
      refine j_aload_n C 0 dX7_empty_9 rfl rfl ?_
      refine j_get (v := .ref (h0 1)) C 0 0 rfl rfl (Nat.le_of_ble_eq_true rfl) rfl rfl in1_X7 (List.mem_cons_of_mem _ mw_4_10) dX7_empty_10 ?_
      refine j_sipush (v := (180 : Int32)) C dX7_empty_13 rfl ?_
      refine j_aload_n C 0 dX7_empty_16 rfl rfl ?_
      refine j_get (v := .int (oV o0 4)) C 0 4 rfl rfl (Nat.le_of_ble_eq_true rfl) rfl rfl in1_X7 (List.mem_cons_of_mem _ mw_5_19) dX7_empty_17 ?_
      refine j_imul C dX7_empty_20 ?_
      refine j_iload_n C 1 dX7_empty_21 rfl rfl ?_
      refine j_iadd C dX7_empty_22 ?_
      refine j_iconst (v := (-1 : Int32)) C dX7_empty_23 rfl ?_
      obtain ⟨z_1, hF⟩ := gi hF
      obtain ⟨o0_3, e_2, hF⟩ := glT hF
      refine j_iast C 0 0 rfl rfl z_1 [(shX7, h0, o0_3)] (by rw [e_2]; rfl) dX7_empty_24 ?_
      obtain ⟨x1_4, e_5, hF⟩ := glT hF
      refine j_iinc C 1 [(1, .int x1_4), (0, .ref (h0 0))] dX7_empty_25 rfl e_5.symm (Nat.le_of_ble_eq_true rfl) rfl ?_
      refine j_goto C 2 dX7_empty_28 rfl ?_
      refine j_sub [(0, .ref (h0 0)), (1, .int x1_4)] [1, 0] rfl ?_
      exact ih _ _ hF
set_option maxRecDepth 100000 in
set_option maxHeartbeats 4000000 in
theorem lX7_empty_33 {g : Gl} {X : Cxt} (C : CxOk g X cX7_empty RX7 (Cond.code yX7_empty cX7_empty 2 none :: wsL_law) 2 0 0) {o0' : Ob} (h0 : Nat → Nat)  (E62 : Ob → Option (Ob)) (Rk : RetOk g X [(shX7, h0, o0')] none none) (hE62 : ∀ (o0 : Ob), E62 o0 = some o0' → J g X [(shX7, h0, o0)] 62 [(0, .ref (h0 0))] []) : ∀ (n : Nat) (x1 : Int32) (o0 : Ob), LX7_empty_33 E62 n x1 o0 = some o0' → J g X [(shX7, h0, o0)] 33 [(0, .ref (h0 0)), (1, .int x1)] [] := by
  intro n
  induction n with
  | zero =>
    intro x1 o0 hF
    cases hF
  | succ n ih =>
    intro x1 o0 hF
    rw [LX7_empty_33.eq_2] at hF
    refine j_iload_n C 1 dX7_empty_33 rfl rfl ?_
    refine j_sipush (v := (540 : Int32)) C dX7_empty_34 rfl ?_
    refine j_icmp_ge C 62 dX7_empty_37 rfl (fun c_13 => ?_) (fun c_13 => ?_)
    · have hF := (if_pos c_13).symm.trans hF
      refine j_sub [(0, .ref (h0 0))] [0] rfl ?_
      exact hE62 _ hF
    · have hF := (if_neg c_13).symm.trans hF
      refine j_aload_n C 0 dX7_empty_40 rfl rfl ?_
      refine j_get (v := .ref (h0 2)) C 0 1 rfl rfl (Nat.le_of_ble_eq_true rfl) rfl rfl in1_X7 (List.mem_cons_of_mem _ mw_4_11) dX7_empty_41 ?_
      refine j_sipush (v := (540 : Int32)) C dX7_empty_44 rfl ?_
      refine j_aload_n C 0 dX7_empty_47 rfl rfl ?_
      refine j_get (v := .int (oV o0 4)) C 0 4 rfl rfl (Nat.le_of_ble_eq_true rfl) rfl rfl in1_X7 (List.mem_cons_of_mem _ mw_5_19) dX7_empty_48 ?_
      refine j_imul C dX7_empty_51 ?_
      refine j_iload_n C 1 dX7_empty_52 rfl rfl ?_
      refine j_iadd C dX7_empty_53 ?_
      refine j_iconst (v := (-1 : Int32)) C dX7_empty_54 rfl ?_
      obtain ⟨z_8, hF⟩ := gi hF
      obtain ⟨o0_10, e_9, hF⟩ := glT hF
      refine j_iast C 0 1 rfl rfl z_8 [(shX7, h0, o0_10)] (by rw [e_9]; rfl) dX7_empty_55 ?_
      obtain ⟨x1_11, e_12, hF⟩ := glT hF
      refine j_iinc C 1 [(1, .int x1_11), (0, .ref (h0 0))] dX7_empty_56 rfl e_12.symm (Nat.le_of_ble_eq_true rfl) rfl ?_
      refine j_goto C 33 dX7_empty_59 rfl ?_
      refine j_sub [(0, .ref (h0 0)), (1, .int x1_11)] [1, 0] rfl ?_
      exact ih _ _ hF
set_option maxRecDepth 100000 in
set_option maxHeartbeats 4000000 in
theorem lX7_empty_64 {g : Gl} {X : Cxt} (C : CxOk g X cX7_empty RX7 (Cond.code yX7_empty cX7_empty 2 none :: wsL_law) 2 0 0) {o0' : Ob} (h0 : Nat → Nat)  (E91 : Ob → Option (Ob)) (Rk : RetOk g X [(shX7, h0, o0')] none none) (hE91 : ∀ (o0 : Ob), E91 o0 = some o0' → J g X [(shX7, h0, o0)] 91 [(0, .ref (h0 0))] []) : ∀ (n : Nat) (x1 : Int32) (o0 : Ob), LX7_empty_64 E91 n x1 o0 = some o0' → J g X [(shX7, h0, o0)] 64 [(0, .ref (h0 0)), (1, .int x1)] [] := by
  intro n
  induction n with
  | zero =>
    intro x1 o0 hF
    cases hF
  | succ n ih =>
    intro x1 o0 hF
    rw [LX7_empty_64.eq_2] at hF
    refine j_iload_n C 1 dX7_empty_64 rfl rfl ?_
    refine j_bipush (v := (8 : Int32)) C dX7_empty_65 rfl ?_
    refine j_icmp_ge C 91 dX7_empty_67 rfl (fun c_20 => ?_) (fun c_20 => ?_)
    · have hF := (if_pos c_20).symm.trans hF
      refine j_sub [(0, .ref (h0 0))] [0] rfl ?_
      exact hE91 _ hF
    · have hF := (if_neg c_20).symm.trans hF
      refine j_aload_n C 0 dX7_empty_70 rfl rfl ?_
      refine j_get (v := .ref (h0 3)) C 0 2 rfl rfl (Nat.le_of_ble_eq_true rfl) rfl rfl in1_X7 (List.mem_cons_of_mem _ mw_4_12) dX7_empty_71 ?_
      refine j_bipush (v := (8 : Int32)) C dX7_empty_74 rfl ?_
      refine j_aload_n C 0 dX7_empty_76 rfl rfl ?_
      refine j_get (v := .int (oV o0 4)) C 0 4 rfl rfl (Nat.le_of_ble_eq_true rfl) rfl rfl in1_X7 (List.mem_cons_of_mem _ mw_5_19) dX7_empty_77 ?_
      refine j_imul C dX7_empty_80 ?_
      refine j_iload_n C 1 dX7_empty_81 rfl rfl ?_
      refine j_iadd C dX7_empty_82 ?_
      refine j_iconst (v := (-1 : Int32)) C dX7_empty_83 rfl ?_
      obtain ⟨z_15, hF⟩ := gi hF
      obtain ⟨o0_17, e_16, hF⟩ := glT hF
      refine j_iast C 0 2 rfl rfl z_15 [(shX7, h0, o0_17)] (by rw [e_16]; rfl) dX7_empty_84 ?_
      obtain ⟨x1_18, e_19, hF⟩ := glT hF
      refine j_iinc C 1 [(1, .int x1_18), (0, .ref (h0 0))] dX7_empty_85 rfl e_19.symm (Nat.le_of_ble_eq_true rfl) rfl ?_
      refine j_goto C 64 dX7_empty_88 rfl ?_
      refine j_sub [(0, .ref (h0 0)), (1, .int x1_18)] [1, 0] rfl ?_
      exact ih _ _ hF
set_option maxRecDepth 100000 in
set_option maxHeartbeats 4000000 in
theorem kX7_empty (g : Gl) (h0 : Nat → Nat)  (o0 : Ob) {o0' : Ob} (hF : FX7_empty o0 = some o0') : Ctr g yX7_empty (Cond.code yX7_empty cX7_empty 2 none :: wsL_law) 0 0 [(shX7, h0, o0)] [(shX7, h0, o0')] [.ref (h0 0)] none := by
  refine Ctr.of (cc := cX7_empty) (maxL := 2) (ret := none) (by decide) rfl (Nat.le_of_ble_eq_true rfl) ?_
  intro X C Rk
  replace C : CxOk g X cX7_empty RX7 (Cond.code yX7_empty cX7_empty 2 none :: wsL_law) 2 0 0 := C
  show J g X [(shX7, h0, o0)] 0 [(0, .ref (h0 0))] []
  unfold FX7_empty at hF
  refine j_iconst (v := (0 : Int32)) C dX7_empty_0 rfl ?_
  refine j_istore_n C [(1, .int (0 : Int32)), (0, .ref (h0 0))] dX7_empty_1 rfl (Nat.le_of_ble_eq_true rfl) rfl rfl ?_
  refine j_sub [(0, .ref (h0 0)), (1, .int (0 : Int32))] [1, 0] rfl ?_
  refine lX7_empty_2 C h0  _ Rk (fun o0_7 hF => ?_) _ _ _ hF
  refine j_iconst (v := (0 : Int32)) C dX7_empty_31 rfl ?_
  refine j_istore_n C [(1, .int (0 : Int32)), (0, .ref (h0 0))] dX7_empty_32 rfl (Nat.le_of_ble_eq_true rfl) rfl rfl ?_
  refine j_sub [(0, .ref (h0 0)), (1, .int (0 : Int32))] [1, 0] rfl ?_
  refine lX7_empty_33 C h0  _ Rk (fun o0_14 hF => ?_) _ _ _ hF
  refine j_iconst (v := (0 : Int32)) C dX7_empty_62 rfl ?_
  refine j_istore_n C [(1, .int (0 : Int32)), (0, .ref (h0 0))] dX7_empty_63 rfl (Nat.le_of_ble_eq_true rfl) rfl rfl ?_
  refine j_sub [(0, .ref (h0 0)), (1, .int (0 : Int32))] [1, 0] rfl ?_
  refine lX7_empty_64 C h0  _ Rk (fun o0_21 hF => ?_) _ _ _ hF
  refine j_aload_n C 0 dX7_empty_91 rfl rfl ?_
  refine j_get (v := .ref (h0 4)) C 0 3 rfl rfl (Nat.le_of_ble_eq_true rfl) rfl rfl in1_X7 (List.mem_cons_of_mem _ mw_4_13) dX7_empty_92 ?_
  refine j_aload_n C 0 dX7_empty_95 rfl rfl ?_
  refine j_get (v := .int (oV o0_21 4)) C 0 4 rfl rfl (Nat.le_of_ble_eq_true rfl) rfl rfl in1_X7 (List.mem_cons_of_mem _ mw_5_19) dX7_empty_96 ?_
  refine j_iconst (v := (0 : Int32)) C dX7_empty_99 rfl ?_
  obtain ⟨z_22, hF⟩ := gi hF
  obtain ⟨o0_24, e_23, hF⟩ := glT hF
  refine j_iast C 0 3 rfl rfl z_22 [(shX7, h0, o0_24)] (by rw [e_23]; rfl) dX7_empty_100 ?_
  cases hF
  exact j_vret C Rk dX7_empty_101
/-! HeadsMeetModel.copy -/
def LX7_copy_2 (x1 : Int32) (x2 : Int32) (E39 : Ob → Option (Ob)) : Nat → Int32 → Ob → Option (Ob)
  | 0, _, _ => none
  | n + 1, x3, o0 =>
    if (180 : Int32) ≤ x3 then
      E39 o0
    else
      if inb (((180 : Int32) * x2) + x3) 720 then
      if inb (((180 : Int32) * x1) + x3) 720 then
      lT (sA o0 0 (((180 : Int32) * x1) + x3).toNatClampNeg (oA o0 0 (((180 : Int32) * x2) + x3).toNatClampNeg)) fun o0_4 =>
      lT (x3 + (1 : Int32)) fun x3_5 =>
      LX7_copy_2 x1 x2 E39 n x3_5 o0_4
      else none
      else none
def LX7_copy_41 (x1 : Int32) (x2 : Int32) (E78 : Ob → Option (Ob)) : Nat → Int32 → Ob → Option (Ob)
  | 0, _, _ => none
  | n + 1, x3, o0 =>
    if (540 : Int32) ≤ x3 then
      E78 o0
    else
      if inb (((540 : Int32) * x2) + x3) 2160 then
      if inb (((540 : Int32) * x1) + x3) 2160 then
      lT (sA o0 1 (((540 : Int32) * x1) + x3).toNatClampNeg (oA o0 1 (((540 : Int32) * x2) + x3).toNatClampNeg)) fun o0_12 =>
      lT (x3 + (1 : Int32)) fun x3_13 =>
      LX7_copy_41 x1 x2 E78 n x3_13 o0_12
      else none
      else none
def LX7_copy_80 (x1 : Int32) (x2 : Int32) (E114 : Ob → Option (Ob)) : Nat → Int32 → Ob → Option (Ob)
  | 0, _, _ => none
  | n + 1, x3, o0 =>
    if (8 : Int32) ≤ x3 then
      E114 o0
    else
      if inb (((8 : Int32) * x2) + x3) 32 then
      if inb (((8 : Int32) * x1) + x3) 32 then
      lT (sA o0 2 (((8 : Int32) * x1) + x3).toNatClampNeg (oA o0 2 (((8 : Int32) * x2) + x3).toNatClampNeg)) fun o0_20 =>
      lT (x3 + (1 : Int32)) fun x3_21 =>
      LX7_copy_80 x1 x2 E114 n x3_21 o0_20
      else none
      else none
def FX7_copy (x1 : Int32) (x2 : Int32) (o0 : Ob) : Option (Ob) :=
  LX7_copy_2 x1 x2 (fun o0_8 =>
   LX7_copy_41 x1 x2 (fun o0_16 =>
    LX7_copy_80 x1 x2 (fun o0_24 =>
    if inb x2 4 then
    if inb x1 4 then
    lT (sA o0_24 3 x1.toNatClampNeg (oA o0_24 3 x2.toNatClampNeg)) fun o0_28 =>
    some o0_28
    else none
    else none) fu (0 : Int32) o0_16) fu (0 : Int32) o0_8) fu (0 : Int32) o0
set_option maxRecDepth 100000 in
set_option maxHeartbeats 4000000 in
theorem lX7_copy_2 {g : Gl} {X : Cxt} (C : CxOk g X cX7_copy RX7 (Cond.code yX7_copy cX7_copy 4 none :: wsL_law) 4 0 0) {o0' : Ob} (h0 : Nat → Nat) (x1 : Int32) (x2 : Int32) (E39 : Ob → Option (Ob)) (Rk : RetOk g X [(shX7, h0, o0')] none none) (hE39 : ∀ (o0 : Ob), E39 o0 = some o0' → J g X [(shX7, h0, o0)] 39 [(0, .ref (h0 0)), (1, .int x1), (2, .int x2)] []) : ∀ (n : Nat) (x3 : Int32) (o0 : Ob), LX7_copy_2 x1 x2 E39 n x3 o0 = some o0' → J g X [(shX7, h0, o0)] 2 [(0, .ref (h0 0)), (1, .int x1), (2, .int x2), (3, .int x3)] [] := by
  intro n
  induction n with
  | zero =>
    intro x3 o0 hF
    cases hF
  | succ n ih =>
    intro x3 o0 hF
    rw [LX7_copy_2.eq_2] at hF
    refine j_iload_n C 3 dX7_copy_2 rfl rfl ?_
    refine j_sipush (v := (180 : Int32)) C dX7_copy_3 rfl ?_
    refine j_icmp_ge C 39 dX7_copy_6 rfl (fun c_7 => ?_) (fun c_7 => ?_)
    · have hF := (if_pos c_7).symm.trans hF
      refine j_sub [(0, .ref (h0 0)), (1, .int x1), (2, .int x2)] [0, 1, 2] rfl ?_
      exact hE39 _ hF
    · have hF := (if_neg c_7).symm.trans hF
      refine j_aload_n C 0 dX7_copy_9 rfl rfl ?_
      refine j_get (v := .ref (h0 1)) C 0 0 rfl rfl (Nat.le_of_ble_eq_true rfl) rfl rfl in1_X7 (List.mem_cons_of_mem _ mw_4_10) dX7_copy_10 ?_
      refine j_sipush (v := (180 : Int32)) C dX7_copy_13 rfl ?_
      refine j_iload_n C 1 dX7_copy_16 rfl rfl ?_
      refine j_imul C dX7_copy_17 ?_
      refine j_iload_n C 3 dX7_copy_18 rfl rfl ?_
      refine j_iadd C dX7_copy_19 ?_
      refine j_aload_n C 0 dX7_copy_20 rfl rfl ?_
      refine j_get (v := .ref (h0 1)) C 0 0 rfl rfl (Nat.le_of_ble_eq_true rfl) rfl rfl in1_X7 (List.mem_cons_of_mem _ mw_4_10) dX7_copy_21 ?_
      refine j_sipush (v := (180 : Int32)) C dX7_copy_24 rfl ?_
      refine j_iload_n C 2 dX7_copy_27 rfl rfl ?_
      refine j_imul C dX7_copy_28 ?_
      refine j_iload_n C 3 dX7_copy_29 rfl rfl ?_
      refine j_iadd C dX7_copy_30 ?_
      obtain ⟨z_1, hF⟩ := gi hF
      refine j_iald C 0 0 rfl rfl z_1 dX7_copy_31 ?_
      obtain ⟨z_2, hF⟩ := gi hF
      obtain ⟨o0_4, e_3, hF⟩ := glT hF
      refine j_iast C 0 0 rfl rfl z_2 [(shX7, h0, o0_4)] (by rw [e_3]; rfl) dX7_copy_32 ?_
      obtain ⟨x3_5, e_6, hF⟩ := glT hF
      refine j_iinc C 3 [(3, .int x3_5), (0, .ref (h0 0)), (1, .int x1), (2, .int x2)] dX7_copy_33 rfl e_6.symm (Nat.le_of_ble_eq_true rfl) rfl ?_
      refine j_goto C 2 dX7_copy_36 rfl ?_
      refine j_sub [(0, .ref (h0 0)), (1, .int x1), (2, .int x2), (3, .int x3_5)] [1, 2, 3, 0] rfl ?_
      exact ih _ _ hF
set_option maxRecDepth 100000 in
set_option maxHeartbeats 4000000 in
theorem lX7_copy_41 {g : Gl} {X : Cxt} (C : CxOk g X cX7_copy RX7 (Cond.code yX7_copy cX7_copy 4 none :: wsL_law) 4 0 0) {o0' : Ob} (h0 : Nat → Nat) (x1 : Int32) (x2 : Int32) (E78 : Ob → Option (Ob)) (Rk : RetOk g X [(shX7, h0, o0')] none none) (hE78 : ∀ (o0 : Ob), E78 o0 = some o0' → J g X [(shX7, h0, o0)] 78 [(0, .ref (h0 0)), (1, .int x1), (2, .int x2)] []) : ∀ (n : Nat) (x3 : Int32) (o0 : Ob), LX7_copy_41 x1 x2 E78 n x3 o0 = some o0' → J g X [(shX7, h0, o0)] 41 [(0, .ref (h0 0)), (1, .int x1), (2, .int x2), (3, .int x3)] [] := by
  intro n
  induction n with
  | zero =>
    intro x3 o0 hF
    cases hF
  | succ n ih =>
    intro x3 o0 hF
    rw [LX7_copy_41.eq_2] at hF
    refine j_iload_n C 3 dX7_copy_41 rfl rfl ?_
    refine j_sipush (v := (540 : Int32)) C dX7_copy_42 rfl ?_
    refine j_icmp_ge C 78 dX7_copy_45 rfl (fun c_15 => ?_) (fun c_15 => ?_)
    · have hF := (if_pos c_15).symm.trans hF
      refine j_sub [(0, .ref (h0 0)), (1, .int x1), (2, .int x2)] [0, 1, 2] rfl ?_
      exact hE78 _ hF
    · have hF := (if_neg c_15).symm.trans hF
      refine j_aload_n C 0 dX7_copy_48 rfl rfl ?_
      refine j_get (v := .ref (h0 2)) C 0 1 rfl rfl (Nat.le_of_ble_eq_true rfl) rfl rfl in1_X7 (List.mem_cons_of_mem _ mw_4_11) dX7_copy_49 ?_
      refine j_sipush (v := (540 : Int32)) C dX7_copy_52 rfl ?_
      refine j_iload_n C 1 dX7_copy_55 rfl rfl ?_
      refine j_imul C dX7_copy_56 ?_
      refine j_iload_n C 3 dX7_copy_57 rfl rfl ?_
      refine j_iadd C dX7_copy_58 ?_
      refine j_aload_n C 0 dX7_copy_59 rfl rfl ?_
      refine j_get (v := .ref (h0 2)) C 0 1 rfl rfl (Nat.le_of_ble_eq_true rfl) rfl rfl in1_X7 (List.mem_cons_of_mem _ mw_4_11) dX7_copy_60 ?_
      refine j_sipush (v := (540 : Int32)) C dX7_copy_63 rfl ?_
      refine j_iload_n C 2 dX7_copy_66 rfl rfl ?_
      refine j_imul C dX7_copy_67 ?_
      refine j_iload_n C 3 dX7_copy_68 rfl rfl ?_
      refine j_iadd C dX7_copy_69 ?_
      obtain ⟨z_9, hF⟩ := gi hF
      refine j_iald C 0 1 rfl rfl z_9 dX7_copy_70 ?_
      obtain ⟨z_10, hF⟩ := gi hF
      obtain ⟨o0_12, e_11, hF⟩ := glT hF
      refine j_iast C 0 1 rfl rfl z_10 [(shX7, h0, o0_12)] (by rw [e_11]; rfl) dX7_copy_71 ?_
      obtain ⟨x3_13, e_14, hF⟩ := glT hF
      refine j_iinc C 3 [(3, .int x3_13), (0, .ref (h0 0)), (1, .int x1), (2, .int x2)] dX7_copy_72 rfl e_14.symm (Nat.le_of_ble_eq_true rfl) rfl ?_
      refine j_goto C 41 dX7_copy_75 rfl ?_
      refine j_sub [(0, .ref (h0 0)), (1, .int x1), (2, .int x2), (3, .int x3_13)] [1, 2, 3, 0] rfl ?_
      exact ih _ _ hF
set_option maxRecDepth 100000 in
set_option maxHeartbeats 4000000 in
theorem lX7_copy_80 {g : Gl} {X : Cxt} (C : CxOk g X cX7_copy RX7 (Cond.code yX7_copy cX7_copy 4 none :: wsL_law) 4 0 0) {o0' : Ob} (h0 : Nat → Nat) (x1 : Int32) (x2 : Int32) (E114 : Ob → Option (Ob)) (Rk : RetOk g X [(shX7, h0, o0')] none none) (hE114 : ∀ (o0 : Ob), E114 o0 = some o0' → J g X [(shX7, h0, o0)] 114 [(0, .ref (h0 0)), (1, .int x1), (2, .int x2)] []) : ∀ (n : Nat) (x3 : Int32) (o0 : Ob), LX7_copy_80 x1 x2 E114 n x3 o0 = some o0' → J g X [(shX7, h0, o0)] 80 [(0, .ref (h0 0)), (1, .int x1), (2, .int x2), (3, .int x3)] [] := by
  intro n
  induction n with
  | zero =>
    intro x3 o0 hF
    cases hF
  | succ n ih =>
    intro x3 o0 hF
    rw [LX7_copy_80.eq_2] at hF
    refine j_iload_n C 3 dX7_copy_80 rfl rfl ?_
    refine j_bipush (v := (8 : Int32)) C dX7_copy_81 rfl ?_
    refine j_icmp_ge C 114 dX7_copy_83 rfl (fun c_23 => ?_) (fun c_23 => ?_)
    · have hF := (if_pos c_23).symm.trans hF
      refine j_sub [(0, .ref (h0 0)), (1, .int x1), (2, .int x2)] [0, 1, 2] rfl ?_
      exact hE114 _ hF
    · have hF := (if_neg c_23).symm.trans hF
      refine j_aload_n C 0 dX7_copy_86 rfl rfl ?_
      refine j_get (v := .ref (h0 3)) C 0 2 rfl rfl (Nat.le_of_ble_eq_true rfl) rfl rfl in1_X7 (List.mem_cons_of_mem _ mw_4_12) dX7_copy_87 ?_
      refine j_bipush (v := (8 : Int32)) C dX7_copy_90 rfl ?_
      refine j_iload_n C 1 dX7_copy_92 rfl rfl ?_
      refine j_imul C dX7_copy_93 ?_
      refine j_iload_n C 3 dX7_copy_94 rfl rfl ?_
      refine j_iadd C dX7_copy_95 ?_
      refine j_aload_n C 0 dX7_copy_96 rfl rfl ?_
      refine j_get (v := .ref (h0 3)) C 0 2 rfl rfl (Nat.le_of_ble_eq_true rfl) rfl rfl in1_X7 (List.mem_cons_of_mem _ mw_4_12) dX7_copy_97 ?_
      refine j_bipush (v := (8 : Int32)) C dX7_copy_100 rfl ?_
      refine j_iload_n C 2 dX7_copy_102 rfl rfl ?_
      refine j_imul C dX7_copy_103 ?_
      refine j_iload_n C 3 dX7_copy_104 rfl rfl ?_
      refine j_iadd C dX7_copy_105 ?_
      obtain ⟨z_17, hF⟩ := gi hF
      refine j_iald C 0 2 rfl rfl z_17 dX7_copy_106 ?_
      obtain ⟨z_18, hF⟩ := gi hF
      obtain ⟨o0_20, e_19, hF⟩ := glT hF
      refine j_iast C 0 2 rfl rfl z_18 [(shX7, h0, o0_20)] (by rw [e_19]; rfl) dX7_copy_107 ?_
      obtain ⟨x3_21, e_22, hF⟩ := glT hF
      refine j_iinc C 3 [(3, .int x3_21), (0, .ref (h0 0)), (1, .int x1), (2, .int x2)] dX7_copy_108 rfl e_22.symm (Nat.le_of_ble_eq_true rfl) rfl ?_
      refine j_goto C 80 dX7_copy_111 rfl ?_
      refine j_sub [(0, .ref (h0 0)), (1, .int x1), (2, .int x2), (3, .int x3_21)] [1, 2, 3, 0] rfl ?_
      exact ih _ _ hF
set_option maxRecDepth 100000 in
set_option maxHeartbeats 4000000 in
theorem kX7_copy (g : Gl) (h0 : Nat → Nat) (x1 : Int32) (x2 : Int32) (o0 : Ob) {o0' : Ob} (hF : FX7_copy x1 x2 o0 = some o0') : Ctr g yX7_copy (Cond.code yX7_copy cX7_copy 4 none :: wsL_law) 0 0 [(shX7, h0, o0)] [(shX7, h0, o0')] [.ref (h0 0), .int x1, .int x2] none := by
  refine Ctr.of (cc := cX7_copy) (maxL := 4) (ret := none) (by decide) rfl (Nat.le_of_ble_eq_true rfl) ?_
  intro X C Rk
  replace C : CxOk g X cX7_copy RX7 (Cond.code yX7_copy cX7_copy 4 none :: wsL_law) 4 0 0 := C
  show J g X [(shX7, h0, o0)] 0 [(0, .ref (h0 0)), (1, .int x1), (2, .int x2)] []
  unfold FX7_copy at hF
  refine j_iconst (v := (0 : Int32)) C dX7_copy_0 rfl ?_
  refine j_istore_n C [(3, .int (0 : Int32)), (0, .ref (h0 0)), (1, .int x1), (2, .int x2)] dX7_copy_1 rfl (Nat.le_of_ble_eq_true rfl) rfl rfl ?_
  refine j_sub [(0, .ref (h0 0)), (1, .int x1), (2, .int x2), (3, .int (0 : Int32))] [1, 2, 3, 0] rfl ?_
  refine lX7_copy_2 C h0 x1 x2 _ Rk (fun o0_8 hF => ?_) _ _ _ hF
  refine j_iconst (v := (0 : Int32)) C dX7_copy_39 rfl ?_
  refine j_istore_n C [(3, .int (0 : Int32)), (0, .ref (h0 0)), (1, .int x1), (2, .int x2)] dX7_copy_40 rfl (Nat.le_of_ble_eq_true rfl) rfl rfl ?_
  refine j_sub [(0, .ref (h0 0)), (1, .int x1), (2, .int x2), (3, .int (0 : Int32))] [1, 2, 3, 0] rfl ?_
  refine lX7_copy_41 C h0 x1 x2 _ Rk (fun o0_16 hF => ?_) _ _ _ hF
  refine j_iconst (v := (0 : Int32)) C dX7_copy_78 rfl ?_
  refine j_istore_n C [(3, .int (0 : Int32)), (0, .ref (h0 0)), (1, .int x1), (2, .int x2)] dX7_copy_79 rfl (Nat.le_of_ble_eq_true rfl) rfl rfl ?_
  refine j_sub [(0, .ref (h0 0)), (1, .int x1), (2, .int x2), (3, .int (0 : Int32))] [1, 2, 3, 0] rfl ?_
  refine lX7_copy_80 C h0 x1 x2 _ Rk (fun o0_24 hF => ?_) _ _ _ hF
  refine j_aload_n C 0 dX7_copy_114 rfl rfl ?_
  refine j_get (v := .ref (h0 4)) C 0 3 rfl rfl (Nat.le_of_ble_eq_true rfl) rfl rfl in1_X7 (List.mem_cons_of_mem _ mw_4_13) dX7_copy_115 ?_
  refine j_iload_n C 1 dX7_copy_118 rfl rfl ?_
  refine j_aload_n C 0 dX7_copy_119 rfl rfl ?_
  refine j_get (v := .ref (h0 4)) C 0 3 rfl rfl (Nat.le_of_ble_eq_true rfl) rfl rfl in1_X7 (List.mem_cons_of_mem _ mw_4_13) dX7_copy_120 ?_
  refine j_iload_n C 2 dX7_copy_123 rfl rfl ?_
  obtain ⟨z_25, hF⟩ := gi hF
  refine j_iald C 0 3 rfl rfl z_25 dX7_copy_124 ?_
  obtain ⟨z_26, hF⟩ := gi hF
  obtain ⟨o0_28, e_27, hF⟩ := glT hF
  refine j_iast C 0 3 rfl rfl z_26 [(shX7, h0, o0_28)] (by rw [e_27]; rfl) dX7_copy_125 ?_
  cases hF
  exact j_vret C Rk dX7_copy_126
/-! HeadsMeetModel.kindOf -/
def FX7_kindOf (x1 : Int32) (o0 : Ob) : Option (Int32) :=
  if inb (((180 : Int32) * (oV o0 4)) + x1) 720 then
  some (oA o0 0 (((180 : Int32) * (oV o0 4)) + x1).toNatClampNeg)
  else none
set_option maxRecDepth 100000 in
set_option maxHeartbeats 4000000 in
theorem kX7_kindOf (g : Gl) (h0 : Nat → Nat) (x1 : Int32) (o0 : Ob) {r : Int32} (hF : FX7_kindOf x1 o0 = some r) : Ctr g yX7_kindOf (Cond.code yX7_kindOf cX7_kindOf 2 (some .int) :: wsL_law) 0 0 [(shX7, h0, o0)] [(shX7, h0, o0)] [.ref (h0 0), .int x1] (some (.int r)) := by
  refine Ctr.of (cc := cX7_kindOf) (maxL := 2) (ret := (some .int)) (by decide) rfl (Nat.le_of_ble_eq_true rfl) ?_
  intro X C Rk
  replace C : CxOk g X cX7_kindOf RX7 (Cond.code yX7_kindOf cX7_kindOf 2 (some .int) :: wsL_law) 2 0 0 := C
  show J g X [(shX7, h0, o0)] 0 [(0, .ref (h0 0)), (1, .int x1)] []
  unfold FX7_kindOf at hF
  refine j_aload_n C 0 dX7_kindOf_0 rfl rfl ?_
  refine j_get (v := .ref (h0 1)) C 0 0 rfl rfl (Nat.le_of_ble_eq_true rfl) rfl rfl in1_X7 (List.mem_cons_of_mem _ mw_4_10) dX7_kindOf_1 ?_
  refine j_sipush (v := (180 : Int32)) C dX7_kindOf_4 rfl ?_
  refine j_aload_n C 0 dX7_kindOf_7 rfl rfl ?_
  refine j_get (v := .int (oV o0 4)) C 0 4 rfl rfl (Nat.le_of_ble_eq_true rfl) rfl rfl in1_X7 (List.mem_cons_of_mem _ mw_5_19) dX7_kindOf_8 ?_
  refine j_imul C dX7_kindOf_11 ?_
  refine j_iload_n C 1 dX7_kindOf_12 rfl rfl ?_
  refine j_iadd C dX7_kindOf_13 ?_
  obtain ⟨z_1, hF⟩ := gi hF
  refine j_iald C 0 0 rfl rfl z_1 dX7_kindOf_14 ?_
  cases hF
  exact j_iret C Rk dX7_kindOf_15
/-! HeadsMeetModel.isThere -/
def FX7_isThere (x1 : Int32) (o0 : Ob) : Option (Int32) :=
  b1 (FX7_within x1 (0 : Int32) (179 : Int32)) fun r_1 =>
  if r_1 = 0 then
    some (0 : Int32)
  else
    b1 (FX7_kindOf x1 o0) fun r_3 =>
    if r_3 = (-1 : Int32) then
      some (0 : Int32)
    else
      some (1 : Int32)
set_option maxRecDepth 100000 in
set_option maxHeartbeats 4000000 in
theorem kX7_isThere (g : Gl) (h0 : Nat → Nat) (x1 : Int32) (o0 : Ob) {r : Int32} (hF : FX7_isThere x1 o0 = some r) : Ctr g yX7_isThere (Cond.code yX7_isThere cX7_isThere 2 (some .boolean) :: wsL_law) 1 22 [(shX7, h0, o0)] [(shX7, h0, o0)] [.ref (h0 0), .int x1] (some (.int r)) := by
  refine Ctr.of (cc := cX7_isThere) (maxL := 2) (ret := (some .boolean)) (by decide) rfl (Nat.le_of_ble_eq_true rfl) ?_
  intro X C Rk
  replace C : CxOk g X cX7_isThere RX7 (Cond.code yX7_isThere cX7_isThere 2 (some .boolean) :: wsL_law) 2 1 22 := C
  show J g X [(shX7, h0, o0)] 0 [(0, .ref (h0 0)), (1, .int x1)] []
  unfold FX7_isThere at hF
  refine j_iload_n C 1 dX7_isThere_0 rfl rfl ?_
  refine j_iconst (v := (0 : Int32)) C dX7_isThere_1 rfl ?_
  refine j_sipush (v := (179 : Int32)) C dX7_isThere_2 rfl ?_
  obtain ⟨r_1, k_2, hF⟩ := gb1 hF
  refine j_callSi C (os' := [(shX7, h0, o0)]) [.int x1, .int (0 : Int32), .int (179 : Int32)] (kX7_within g x1 (0 : Int32) (179 : Int32) k_2) [] rfl rfl rfl rfl (wl_gS mw_6_18 mw_6_19 mw_1_5 mw_6_20) rfl 3 rfl hd_X7_within ⟨Nat.le_of_ble_eq_true rfl, Nat.le_of_ble_eq_true rfl⟩ (Nat.le_of_ble_eq_true rfl) rfl dX7_isThere_5 ?_
  refine j_if_eq C 24 dX7_isThere_8 rfl (fun c_6 => ?_) (fun c_6 => ?_)
  · have hF := (if_pos c_6).symm.trans hF
    refine j_iconst (v := (0 : Int32)) C dX7_isThere_24 rfl ?_
    cases hF
    exact j_zret C rfl Rk dX7_isThere_25
  · have hF := (if_neg c_6).symm.trans hF
    refine j_aload_n C 0 dX7_isThere_11 rfl rfl ?_
    refine j_iload_n C 1 dX7_isThere_12 rfl rfl ?_
    obtain ⟨r_3, k_4, hF⟩ := gb1 hF
    refine j_callVi C (os' := [(shX7, h0, o0)]) [.int x1] (kX7_kindOf g h0 x1 o0 k_4) [0] rfl rfl rfl rfl 0 rfl rfl (wl_gV mw_24_9 mw_24_10 mw_24_11 mw_1_5 mw_24_12) rfl 1 rfl hd_X7_kindOf ⟨Nat.le_of_ble_eq_true rfl, Nat.le_of_ble_eq_true rfl⟩ (Nat.le_of_ble_eq_true rfl) rfl dX7_isThere_13 ?_
    refine j_iconst (v := (-1 : Int32)) C dX7_isThere_16 rfl ?_
    refine j_icmp_eq C 24 dX7_isThere_17 rfl (fun c_5 => ?_) (fun c_5 => ?_)
    · have hF := (if_pos c_5).symm.trans hF
      refine j_iconst (v := (0 : Int32)) C dX7_isThere_24 rfl ?_
      cases hF
      exact j_zret C rfl Rk dX7_isThere_25
    · have hF := (if_neg c_5).symm.trans hF
      refine j_iconst (v := (1 : Int32)) C dX7_isThere_20 rfl ?_
      refine j_goto C 25 dX7_isThere_21 rfl ?_
      cases hF
      exact j_zret C rfl Rk dX7_isThere_25
/-! HeadsMeetModel.isBracket -/
def FX7_isBracket (x1 : Int32) (o0 : Ob) : Option (Int32) :=
  b1 (FX7_isThere x1 o0) fun r_1 =>
  if r_1 = 0 then
    some (0 : Int32)
  else
    b1 (FX7_kindOf x1 o0) fun r_3 =>
    if r_3 = 0 then
      some (0 : Int32)
    else
      some (1 : Int32)
set_option maxRecDepth 100000 in
set_option maxHeartbeats 4000000 in
theorem kX7_isBracket (g : Gl) (h0 : Nat → Nat) (x1 : Int32) (o0 : Ob) {r : Int32} (hF : FX7_isBracket x1 o0 = some r) : Ctr g yX7_isBracket (Cond.code yX7_isBracket cX7_isBracket 2 (some .boolean) :: wsL_law) 2 43 [(shX7, h0, o0)] [(shX7, h0, o0)] [.ref (h0 0), .int x1] (some (.int r)) := by
  refine Ctr.of (cc := cX7_isBracket) (maxL := 2) (ret := (some .boolean)) (by decide) rfl (Nat.le_of_ble_eq_true rfl) ?_
  intro X C Rk
  replace C : CxOk g X cX7_isBracket RX7 (Cond.code yX7_isBracket cX7_isBracket 2 (some .boolean) :: wsL_law) 2 2 43 := C
  show J g X [(shX7, h0, o0)] 0 [(0, .ref (h0 0)), (1, .int x1)] []
  unfold FX7_isBracket at hF
  refine j_aload_n C 0 dX7_isBracket_0 rfl rfl ?_
  refine j_iload_n C 1 dX7_isBracket_1 rfl rfl ?_
  obtain ⟨r_1, k_2, hF⟩ := gb1 hF
  refine j_callVi C (os' := [(shX7, h0, o0)]) [.int x1] (kX7_isThere g h0 x1 o0 k_2) [0] rfl rfl rfl rfl 0 rfl rfl (wl_gV mw_24_5 mw_24_6 mw_24_7 mw_1_5 mw_24_8) rfl 1 rfl hd_X7_isThere ⟨Nat.le_of_ble_eq_true rfl, Nat.le_of_ble_eq_true rfl⟩ (Nat.le_of_ble_eq_true rfl) rfl dX7_isBracket_2 ?_
  refine j_if_eq C 20 dX7_isBracket_5 rfl (fun c_6 => ?_) (fun c_6 => ?_)
  · have hF := (if_pos c_6).symm.trans hF
    refine j_iconst (v := (0 : Int32)) C dX7_isBracket_20 rfl ?_
    cases hF
    exact j_zret C rfl Rk dX7_isBracket_21
  · have hF := (if_neg c_6).symm.trans hF
    refine j_aload_n C 0 dX7_isBracket_8 rfl rfl ?_
    refine j_iload_n C 1 dX7_isBracket_9 rfl rfl ?_
    obtain ⟨r_3, k_4, hF⟩ := gb1 hF
    refine j_callVi C (os' := [(shX7, h0, o0)]) [.int x1] (kX7_kindOf g h0 x1 o0 k_4) [0] rfl rfl rfl rfl 0 rfl rfl (wl_gV mw_24_9 mw_24_10 mw_24_11 mw_1_5 mw_24_12) rfl 1 rfl hd_X7_kindOf ⟨Nat.le_of_ble_eq_true rfl, Nat.le_of_ble_eq_true rfl⟩ (Nat.le_of_ble_eq_true rfl) rfl dX7_isBracket_10 ?_
    refine j_if_eq C 20 dX7_isBracket_13 rfl (fun c_5 => ?_) (fun c_5 => ?_)
    · have hF := (if_pos c_5).symm.trans hF
      refine j_iconst (v := (0 : Int32)) C dX7_isBracket_20 rfl ?_
      cases hF
      exact j_zret C rfl Rk dX7_isBracket_21
    · have hF := (if_neg c_5).symm.trans hF
      refine j_iconst (v := (1 : Int32)) C dX7_isBracket_16 rfl ?_
      refine j_goto C 21 dX7_isBracket_17 rfl ?_
      cases hF
      exact j_zret C rfl Rk dX7_isBracket_21
/-! HeadsMeetModel.at -/
def FX7_at (x1 : Int32) (o0 : Ob) : Option (Int32) :=
  if x1 < (900 : Int32) then
    if inb (((540 : Int32) * (oV o0 4)) + x1) 2160 then
    some (oA o0 1 (((540 : Int32) * (oV o0 4)) + x1).toNatClampNeg)
    else none
  else
    if inb ((((8 : Int32) * (oV o0 4)) + x1) - (900 : Int32)) 32 then
    some (oA o0 2 ((((8 : Int32) * (oV o0 4)) + x1) - (900 : Int32)).toNatClampNeg)
    else none
set_option maxRecDepth 100000 in
set_option maxHeartbeats 4000000 in
theorem kX7_at (g : Gl) (h0 : Nat → Nat) (x1 : Int32) (o0 : Ob) {r : Int32} (hF : FX7_at x1 o0 = some r) : Ctr g yX7_at (Cond.code yX7_at cX7_at 2 (some .int) :: wsL_law) 0 0 [(shX7, h0, o0)] [(shX7, h0, o0)] [.ref (h0 0), .int x1] (some (.int r)) := by
  refine Ctr.of (cc := cX7_at) (maxL := 2) (ret := (some .int)) (by decide) rfl (Nat.le_of_ble_eq_true rfl) ?_
  intro X C Rk
  replace C : CxOk g X cX7_at RX7 (Cond.code yX7_at cX7_at 2 (some .int) :: wsL_law) 2 0 0 := C
  show J g X [(shX7, h0, o0)] 0 [(0, .ref (h0 0)), (1, .int x1)] []
  unfold FX7_at at hF
  refine j_iload_n C 1 dX7_at_0 rfl rfl ?_
  refine j_sipush (v := (900 : Int32)) C dX7_at_1 rfl ?_
  refine j_icmp_lt C 28 dX7_at_4 rfl (fun c_3 => ?_) (fun c_3 => ?_)
  · have hF := (if_pos c_3).symm.trans hF
    refine j_aload_n C 0 dX7_at_28 rfl rfl ?_
    refine j_get (v := .ref (h0 2)) C 0 1 rfl rfl (Nat.le_of_ble_eq_true rfl) rfl rfl in1_X7 (List.mem_cons_of_mem _ mw_4_11) dX7_at_29 ?_
    refine j_sipush (v := (540 : Int32)) C dX7_at_32 rfl ?_
    refine j_aload_n C 0 dX7_at_35 rfl rfl ?_
    refine j_get (v := .int (oV o0 4)) C 0 4 rfl rfl (Nat.le_of_ble_eq_true rfl) rfl rfl in1_X7 (List.mem_cons_of_mem _ mw_5_19) dX7_at_36 ?_
    refine j_imul C dX7_at_39 ?_
    refine j_iload_n C 1 dX7_at_40 rfl rfl ?_
    refine j_iadd C dX7_at_41 ?_
    obtain ⟨z_2, hF⟩ := gi hF
    refine j_iald C 0 1 rfl rfl z_2 dX7_at_42 ?_
    cases hF
    exact j_iret C Rk dX7_at_43
  · have hF := (if_neg c_3).symm.trans hF
    refine j_aload_n C 0 dX7_at_7 rfl rfl ?_
    refine j_get (v := .ref (h0 3)) C 0 2 rfl rfl (Nat.le_of_ble_eq_true rfl) rfl rfl in1_X7 (List.mem_cons_of_mem _ mw_4_12) dX7_at_8 ?_
    refine j_bipush (v := (8 : Int32)) C dX7_at_11 rfl ?_
    refine j_aload_n C 0 dX7_at_13 rfl rfl ?_
    refine j_get (v := .int (oV o0 4)) C 0 4 rfl rfl (Nat.le_of_ble_eq_true rfl) rfl rfl in1_X7 (List.mem_cons_of_mem _ mw_5_19) dX7_at_14 ?_
    refine j_imul C dX7_at_17 ?_
    refine j_iload_n C 1 dX7_at_18 rfl rfl ?_
    refine j_iadd C dX7_at_19 ?_
    refine j_sipush (v := (900 : Int32)) C dX7_at_20 rfl ?_
    refine j_isub C dX7_at_23 ?_
    obtain ⟨z_1, hF⟩ := gi hF
    refine j_iald C 0 2 rfl rfl z_1 dX7_at_24 ?_
    refine j_goto C 43 dX7_at_25 rfl ?_
    cases hF
    exact j_iret C Rk dX7_at_43
/-! HeadsMeetModel.set -/
def FX7_set (x1 : Int32) (x2 : Int32) (o0 : Ob) : Option (Ob) :=
  if x1 < (900 : Int32) then
    if inb (((540 : Int32) * (oV o0 4)) + x1) 2160 then
    lT (sA o0 1 (((540 : Int32) * (oV o0 4)) + x1).toNatClampNeg x2) fun o0_6 =>
    some o0_6
    else none
  else
    if inb ((((8 : Int32) * (oV o0 4)) + x1) - (900 : Int32)) 32 then
    lT (sA o0 2 ((((8 : Int32) * (oV o0 4)) + x1) - (900 : Int32)).toNatClampNeg x2) fun o0_3 =>
    some o0_3
    else none
set_option maxRecDepth 100000 in
set_option maxHeartbeats 4000000 in
theorem kX7_set (g : Gl) (h0 : Nat → Nat) (x1 : Int32) (x2 : Int32) (o0 : Ob) {o0' : Ob} (hF : FX7_set x1 x2 o0 = some o0') : Ctr g yX7_set (Cond.code yX7_set cX7_set 3 none :: wsL_law) 0 0 [(shX7, h0, o0)] [(shX7, h0, o0')] [.ref (h0 0), .int x1, .int x2] none := by
  refine Ctr.of (cc := cX7_set) (maxL := 3) (ret := none) (by decide) rfl (Nat.le_of_ble_eq_true rfl) ?_
  intro X C Rk
  replace C : CxOk g X cX7_set RX7 (Cond.code yX7_set cX7_set 3 none :: wsL_law) 3 0 0 := C
  show J g X [(shX7, h0, o0)] 0 [(0, .ref (h0 0)), (1, .int x1), (2, .int x2)] []
  unfold FX7_set at hF
  refine j_iload_n C 1 dX7_set_0 rfl rfl ?_
  refine j_sipush (v := (900 : Int32)) C dX7_set_1 rfl ?_
  refine j_icmp_lt C 29 dX7_set_4 rfl (fun c_7 => ?_) (fun c_7 => ?_)
  · have hF := (if_pos c_7).symm.trans hF
    refine j_aload_n C 0 dX7_set_29 rfl rfl ?_
    refine j_get (v := .ref (h0 2)) C 0 1 rfl rfl (Nat.le_of_ble_eq_true rfl) rfl rfl in1_X7 (List.mem_cons_of_mem _ mw_4_11) dX7_set_30 ?_
    refine j_sipush (v := (540 : Int32)) C dX7_set_33 rfl ?_
    refine j_aload_n C 0 dX7_set_36 rfl rfl ?_
    refine j_get (v := .int (oV o0 4)) C 0 4 rfl rfl (Nat.le_of_ble_eq_true rfl) rfl rfl in1_X7 (List.mem_cons_of_mem _ mw_5_19) dX7_set_37 ?_
    refine j_imul C dX7_set_40 ?_
    refine j_iload_n C 1 dX7_set_41 rfl rfl ?_
    refine j_iadd C dX7_set_42 ?_
    refine j_iload_n C 2 dX7_set_43 rfl rfl ?_
    obtain ⟨z_4, hF⟩ := gi hF
    obtain ⟨o0_6, e_5, hF⟩ := glT hF
    refine j_iast C 0 1 rfl rfl z_4 [(shX7, h0, o0_6)] (by rw [e_5]; rfl) dX7_set_44 ?_
    cases hF
    exact j_vret C Rk dX7_set_45
  · have hF := (if_neg c_7).symm.trans hF
    refine j_aload_n C 0 dX7_set_7 rfl rfl ?_
    refine j_get (v := .ref (h0 3)) C 0 2 rfl rfl (Nat.le_of_ble_eq_true rfl) rfl rfl in1_X7 (List.mem_cons_of_mem _ mw_4_12) dX7_set_8 ?_
    refine j_bipush (v := (8 : Int32)) C dX7_set_11 rfl ?_
    refine j_aload_n C 0 dX7_set_13 rfl rfl ?_
    refine j_get (v := .int (oV o0 4)) C 0 4 rfl rfl (Nat.le_of_ble_eq_true rfl) rfl rfl in1_X7 (List.mem_cons_of_mem _ mw_5_19) dX7_set_14 ?_
    refine j_imul C dX7_set_17 ?_
    refine j_iload_n C 1 dX7_set_18 rfl rfl ?_
    refine j_iadd C dX7_set_19 ?_
    refine j_sipush (v := (900 : Int32)) C dX7_set_20 rfl ?_
    refine j_isub C dX7_set_23 ?_
    refine j_iload_n C 2 dX7_set_24 rfl rfl ?_
    obtain ⟨z_1, hF⟩ := gi hF
    obtain ⟨o0_3, e_2, hF⟩ := glT hF
    refine j_iast C 0 2 rfl rfl z_1 [(shX7, h0, o0_3)] (by rw [e_2]; rfl) dX7_set_25 ?_
    refine j_goto C 45 dX7_set_26 rfl ?_
    cases hF
    exact j_vret C Rk dX7_set_45
/-! HeadsMeetModel.wire -/
def FX7_wire (x1 : Int32) (x2 : Int32) (o0 : Ob) : Option (Ob) :=
  b1 (FX7_set x1 x2 o0) fun o0_1 =>
  b1 (FX7_set x2 x1 o0_1) fun o0_3 =>
  some o0_3
set_option maxRecDepth 100000 in
set_option maxHeartbeats 4000000 in
theorem kX7_wire (g : Gl) (h0 : Nat → Nat) (x1 : Int32) (x2 : Int32) (o0 : Ob) {o0' : Ob} (hF : FX7_wire x1 x2 o0 = some o0') : Ctr g yX7_wire (Cond.code yX7_wire cX7_wire 3 none :: wsL_law) 1 22 [(shX7, h0, o0)] [(shX7, h0, o0')] [.ref (h0 0), .int x1, .int x2] none := by
  refine Ctr.of (cc := cX7_wire) (maxL := 3) (ret := none) (by decide) rfl (Nat.le_of_ble_eq_true rfl) ?_
  intro X C Rk
  replace C : CxOk g X cX7_wire RX7 (Cond.code yX7_wire cX7_wire 3 none :: wsL_law) 3 1 22 := C
  show J g X [(shX7, h0, o0)] 0 [(0, .ref (h0 0)), (1, .int x1), (2, .int x2)] []
  unfold FX7_wire at hF
  refine j_aload_n C 0 dX7_wire_0 rfl rfl ?_
  refine j_iload_n C 1 dX7_wire_1 rfl rfl ?_
  refine j_iload_n C 2 dX7_wire_2 rfl rfl ?_
  obtain ⟨o0_1, k_2, hF⟩ := gb1 hF
  refine j_callVv C (os' := [(shX7, h0, o0_1)]) [.int x1, .int x2] (kX7_set g h0 x1 x2 o0 k_2) [0] rfl rfl rfl rfl 0 rfl rfl (wl_gV mw_27_16 mw_27_17 mw_27_18 mw_1_5 mw_27_19) rfl 2 rfl hd_X7_set ⟨Nat.le_of_ble_eq_true rfl, Nat.le_of_ble_eq_true rfl⟩ (Nat.le_of_ble_eq_true rfl) rfl dX7_wire_3 ?_
  refine j_aload_n C 0 dX7_wire_6 rfl rfl ?_
  refine j_iload_n C 2 dX7_wire_7 rfl rfl ?_
  refine j_iload_n C 1 dX7_wire_8 rfl rfl ?_
  obtain ⟨o0_3, k_4, hF⟩ := gb1 hF
  refine j_callVv C (os' := [(shX7, h0, o0_3)]) [.int x2, .int x1] (kX7_set g h0 x2 x1 o0_1 k_4) [0] rfl rfl rfl rfl 0 rfl rfl (wl_gV mw_27_16 mw_27_17 mw_27_18 mw_1_5 mw_27_19) rfl 2 rfl hd_X7_set ⟨Nat.le_of_ble_eq_true rfl, Nat.le_of_ble_eq_true rfl⟩ (Nat.le_of_ble_eq_true rfl) rfl dX7_wire_9 ?_
  cases hF
  exact j_vret C Rk dX7_wire_12
/-! HeadsMeetModel.isOpen -/
def FX7_isOpen (x1 : Int32) (o0 : Ob) : Option (Int32) :=
  b1 (FX7_within x1 (0 : Int32) (7 : Int32)) fun r_1 =>
  if r_1 = 0 then
    some (0 : Int32)
  else
    if inb (((8 : Int32) * (oV o0 4)) + x1) 32 then
    if (oA o0 2 (((8 : Int32) * (oV o0 4)) + x1).toNatClampNeg) = (-1 : Int32) then
      some (0 : Int32)
    else
      some (1 : Int32)
    else none
set_option maxRecDepth 100000 in
set_option maxHeartbeats 4000000 in
theorem kX7_isOpen (g : Gl) (h0 : Nat → Nat) (x1 : Int32) (o0 : Ob) {r : Int32} (hF : FX7_isOpen x1 o0 = some r) : Ctr g yX7_isOpen (Cond.code yX7_isOpen cX7_isOpen 2 (some .boolean) :: wsL_law) 1 22 [(shX7, h0, o0)] [(shX7, h0, o0)] [.ref (h0 0), .int x1] (some (.int r)) := by
  refine Ctr.of (cc := cX7_isOpen) (maxL := 2) (ret := (some .boolean)) (by decide) rfl (Nat.le_of_ble_eq_true rfl) ?_
  intro X C Rk
  replace C : CxOk g X cX7_isOpen RX7 (Cond.code yX7_isOpen cX7_isOpen 2 (some .boolean) :: wsL_law) 2 1 22 := C
  show J g X [(shX7, h0, o0)] 0 [(0, .ref (h0 0)), (1, .int x1)] []
  unfold FX7_isOpen at hF
  refine j_iload_n C 1 dX7_isOpen_0 rfl rfl ?_
  refine j_iconst (v := (0 : Int32)) C dX7_isOpen_1 rfl ?_
  refine j_bipush (v := (7 : Int32)) C dX7_isOpen_2 rfl ?_
  obtain ⟨r_1, k_2, hF⟩ := gb1 hF
  refine j_callSi C (os' := [(shX7, h0, o0)]) [.int x1, .int (0 : Int32), .int (7 : Int32)] (kX7_within g x1 (0 : Int32) (7 : Int32) k_2) [] rfl rfl rfl rfl (wl_gS mw_6_18 mw_6_19 mw_1_5 mw_6_20) rfl 3 rfl hd_X7_within ⟨Nat.le_of_ble_eq_true rfl, Nat.le_of_ble_eq_true rfl⟩ (Nat.le_of_ble_eq_true rfl) rfl dX7_isOpen_4 ?_
  refine j_if_eq C 32 dX7_isOpen_7 rfl (fun c_5 => ?_) (fun c_5 => ?_)
  · have hF := (if_pos c_5).symm.trans hF
    refine j_iconst (v := (0 : Int32)) C dX7_isOpen_32 rfl ?_
    cases hF
    exact j_zret C rfl Rk dX7_isOpen_33
  · have hF := (if_neg c_5).symm.trans hF
    refine j_aload_n C 0 dX7_isOpen_10 rfl rfl ?_
    refine j_get (v := .ref (h0 3)) C 0 2 rfl rfl (Nat.le_of_ble_eq_true rfl) rfl rfl in1_X7 (List.mem_cons_of_mem _ mw_4_12) dX7_isOpen_11 ?_
    refine j_bipush (v := (8 : Int32)) C dX7_isOpen_14 rfl ?_
    refine j_aload_n C 0 dX7_isOpen_16 rfl rfl ?_
    refine j_get (v := .int (oV o0 4)) C 0 4 rfl rfl (Nat.le_of_ble_eq_true rfl) rfl rfl in1_X7 (List.mem_cons_of_mem _ mw_5_19) dX7_isOpen_17 ?_
    refine j_imul C dX7_isOpen_20 ?_
    refine j_iload_n C 1 dX7_isOpen_21 rfl rfl ?_
    refine j_iadd C dX7_isOpen_22 ?_
    obtain ⟨z_3, hF⟩ := gi hF
    refine j_iald C 0 2 rfl rfl z_3 dX7_isOpen_23 ?_
    refine j_iconst (v := (-1 : Int32)) C dX7_isOpen_24 rfl ?_
    refine j_icmp_eq C 32 dX7_isOpen_25 rfl (fun c_4 => ?_) (fun c_4 => ?_)
    · have hF := (if_pos c_4).symm.trans hF
      refine j_iconst (v := (0 : Int32)) C dX7_isOpen_32 rfl ?_
      cases hF
      exact j_zret C rfl Rk dX7_isOpen_33
    · have hF := (if_neg c_4).symm.trans hF
      refine j_iconst (v := (1 : Int32)) C dX7_isOpen_28 rfl ?_
      refine j_goto C 33 dX7_isOpen_29 rfl ?_
      cases hF
      exact j_zret C rfl Rk dX7_isOpen_33
/-! HeadsMeetModel.made -/
def LX7_made_2 (x1 : Int32) (o0 : Ob) (E17 : Int32 → Option (Int32 × Ob)) : Nat → Int32 → Option (Int32 × Ob)
  | 0, _ => none
  | n + 1, x2 =>
    b1 (FX7_kindOf x2 o0) fun r_1 =>
    if r_1 = (-1 : Int32) then
      E17 x2
    else
      lT (x2 + (1 : Int32)) fun x2_3 =>
      LX7_made_2 x1 o0 E17 n x2_3
def FX7_made (x1 : Int32) (o0 : Ob) : Option (Int32 × Ob) :=
  LX7_made_2 x1 o0 (fun x2_6 =>
   if inb (((180 : Int32) * (oV o0 4)) + x2_6) 720 then
   lT (sA o0 0 (((180 : Int32) * (oV o0 4)) + x2_6).toNatClampNeg x1) fun o0_9 =>
   some (x2_6, o0_9)
   else none) fu (0 : Int32)
set_option maxRecDepth 100000 in
set_option maxHeartbeats 4000000 in
theorem lX7_made_2 {g : Gl} {X : Cxt} (C : CxOk g X cX7_made RX7 (Cond.code yX7_made cX7_made 3 (some .int) :: wsL_law) 3 1 21) {r : Int32} {o0' : Ob} (h0 : Nat → Nat) (x1 : Int32) (o0 : Ob) (E17 : Int32 → Option (Int32 × Ob)) (Rk : RetOk g X [(shX7, h0, o0')] (some (.int r)) (some .int)) (hE17 : ∀ (x2 : Int32), E17 x2 = some (r, o0') → J g X [(shX7, h0, o0)] 17 [(0, .ref (h0 0)), (1, .int x1), (2, .int x2)] []) : ∀ (n : Nat) (x2 : Int32), LX7_made_2 x1 o0 E17 n x2 = some (r, o0') → J g X [(shX7, h0, o0)] 2 [(0, .ref (h0 0)), (1, .int x1), (2, .int x2)] [] := by
  intro n
  induction n with
  | zero =>
    intro x2 hF
    cases hF
  | succ n ih =>
    intro x2 hF
    rw [LX7_made_2.eq_2] at hF
    refine j_aload_n C 0 dX7_made_2 rfl rfl ?_
    refine j_iload_n C 2 dX7_made_3 rfl rfl ?_
    obtain ⟨r_1, k_2, hF⟩ := gb1 hF
    refine j_callVi C (os' := [(shX7, h0, o0)]) [.int x2] (kX7_kindOf g h0 x2 o0 k_2) [0] rfl rfl rfl rfl 0 rfl rfl (wl_gV mw_24_9 mw_24_10 mw_24_11 mw_1_5 mw_24_12) rfl 1 rfl hd_X7_kindOf ⟨Nat.le_of_ble_eq_true rfl, Nat.le_of_ble_eq_true rfl⟩ (Nat.le_of_ble_eq_true rfl) rfl dX7_made_4 ?_
    refine j_iconst (v := (-1 : Int32)) C dX7_made_7 rfl ?_
    refine j_icmp_eq C 17 dX7_made_8 rfl (fun c_5 => ?_) (fun c_5 => ?_)
    · have hF := (if_pos c_5).symm.trans hF
      exact hE17 _ hF
    · have hF := (if_neg c_5).symm.trans hF
      obtain ⟨x2_3, e_4, hF⟩ := glT hF
      refine j_iinc C 2 [(2, .int x2_3), (0, .ref (h0 0)), (1, .int x1)] dX7_made_11 rfl e_4.symm (Nat.le_of_ble_eq_true rfl) rfl ?_
      refine j_goto C 2 dX7_made_14 rfl ?_
      refine j_sub [(0, .ref (h0 0)), (1, .int x1), (2, .int x2_3)] [1, 2, 0] rfl ?_
      exact ih _ hF
set_option maxRecDepth 100000 in
set_option maxHeartbeats 4000000 in
theorem kX7_made (g : Gl) (h0 : Nat → Nat) (x1 : Int32) (o0 : Ob) {r : Int32} {o0' : Ob} (hF : FX7_made x1 o0 = some (r, o0')) : Ctr g yX7_made (Cond.code yX7_made cX7_made 3 (some .int) :: wsL_law) 1 21 [(shX7, h0, o0)] [(shX7, h0, o0')] [.ref (h0 0), .int x1] (some (.int r)) := by
  refine Ctr.of (cc := cX7_made) (maxL := 3) (ret := (some .int)) (by decide) rfl (Nat.le_of_ble_eq_true rfl) ?_
  intro X C Rk
  replace C : CxOk g X cX7_made RX7 (Cond.code yX7_made cX7_made 3 (some .int) :: wsL_law) 3 1 21 := C
  show J g X [(shX7, h0, o0)] 0 [(0, .ref (h0 0)), (1, .int x1)] []
  unfold FX7_made at hF
  refine j_iconst (v := (0 : Int32)) C dX7_made_0 rfl ?_
  refine j_istore_n C [(2, .int (0 : Int32)), (0, .ref (h0 0)), (1, .int x1)] dX7_made_1 rfl (Nat.le_of_ble_eq_true rfl) rfl rfl ?_
  refine j_sub [(0, .ref (h0 0)), (1, .int x1), (2, .int (0 : Int32))] [1, 2, 0] rfl ?_
  refine lX7_made_2 C h0 x1 o0 _ Rk (fun x2_6 hF => ?_) _ _ hF
  refine j_aload_n C 0 dX7_made_17 rfl rfl ?_
  refine j_get (v := .ref (h0 1)) C 0 0 rfl rfl (Nat.le_of_ble_eq_true rfl) rfl rfl in1_X7 (List.mem_cons_of_mem _ mw_4_10) dX7_made_18 ?_
  refine j_sipush (v := (180 : Int32)) C dX7_made_21 rfl ?_
  refine j_aload_n C 0 dX7_made_24 rfl rfl ?_
  refine j_get (v := .int (oV o0 4)) C 0 4 rfl rfl (Nat.le_of_ble_eq_true rfl) rfl rfl in1_X7 (List.mem_cons_of_mem _ mw_5_19) dX7_made_25 ?_
  refine j_imul C dX7_made_28 ?_
  refine j_iload_n C 2 dX7_made_29 rfl rfl ?_
  refine j_iadd C dX7_made_30 ?_
  refine j_iload_n C 1 dX7_made_31 rfl rfl ?_
  obtain ⟨z_7, hF⟩ := gi hF
  obtain ⟨o0_9, e_8, hF⟩ := glT hF
  refine j_iast C 0 0 rfl rfl z_7 [(shX7, h0, o0_9)] (by rw [e_8]; rfl) dX7_made_32 ?_
  refine j_iload_n C 2 dX7_made_33 rfl rfl ?_
  cases hF
  exact j_iret C Rk dX7_made_34
/-! HeadsMeetModel.vanish -/
def LX7_vanish_20 (x1 : Int32) : Nat → Int32 → Ob → Option (Ob)
  | 0, _, _ => none
  | n + 1, x2, o0 =>
    if (((3 : Int32) * x1) + (3 : Int32)) ≤ x2 then
      some o0
    else
      if inb (((540 : Int32) * (oV o0 4)) + x2) 2160 then
      lT (sA o0 1 (((540 : Int32) * (oV o0 4)) + x2).toNatClampNeg (-1 : Int32)) fun o0_8 =>
      lT (x2 + (1 : Int32)) fun x2_9 =>
      LX7_vanish_20 x1 n x2_9 o0_8
      else none
def FX7_vanish (x1 : Int32) (o0 : Ob) : Option (Ob) :=
  if inb (((180 : Int32) * (oV o0 4)) + x1) 720 then
  lT (sA o0 0 (((180 : Int32) * (oV o0 4)) + x1).toNatClampNeg (-1 : Int32)) fun o0_3 =>
  lT ((3 : Int32) * x1) fun x2_4 =>
  LX7_vanish_20 x1 fu x2_4 o0_3
  else none
set_option maxRecDepth 100000 in
set_option maxHeartbeats 4000000 in
theorem lX7_vanish_20 {g : Gl} {X : Cxt} (C : CxOk g X cX7_vanish RX7 (Cond.code yX7_vanish cX7_vanish 3 none :: wsL_law) 3 0 0) {o0' : Ob} (h0 : Nat → Nat) (x1 : Int32)  (Rk : RetOk g X [(shX7, h0, o0')] none none)  : ∀ (n : Nat) (x2 : Int32) (o0 : Ob), LX7_vanish_20 x1 n x2 o0 = some o0' → J g X [(shX7, h0, o0)] 20 [(0, .ref (h0 0)), (1, .int x1), (2, .int x2)] [] := by
  intro n
  induction n with
  | zero =>
    intro x2 o0 hF
    cases hF
  | succ n ih =>
    intro x2 o0 hF
    rw [LX7_vanish_20.eq_2] at hF
    refine j_iload_n C 2 dX7_vanish_20 rfl rfl ?_
    refine j_iconst (v := (3 : Int32)) C dX7_vanish_21 rfl ?_
    refine j_iload_n C 1 dX7_vanish_22 rfl rfl ?_
    refine j_imul C dX7_vanish_23 ?_
    refine j_iconst (v := (3 : Int32)) C dX7_vanish_24 rfl ?_
    refine j_iadd C dX7_vanish_25 ?_
    refine j_icmp_ge C 51 dX7_vanish_26 rfl (fun c_11 => ?_) (fun c_11 => ?_)
    · have hF := (if_pos c_11).symm.trans hF
      cases hF
      exact j_vret C Rk dX7_vanish_51
    · have hF := (if_neg c_11).symm.trans hF
      refine j_aload_n C 0 dX7_vanish_29 rfl rfl ?_
      refine j_get (v := .ref (h0 2)) C 0 1 rfl rfl (Nat.le_of_ble_eq_true rfl) rfl rfl in1_X7 (List.mem_cons_of_mem _ mw_4_11) dX7_vanish_30 ?_
      refine j_sipush (v := (540 : Int32)) C dX7_vanish_33 rfl ?_
      refine j_aload_n C 0 dX7_vanish_36 rfl rfl ?_
      refine j_get (v := .int (oV o0 4)) C 0 4 rfl rfl (Nat.le_of_ble_eq_true rfl) rfl rfl in1_X7 (List.mem_cons_of_mem _ mw_5_19) dX7_vanish_37 ?_
      refine j_imul C dX7_vanish_40 ?_
      refine j_iload_n C 2 dX7_vanish_41 rfl rfl ?_
      refine j_iadd C dX7_vanish_42 ?_
      refine j_iconst (v := (-1 : Int32)) C dX7_vanish_43 rfl ?_
      obtain ⟨z_6, hF⟩ := gi hF
      obtain ⟨o0_8, e_7, hF⟩ := glT hF
      refine j_iast C 0 1 rfl rfl z_6 [(shX7, h0, o0_8)] (by rw [e_7]; rfl) dX7_vanish_44 ?_
      obtain ⟨x2_9, e_10, hF⟩ := glT hF
      refine j_iinc C 2 [(2, .int x2_9), (0, .ref (h0 0)), (1, .int x1)] dX7_vanish_45 rfl e_10.symm (Nat.le_of_ble_eq_true rfl) rfl ?_
      refine j_goto C 20 dX7_vanish_48 rfl ?_
      refine j_sub [(0, .ref (h0 0)), (1, .int x1), (2, .int x2_9)] [1, 2, 0] rfl ?_
      exact ih _ _ hF
set_option maxRecDepth 100000 in
set_option maxHeartbeats 4000000 in
theorem kX7_vanish (g : Gl) (h0 : Nat → Nat) (x1 : Int32) (o0 : Ob) {o0' : Ob} (hF : FX7_vanish x1 o0 = some o0') : Ctr g yX7_vanish (Cond.code yX7_vanish cX7_vanish 3 none :: wsL_law) 0 0 [(shX7, h0, o0)] [(shX7, h0, o0')] [.ref (h0 0), .int x1] none := by
  refine Ctr.of (cc := cX7_vanish) (maxL := 3) (ret := none) (by decide) rfl (Nat.le_of_ble_eq_true rfl) ?_
  intro X C Rk
  replace C : CxOk g X cX7_vanish RX7 (Cond.code yX7_vanish cX7_vanish 3 none :: wsL_law) 3 0 0 := C
  show J g X [(shX7, h0, o0)] 0 [(0, .ref (h0 0)), (1, .int x1)] []
  unfold FX7_vanish at hF
  refine j_aload_n C 0 dX7_vanish_0 rfl rfl ?_
  refine j_get (v := .ref (h0 1)) C 0 0 rfl rfl (Nat.le_of_ble_eq_true rfl) rfl rfl in1_X7 (List.mem_cons_of_mem _ mw_4_10) dX7_vanish_1 ?_
  refine j_sipush (v := (180 : Int32)) C dX7_vanish_4 rfl ?_
  refine j_aload_n C 0 dX7_vanish_7 rfl rfl ?_
  refine j_get (v := .int (oV o0 4)) C 0 4 rfl rfl (Nat.le_of_ble_eq_true rfl) rfl rfl in1_X7 (List.mem_cons_of_mem _ mw_5_19) dX7_vanish_8 ?_
  refine j_imul C dX7_vanish_11 ?_
  refine j_iload_n C 1 dX7_vanish_12 rfl rfl ?_
  refine j_iadd C dX7_vanish_13 ?_
  refine j_iconst (v := (-1 : Int32)) C dX7_vanish_14 rfl ?_
  obtain ⟨z_1, hF⟩ := gi hF
  obtain ⟨o0_3, e_2, hF⟩ := glT hF
  refine j_iast C 0 0 rfl rfl z_1 [(shX7, h0, o0_3)] (by rw [e_2]; rfl) dX7_vanish_15 ?_
  refine j_iconst (v := (3 : Int32)) C dX7_vanish_16 rfl ?_
  refine j_iload_n C 1 dX7_vanish_17 rfl rfl ?_
  refine j_imul C dX7_vanish_18 ?_
  obtain ⟨x2_4, e_5, hF⟩ := glT hF
  refine j_istore_n C [(2, .int x2_4), (0, .ref (h0 0)), (1, .int x1)] dX7_vanish_19 rfl (Nat.le_of_ble_eq_true rfl) e_5 rfl ?_
  refine j_sub [(0, .ref (h0 0)), (1, .int x1), (2, .int x2_4)] [1, 2, 0] rfl ?_
  refine lX7_vanish_20 C h0 x1 Rk  _ _ _ hF
/-! HeadsMeetModel.nodes -/
def LX7_nodes_4 (o0 : Ob) : Nat → Int32 → Int32 → Option (Int32)
  | 0, _, _ => none
  | n + 1, x1, x2 =>
    if (180 : Int32) ≤ x2 then
      some x1
    else
      b1 (FX7_kindOf x2 o0) fun r_1 =>
      if r_1 = (-1 : Int32) then
        lT (x1 + (0 : Int32)) fun x1_3 =>
        lT (x2 + (1 : Int32)) fun x2_5 =>
        LX7_nodes_4 o0 n x1_3 x2_5
      else
        lT (x1 + (1 : Int32)) fun x1_7 =>
        lT (x2 + (1 : Int32)) fun x2_9 =>
        LX7_nodes_4 o0 n x1_7 x2_9
def FX7_nodes  (o0 : Ob) : Option (Int32) :=
  LX7_nodes_4 o0 fu (0 : Int32) (0 : Int32)
set_option maxRecDepth 100000 in
set_option maxHeartbeats 4000000 in
theorem lX7_nodes_4 {g : Gl} {X : Cxt} (C : CxOk g X cX7_nodes RX7 (Cond.code yX7_nodes cX7_nodes 3 (some .int) :: wsL_law) 3 1 21) {r : Int32} (h0 : Nat → Nat) (o0 : Ob)  (Rk : RetOk g X [(shX7, h0, o0)] (some (.int r)) (some .int))  : ∀ (n : Nat) (x1 : Int32) (x2 : Int32), LX7_nodes_4 o0 n x1 x2 = some r → J g X [(shX7, h0, o0)] 4 [(0, .ref (h0 0)), (1, .int x1), (2, .int x2)] [] := by
  intro n
  induction n with
  | zero =>
    intro x1 x2 hF
    cases hF
  | succ n ih =>
    intro x1 x2 hF
    rw [LX7_nodes_4.eq_2] at hF
    refine j_iload_n C 2 dX7_nodes_4 rfl rfl ?_
    refine j_sipush (v := (180 : Int32)) C dX7_nodes_5 rfl ?_
    refine j_icmp_ge C 34 dX7_nodes_8 rfl (fun c_12 => ?_) (fun c_12 => ?_)
    · have hF := (if_pos c_12).symm.trans hF
      refine j_iload_n C 1 dX7_nodes_34 rfl rfl ?_
      cases hF
      exact j_iret C Rk dX7_nodes_35
    · have hF := (if_neg c_12).symm.trans hF
      refine j_iload_n C 1 dX7_nodes_11 rfl rfl ?_
      refine j_aload_n C 0 dX7_nodes_12 rfl rfl ?_
      refine j_iload_n C 2 dX7_nodes_13 rfl rfl ?_
      obtain ⟨r_1, k_2, hF⟩ := gb1 hF
      refine j_callVi C (os' := [(shX7, h0, o0)]) [.int x2] (kX7_kindOf g h0 x2 o0 k_2) [0] rfl rfl rfl rfl 0 rfl rfl (wl_gV mw_24_9 mw_24_10 mw_24_11 mw_1_5 mw_24_12) rfl 1 rfl hd_X7_kindOf ⟨Nat.le_of_ble_eq_true rfl, Nat.le_of_ble_eq_true rfl⟩ (Nat.le_of_ble_eq_true rfl) rfl dX7_nodes_14 ?_
      refine j_iconst (v := (-1 : Int32)) C dX7_nodes_17 rfl ?_
      refine j_icmp_ne C 25 dX7_nodes_18 rfl (fun c_11 => ?_) (fun c_11 => ?_)
      · have hF := (if_neg c_11).symm.trans hF
        refine j_iconst (v := (1 : Int32)) C dX7_nodes_25 rfl ?_
        refine j_iadd C dX7_nodes_26 ?_
        obtain ⟨x1_7, e_8, hF⟩ := glT hF
        refine j_istore_n C [(1, .int x1_7), (0, .ref (h0 0)), (2, .int x2)] dX7_nodes_27 rfl (Nat.le_of_ble_eq_true rfl) e_8 rfl ?_
        obtain ⟨x2_9, e_10, hF⟩ := glT hF
        refine j_iinc C 2 [(2, .int x2_9), (1, .int x1_7), (0, .ref (h0 0))] dX7_nodes_28 rfl e_10.symm (Nat.le_of_ble_eq_true rfl) rfl ?_
        refine j_goto C 4 dX7_nodes_31 rfl ?_
        refine j_sub [(0, .ref (h0 0)), (1, .int x1_7), (2, .int x2_9)] [2, 1, 0] rfl ?_
        exact ih _ _ hF
      · have hF := (if_pos c_11).symm.trans hF
        refine j_iconst (v := (0 : Int32)) C dX7_nodes_21 rfl ?_
        refine j_goto C 26 dX7_nodes_22 rfl ?_
        refine j_iadd C dX7_nodes_26 ?_
        obtain ⟨x1_3, e_4, hF⟩ := glT hF
        refine j_istore_n C [(1, .int x1_3), (0, .ref (h0 0)), (2, .int x2)] dX7_nodes_27 rfl (Nat.le_of_ble_eq_true rfl) e_4 rfl ?_
        obtain ⟨x2_5, e_6, hF⟩ := glT hF
        refine j_iinc C 2 [(2, .int x2_5), (1, .int x1_3), (0, .ref (h0 0))] dX7_nodes_28 rfl e_6.symm (Nat.le_of_ble_eq_true rfl) rfl ?_
        refine j_goto C 4 dX7_nodes_31 rfl ?_
        refine j_sub [(0, .ref (h0 0)), (1, .int x1_3), (2, .int x2_5)] [2, 1, 0] rfl ?_
        exact ih _ _ hF
set_option maxRecDepth 100000 in
set_option maxHeartbeats 4000000 in
theorem kX7_nodes (g : Gl) (h0 : Nat → Nat)  (o0 : Ob) {r : Int32} (hF : FX7_nodes o0 = some r) : Ctr g yX7_nodes (Cond.code yX7_nodes cX7_nodes 3 (some .int) :: wsL_law) 1 21 [(shX7, h0, o0)] [(shX7, h0, o0)] [.ref (h0 0)] (some (.int r)) := by
  refine Ctr.of (cc := cX7_nodes) (maxL := 3) (ret := (some .int)) (by decide) rfl (Nat.le_of_ble_eq_true rfl) ?_
  intro X C Rk
  replace C : CxOk g X cX7_nodes RX7 (Cond.code yX7_nodes cX7_nodes 3 (some .int) :: wsL_law) 3 1 21 := C
  show J g X [(shX7, h0, o0)] 0 [(0, .ref (h0 0))] []
  unfold FX7_nodes at hF
  refine j_iconst (v := (0 : Int32)) C dX7_nodes_0 rfl ?_
  refine j_istore_n C [(1, .int (0 : Int32)), (0, .ref (h0 0))] dX7_nodes_1 rfl (Nat.le_of_ble_eq_true rfl) rfl rfl ?_
  refine j_iconst (v := (0 : Int32)) C dX7_nodes_2 rfl ?_
  refine j_istore_n C [(2, .int (0 : Int32)), (1, .int (0 : Int32)), (0, .ref (h0 0))] dX7_nodes_3 rfl (Nat.le_of_ble_eq_true rfl) rfl rfl ?_
  refine j_sub [(0, .ref (h0 0)), (1, .int (0 : Int32)), (2, .int (0 : Int32))] [2, 1, 0] rfl ?_
  refine lX7_nodes_4 C h0 o0 Rk  _ _ _ hF
/-! HeadsMeetModel.ofKind -/
def LX7_ofKind_4 (x1 : Int32) (o0 : Ob) : Nat → Int32 → Int32 → Option (Int32)
  | 0, _, _ => none
  | n + 1, x2, x3 =>
    if (180 : Int32) ≤ x3 then
      some x2
    else
      b1 (FX7_kindOf x3 o0) fun r_1 =>
      if r_1 = x1 then
        lT (x2 + (1 : Int32)) fun x2_3 =>
        lT (x3 + (1 : Int32)) fun x3_5 =>
        LX7_ofKind_4 x1 o0 n x2_3 x3_5
      else
        lT (x2 + (0 : Int32)) fun x2_7 =>
        lT (x3 + (1 : Int32)) fun x3_9 =>
        LX7_ofKind_4 x1 o0 n x2_7 x3_9
def FX7_ofKind (x1 : Int32) (o0 : Ob) : Option (Int32) :=
  LX7_ofKind_4 x1 o0 fu (0 : Int32) (0 : Int32)
set_option maxRecDepth 100000 in
set_option maxHeartbeats 4000000 in
theorem lX7_ofKind_4 {g : Gl} {X : Cxt} (C : CxOk g X cX7_ofKind RX7 (Cond.code yX7_ofKind cX7_ofKind 4 (some .int) :: wsL_law) 4 1 21) {r : Int32} (h0 : Nat → Nat) (x1 : Int32) (o0 : Ob)  (Rk : RetOk g X [(shX7, h0, o0)] (some (.int r)) (some .int))  : ∀ (n : Nat) (x2 : Int32) (x3 : Int32), LX7_ofKind_4 x1 o0 n x2 x3 = some r → J g X [(shX7, h0, o0)] 4 [(0, .ref (h0 0)), (1, .int x1), (2, .int x2), (3, .int x3)] [] := by
  intro n
  induction n with
  | zero =>
    intro x2 x3 hF
    cases hF
  | succ n ih =>
    intro x2 x3 hF
    rw [LX7_ofKind_4.eq_2] at hF
    refine j_iload_n C 3 dX7_ofKind_4 rfl rfl ?_
    refine j_sipush (v := (180 : Int32)) C dX7_ofKind_5 rfl ?_
    refine j_icmp_ge C 34 dX7_ofKind_8 rfl (fun c_12 => ?_) (fun c_12 => ?_)
    · have hF := (if_pos c_12).symm.trans hF
      refine j_iload_n C 2 dX7_ofKind_34 rfl rfl ?_
      cases hF
      exact j_iret C Rk dX7_ofKind_35
    · have hF := (if_neg c_12).symm.trans hF
      refine j_iload_n C 2 dX7_ofKind_11 rfl rfl ?_
      refine j_aload_n C 0 dX7_ofKind_12 rfl rfl ?_
      refine j_iload_n C 3 dX7_ofKind_13 rfl rfl ?_
      obtain ⟨r_1, k_2, hF⟩ := gb1 hF
      refine j_callVi C (os' := [(shX7, h0, o0)]) [.int x3] (kX7_kindOf g h0 x3 o0 k_2) [0] rfl rfl rfl rfl 0 rfl rfl (wl_gV mw_24_9 mw_24_10 mw_24_11 mw_1_5 mw_24_12) rfl 1 rfl hd_X7_kindOf ⟨Nat.le_of_ble_eq_true rfl, Nat.le_of_ble_eq_true rfl⟩ (Nat.le_of_ble_eq_true rfl) rfl dX7_ofKind_14 ?_
      refine j_iload_n C 1 dX7_ofKind_17 rfl rfl ?_
      refine j_icmp_ne C 25 dX7_ofKind_18 rfl (fun c_11 => ?_) (fun c_11 => ?_)
      · have hF := (if_neg c_11).symm.trans hF
        refine j_iconst (v := (0 : Int32)) C dX7_ofKind_25 rfl ?_
        refine j_iadd C dX7_ofKind_26 ?_
        obtain ⟨x2_7, e_8, hF⟩ := glT hF
        refine j_istore_n C [(2, .int x2_7), (0, .ref (h0 0)), (1, .int x1), (3, .int x3)] dX7_ofKind_27 rfl (Nat.le_of_ble_eq_true rfl) e_8 rfl ?_
        obtain ⟨x3_9, e_10, hF⟩ := glT hF
        refine j_iinc C 3 [(3, .int x3_9), (2, .int x2_7), (0, .ref (h0 0)), (1, .int x1)] dX7_ofKind_28 rfl e_10.symm (Nat.le_of_ble_eq_true rfl) rfl ?_
        refine j_goto C 4 dX7_ofKind_31 rfl ?_
        refine j_sub [(0, .ref (h0 0)), (1, .int x1), (2, .int x2_7), (3, .int x3_9)] [2, 3, 1, 0] rfl ?_
        exact ih _ _ hF
      · have hF := (if_pos c_11).symm.trans hF
        refine j_iconst (v := (1 : Int32)) C dX7_ofKind_21 rfl ?_
        refine j_goto C 26 dX7_ofKind_22 rfl ?_
        refine j_iadd C dX7_ofKind_26 ?_
        obtain ⟨x2_3, e_4, hF⟩ := glT hF
        refine j_istore_n C [(2, .int x2_3), (0, .ref (h0 0)), (1, .int x1), (3, .int x3)] dX7_ofKind_27 rfl (Nat.le_of_ble_eq_true rfl) e_4 rfl ?_
        obtain ⟨x3_5, e_6, hF⟩ := glT hF
        refine j_iinc C 3 [(3, .int x3_5), (2, .int x2_3), (0, .ref (h0 0)), (1, .int x1)] dX7_ofKind_28 rfl e_6.symm (Nat.le_of_ble_eq_true rfl) rfl ?_
        refine j_goto C 4 dX7_ofKind_31 rfl ?_
        refine j_sub [(0, .ref (h0 0)), (1, .int x1), (2, .int x2_3), (3, .int x3_5)] [2, 3, 1, 0] rfl ?_
        exact ih _ _ hF
set_option maxRecDepth 100000 in
set_option maxHeartbeats 4000000 in
theorem kX7_ofKind (g : Gl) (h0 : Nat → Nat) (x1 : Int32) (o0 : Ob) {r : Int32} (hF : FX7_ofKind x1 o0 = some r) : Ctr g yX7_ofKind (Cond.code yX7_ofKind cX7_ofKind 4 (some .int) :: wsL_law) 1 21 [(shX7, h0, o0)] [(shX7, h0, o0)] [.ref (h0 0), .int x1] (some (.int r)) := by
  refine Ctr.of (cc := cX7_ofKind) (maxL := 4) (ret := (some .int)) (by decide) rfl (Nat.le_of_ble_eq_true rfl) ?_
  intro X C Rk
  replace C : CxOk g X cX7_ofKind RX7 (Cond.code yX7_ofKind cX7_ofKind 4 (some .int) :: wsL_law) 4 1 21 := C
  show J g X [(shX7, h0, o0)] 0 [(0, .ref (h0 0)), (1, .int x1)] []
  unfold FX7_ofKind at hF
  refine j_iconst (v := (0 : Int32)) C dX7_ofKind_0 rfl ?_
  refine j_istore_n C [(2, .int (0 : Int32)), (0, .ref (h0 0)), (1, .int x1)] dX7_ofKind_1 rfl (Nat.le_of_ble_eq_true rfl) rfl rfl ?_
  refine j_iconst (v := (0 : Int32)) C dX7_ofKind_2 rfl ?_
  refine j_istore_n C [(3, .int (0 : Int32)), (2, .int (0 : Int32)), (0, .ref (h0 0)), (1, .int x1)] dX7_ofKind_3 rfl (Nat.le_of_ble_eq_true rfl) rfl rfl ?_
  refine j_sub [(0, .ref (h0 0)), (1, .int x1), (2, .int (0 : Int32)), (3, .int (0 : Int32))] [2, 3, 1, 0] rfl ?_
  refine lX7_ofKind_4 C h0 x1 o0 Rk  _ _ _ hF
/-! HeadsMeetModel.meets -/
def FX7_meets (x1 : Int32) (o0 : Ob) : Option (Int32) :=
  b1 (FX7_at ((3 : Int32) * x1) o0) fun r_1 =>
  b1 (FX7_within r_1 (0 : Int32) (539 : Int32)) fun r_3 =>
  if r_3 = 0 then
    some (-1 : Int32)
  else
    if (r_1 - r_1 / (3 : Int32) * (3 : Int32)) = 0 then
      some (r_1 / (3 : Int32))
    else
      some (-1 : Int32)
set_option maxRecDepth 100000 in
set_option maxHeartbeats 4000000 in
theorem kX7_meets (g : Gl) (h0 : Nat → Nat) (x1 : Int32) (o0 : Ob) {r : Int32} (hF : FX7_meets x1 o0 = some r) : Ctr g yX7_meets (Cond.code yX7_meets cX7_meets 3 (some .int) :: wsL_law) 1 22 [(shX7, h0, o0)] [(shX7, h0, o0)] [.ref (h0 0), .int x1] (some (.int r)) := by
  refine Ctr.of (cc := cX7_meets) (maxL := 3) (ret := (some .int)) (by decide) rfl (Nat.le_of_ble_eq_true rfl) ?_
  intro X C Rk
  replace C : CxOk g X cX7_meets RX7 (Cond.code yX7_meets cX7_meets 3 (some .int) :: wsL_law) 3 1 22 := C
  show J g X [(shX7, h0, o0)] 0 [(0, .ref (h0 0)), (1, .int x1)] []
  unfold FX7_meets at hF
  refine j_aload_n C 0 dX7_meets_0 rfl rfl ?_
  refine j_iconst (v := (3 : Int32)) C dX7_meets_1 rfl ?_
  refine j_iload_n C 1 dX7_meets_2 rfl rfl ?_
  refine j_imul C dX7_meets_3 ?_
  obtain ⟨r_1, k_2, hF⟩ := gb1 hF
  refine j_callVi C (os' := [(shX7, h0, o0)]) [.int ((3 : Int32) * x1)] (kX7_at g h0 ((3 : Int32) * x1) o0 k_2) [0] rfl rfl rfl rfl 0 rfl rfl (wl_gV mw_24_21 mw_24_22 mw_24_23 mw_1_5 mw_25_0) rfl 1 rfl hd_X7_at ⟨Nat.le_of_ble_eq_true rfl, Nat.le_of_ble_eq_true rfl⟩ (Nat.le_of_ble_eq_true rfl) rfl dX7_meets_4 ?_
  refine j_istore_n C [(2, .int r_1), (0, .ref (h0 0)), (1, .int x1)] dX7_meets_7 rfl (Nat.le_of_ble_eq_true rfl) rfl rfl ?_
  refine j_iload_n C 0 dX7_meets_8 rfl rfl ?_
  refine j_iconst (v := (0 : Int32)) C dX7_meets_9 rfl ?_
  refine j_sipush (v := (539 : Int32)) C dX7_meets_10 rfl ?_
  obtain ⟨r_3, k_4, hF⟩ := gb1 hF
  refine j_callSi C (os' := [(shX7, h0, o0)]) [.int r_1, .int (0 : Int32), .int (539 : Int32)] (kX7_within g r_1 (0 : Int32) (539 : Int32) k_4) [] rfl rfl rfl rfl (wl_gS mw_6_18 mw_6_19 mw_1_5 mw_6_20) rfl 3 rfl hd_X7_within ⟨Nat.le_of_ble_eq_true rfl, Nat.le_of_ble_eq_true rfl⟩ (Nat.le_of_ble_eq_true rfl) rfl dX7_meets_13 ?_
  refine j_if_eq C 31 dX7_meets_16 rfl (fun c_6 => ?_) (fun c_6 => ?_)
  · have hF := (if_pos c_6).symm.trans hF
    refine j_iconst (v := (-1 : Int32)) C dX7_meets_31 rfl ?_
    cases hF
    exact j_iret C Rk dX7_meets_32
  · have hF := (if_neg c_6).symm.trans hF
    refine j_iload_n C 0 dX7_meets_19 rfl rfl ?_
    refine j_iconst (v := (3 : Int32)) C dX7_meets_20 rfl ?_
    refine j_irem C (by decide) dX7_meets_21 ?_
    refine j_if_ne C 31 dX7_meets_22 rfl (fun c_5 => ?_) (fun c_5 => ?_)
    · have hF := (if_neg c_5).symm.trans hF
      refine j_iconst (v := (-1 : Int32)) C dX7_meets_31 rfl ?_
      cases hF
      exact j_iret C Rk dX7_meets_32
    · have hF := (if_pos c_5).symm.trans hF
      refine j_iload_n C 0 dX7_meets_25 rfl rfl ?_
      refine j_iconst (v := (3 : Int32)) C dX7_meets_26 rfl ?_
      refine j_idiv C (by decide) dX7_meets_27 ?_
      refine j_goto C 32 dX7_meets_28 rfl ?_
      cases hF
      exact j_iret C Rk dX7_meets_32
/-! HeadsMeetModel.isMeeting -/
def FX7_isMeeting (x1 : Int32) (o0 : Ob) : Option (Int32) :=
  b1 (FX7_kindOf x1 o0) fun r_1 =>
  if r_1 = (-1 : Int32) then
    some (0 : Int32)
  else
    b1 (FX7_meets x1 o0) fun r_3 =>
    if r_3 ≤ x1 then
      some (0 : Int32)
    else
      some (1 : Int32)
set_option maxRecDepth 100000 in
set_option maxHeartbeats 4000000 in
theorem kX7_isMeeting (g : Gl) (h0 : Nat → Nat) (x1 : Int32) (o0 : Ob) {r : Int32} (hF : FX7_isMeeting x1 o0 = some r) : Ctr g yX7_isMeeting (Cond.code yX7_isMeeting cX7_isMeeting 2 (some .boolean) :: wsL_law) 2 44 [(shX7, h0, o0)] [(shX7, h0, o0)] [.ref (h0 0), .int x1] (some (.int r)) := by
  refine Ctr.of (cc := cX7_isMeeting) (maxL := 2) (ret := (some .boolean)) (by decide) rfl (Nat.le_of_ble_eq_true rfl) ?_
  intro X C Rk
  replace C : CxOk g X cX7_isMeeting RX7 (Cond.code yX7_isMeeting cX7_isMeeting 2 (some .boolean) :: wsL_law) 2 2 44 := C
  show J g X [(shX7, h0, o0)] 0 [(0, .ref (h0 0)), (1, .int x1)] []
  unfold FX7_isMeeting at hF
  refine j_aload_n C 0 dX7_isMeeting_0 rfl rfl ?_
  refine j_iload_n C 1 dX7_isMeeting_1 rfl rfl ?_
  obtain ⟨r_1, k_2, hF⟩ := gb1 hF
  refine j_callVi C (os' := [(shX7, h0, o0)]) [.int x1] (kX7_kindOf g h0 x1 o0 k_2) [0] rfl rfl rfl rfl 0 rfl rfl (wl_gV mw_24_9 mw_24_10 mw_24_11 mw_1_5 mw_24_12) rfl 1 rfl hd_X7_kindOf ⟨Nat.le_of_ble_eq_true rfl, Nat.le_of_ble_eq_true rfl⟩ (Nat.le_of_ble_eq_true rfl) rfl dX7_isMeeting_2 ?_
  refine j_iconst (v := (-1 : Int32)) C dX7_isMeeting_5 rfl ?_
  refine j_icmp_eq C 22 dX7_isMeeting_6 rfl (fun c_6 => ?_) (fun c_6 => ?_)
  · have hF := (if_pos c_6).symm.trans hF
    refine j_iconst (v := (0 : Int32)) C dX7_isMeeting_22 rfl ?_
    cases hF
    exact j_zret C rfl Rk dX7_isMeeting_23
  · have hF := (if_neg c_6).symm.trans hF
    refine j_aload_n C 0 dX7_isMeeting_9 rfl rfl ?_
    refine j_iload_n C 1 dX7_isMeeting_10 rfl rfl ?_
    obtain ⟨r_3, k_4, hF⟩ := gb1 hF
    refine j_callVi C (os' := [(shX7, h0, o0)]) [.int x1] (kX7_meets g h0 x1 o0 k_4) [0] rfl rfl rfl rfl 0 rfl rfl (wl_gV mw_25_1 mw_25_2 mw_25_3 mw_1_5 mw_25_4) rfl 1 rfl hd_X7_meets ⟨Nat.le_of_ble_eq_true rfl, Nat.le_of_ble_eq_true rfl⟩ (Nat.le_of_ble_eq_true rfl) rfl dX7_isMeeting_11 ?_
    refine j_iload_n C 1 dX7_isMeeting_14 rfl rfl ?_
    refine j_icmp_le C 22 dX7_isMeeting_15 rfl (fun c_5 => ?_) (fun c_5 => ?_)
    · have hF := (if_pos c_5).symm.trans hF
      refine j_iconst (v := (0 : Int32)) C dX7_isMeeting_22 rfl ?_
      cases hF
      exact j_zret C rfl Rk dX7_isMeeting_23
    · have hF := (if_neg c_5).symm.trans hF
      refine j_iconst (v := (1 : Int32)) C dX7_isMeeting_18 rfl ?_
      refine j_goto C 23 dX7_isMeeting_19 rfl ?_
      cases hF
      exact j_zret C rfl Rk dX7_isMeeting_23
/-! HeadsMeetModel.meetingsNow -/
def LX7_meetingsNow_4 (o0 : Ob) : Nat → Int32 → Int32 → Option (Int32)
  | 0, _, _ => none
  | n + 1, x1, x2 =>
    if (180 : Int32) ≤ x2 then
      some x1
    else
      b1 (FX7_isMeeting x2 o0) fun r_1 =>
      if r_1 = 0 then
        lT (x1 + (0 : Int32)) fun x1_7 =>
        lT (x2 + (1 : Int32)) fun x2_9 =>
        LX7_meetingsNow_4 o0 n x1_7 x2_9
      else
        lT (x1 + (1 : Int32)) fun x1_3 =>
        lT (x2 + (1 : Int32)) fun x2_5 =>
        LX7_meetingsNow_4 o0 n x1_3 x2_5
def FX7_meetingsNow  (o0 : Ob) : Option (Int32) :=
  LX7_meetingsNow_4 o0 fu (0 : Int32) (0 : Int32)
set_option maxRecDepth 100000 in
set_option maxHeartbeats 4000000 in
theorem lX7_meetingsNow_4 {g : Gl} {X : Cxt} (C : CxOk g X cX7_meetingsNow RX7 (Cond.code yX7_meetingsNow cX7_meetingsNow 3 (some .int) :: wsL_law) 3 3 65) {r : Int32} (h0 : Nat → Nat) (o0 : Ob)  (Rk : RetOk g X [(shX7, h0, o0)] (some (.int r)) (some .int))  : ∀ (n : Nat) (x1 : Int32) (x2 : Int32), LX7_meetingsNow_4 o0 n x1 x2 = some r → J g X [(shX7, h0, o0)] 4 [(0, .ref (h0 0)), (1, .int x1), (2, .int x2)] [] := by
  intro n
  induction n with
  | zero =>
    intro x1 x2 hF
    cases hF
  | succ n ih =>
    intro x1 x2 hF
    rw [LX7_meetingsNow_4.eq_2] at hF
    refine j_iload_n C 2 dX7_meetingsNow_4 rfl rfl ?_
    refine j_sipush (v := (180 : Int32)) C dX7_meetingsNow_5 rfl ?_
    refine j_icmp_ge C 33 dX7_meetingsNow_8 rfl (fun c_12 => ?_) (fun c_12 => ?_)
    · have hF := (if_pos c_12).symm.trans hF
      refine j_iload_n C 1 dX7_meetingsNow_33 rfl rfl ?_
      cases hF
      exact j_iret C Rk dX7_meetingsNow_34
    · have hF := (if_neg c_12).symm.trans hF
      refine j_iload_n C 1 dX7_meetingsNow_11 rfl rfl ?_
      refine j_aload_n C 0 dX7_meetingsNow_12 rfl rfl ?_
      refine j_iload_n C 2 dX7_meetingsNow_13 rfl rfl ?_
      obtain ⟨r_1, k_2, hF⟩ := gb1 hF
      refine j_callVi C (os' := [(shX7, h0, o0)]) [.int x2] (kX7_isMeeting g h0 x2 o0 k_2) [0] rfl rfl rfl rfl 0 rfl rfl (wl_gV mw_26_1 mw_26_2 mw_26_3 mw_1_5 mw_26_4) rfl 1 rfl hd_X7_isMeeting ⟨Nat.le_of_ble_eq_true rfl, Nat.le_of_ble_eq_true rfl⟩ (Nat.le_of_ble_eq_true rfl) rfl dX7_meetingsNow_14 ?_
      refine j_if_eq C 24 dX7_meetingsNow_17 rfl (fun c_11 => ?_) (fun c_11 => ?_)
      · have hF := (if_pos c_11).symm.trans hF
        refine j_iconst (v := (0 : Int32)) C dX7_meetingsNow_24 rfl ?_
        refine j_iadd C dX7_meetingsNow_25 ?_
        obtain ⟨x1_7, e_8, hF⟩ := glT hF
        refine j_istore_n C [(1, .int x1_7), (0, .ref (h0 0)), (2, .int x2)] dX7_meetingsNow_26 rfl (Nat.le_of_ble_eq_true rfl) e_8 rfl ?_
        obtain ⟨x2_9, e_10, hF⟩ := glT hF
        refine j_iinc C 2 [(2, .int x2_9), (1, .int x1_7), (0, .ref (h0 0))] dX7_meetingsNow_27 rfl e_10.symm (Nat.le_of_ble_eq_true rfl) rfl ?_
        refine j_goto C 4 dX7_meetingsNow_30 rfl ?_
        refine j_sub [(0, .ref (h0 0)), (1, .int x1_7), (2, .int x2_9)] [2, 1, 0] rfl ?_
        exact ih _ _ hF
      · have hF := (if_neg c_11).symm.trans hF
        refine j_iconst (v := (1 : Int32)) C dX7_meetingsNow_20 rfl ?_
        refine j_goto C 25 dX7_meetingsNow_21 rfl ?_
        refine j_iadd C dX7_meetingsNow_25 ?_
        obtain ⟨x1_3, e_4, hF⟩ := glT hF
        refine j_istore_n C [(1, .int x1_3), (0, .ref (h0 0)), (2, .int x2)] dX7_meetingsNow_26 rfl (Nat.le_of_ble_eq_true rfl) e_4 rfl ?_
        obtain ⟨x2_5, e_6, hF⟩ := glT hF
        refine j_iinc C 2 [(2, .int x2_5), (1, .int x1_3), (0, .ref (h0 0))] dX7_meetingsNow_27 rfl e_6.symm (Nat.le_of_ble_eq_true rfl) rfl ?_
        refine j_goto C 4 dX7_meetingsNow_30 rfl ?_
        refine j_sub [(0, .ref (h0 0)), (1, .int x1_3), (2, .int x2_5)] [2, 1, 0] rfl ?_
        exact ih _ _ hF
set_option maxRecDepth 100000 in
set_option maxHeartbeats 4000000 in
theorem kX7_meetingsNow (g : Gl) (h0 : Nat → Nat)  (o0 : Ob) {r : Int32} (hF : FX7_meetingsNow o0 = some r) : Ctr g yX7_meetingsNow (Cond.code yX7_meetingsNow cX7_meetingsNow 3 (some .int) :: wsL_law) 3 65 [(shX7, h0, o0)] [(shX7, h0, o0)] [.ref (h0 0)] (some (.int r)) := by
  refine Ctr.of (cc := cX7_meetingsNow) (maxL := 3) (ret := (some .int)) (by decide) rfl (Nat.le_of_ble_eq_true rfl) ?_
  intro X C Rk
  replace C : CxOk g X cX7_meetingsNow RX7 (Cond.code yX7_meetingsNow cX7_meetingsNow 3 (some .int) :: wsL_law) 3 3 65 := C
  show J g X [(shX7, h0, o0)] 0 [(0, .ref (h0 0))] []
  unfold FX7_meetingsNow at hF
  refine j_iconst (v := (0 : Int32)) C dX7_meetingsNow_0 rfl ?_
  refine j_istore_n C [(1, .int (0 : Int32)), (0, .ref (h0 0))] dX7_meetingsNow_1 rfl (Nat.le_of_ble_eq_true rfl) rfl rfl ?_
  refine j_iconst (v := (0 : Int32)) C dX7_meetingsNow_2 rfl ?_
  refine j_istore_n C [(2, .int (0 : Int32)), (1, .int (0 : Int32)), (0, .ref (h0 0))] dX7_meetingsNow_3 rfl (Nat.le_of_ble_eq_true rfl) rfl rfl ?_
  refine j_sub [(0, .ref (h0 0)), (1, .int (0 : Int32)), (2, .int (0 : Int32))] [2, 1, 0] rfl ?_
  refine lX7_meetingsNow_4 C h0 o0 Rk  _ _ _ hF
/-! HeadsMeetModel.meetingAt -/
def LX7_meetingAt_4 (o0 : Ob) : Nat → Int32 → Int32 → Option (Int32)
  | 0, _, _ => none
  | n + 1, x2, x3 =>
    if (180 : Int32) ≤ x3 then
      some (-1 : Int32)
    else
      b1 (FX7_isMeeting x3 o0) fun r_1 =>
      if r_1 = 0 then
        lT (x3 + (1 : Int32)) fun x3_8 =>
        LX7_meetingAt_4 o0 n x2 x3_8
      else
        if x2 = 0 then
          some x3
        else
          lT (x2 + (-1 : Int32)) fun x2_3 =>
          lT (x3 + (1 : Int32)) fun x3_5 =>
          LX7_meetingAt_4 o0 n x2_3 x3_5
def FX7_meetingAt (x1 : Int32) (o0 : Ob) : Option (Int32) :=
  LX7_meetingAt_4 o0 fu x1 (0 : Int32)
set_option maxRecDepth 100000 in
set_option maxHeartbeats 4000000 in
theorem lX7_meetingAt_4 {g : Gl} {X : Cxt} (C : CxOk g X cX7_meetingAt RX7 (Cond.code yX7_meetingAt cX7_meetingAt 4 (some .int) :: wsL_law) 4 3 65) {r : Int32} (h0 : Nat → Nat) (o0 : Ob)  (Rk : RetOk g X [(shX7, h0, o0)] (some (.int r)) (some .int))  : ∀ (n : Nat) (x2 : Int32) (x3 : Int32), LX7_meetingAt_4 o0 n x2 x3 = some r → J g X [(shX7, h0, o0)] 4 [(0, .ref (h0 0)), (2, .int x2), (3, .int x3)] [] := by
  intro n
  induction n with
  | zero =>
    intro x2 x3 hF
    cases hF
  | succ n ih =>
    intro x2 x3 hF
    rw [LX7_meetingAt_4.eq_2] at hF
    refine j_iload_n C 2 dX7_meetingAt_4 rfl rfl ?_
    refine j_sipush (v := (180 : Int32)) C dX7_meetingAt_5 rfl ?_
    refine j_icmp_ge C 34 dX7_meetingAt_8 rfl (fun c_11 => ?_) (fun c_11 => ?_)
    · have hF := (if_pos c_11).symm.trans hF
      refine j_iconst (v := (-1 : Int32)) C dX7_meetingAt_34 rfl ?_
      cases hF
      exact j_iret C Rk dX7_meetingAt_35
    · have hF := (if_neg c_11).symm.trans hF
      refine j_aload_n C 0 dX7_meetingAt_11 rfl rfl ?_
      refine j_iload_n C 2 dX7_meetingAt_12 rfl rfl ?_
      obtain ⟨r_1, k_2, hF⟩ := gb1 hF
      refine j_callVi C (os' := [(shX7, h0, o0)]) [.int x3] (kX7_isMeeting g h0 x3 o0 k_2) [0] rfl rfl rfl rfl 0 rfl rfl (wl_gV mw_26_1 mw_26_2 mw_26_3 mw_1_5 mw_26_4) rfl 1 rfl hd_X7_isMeeting ⟨Nat.le_of_ble_eq_true rfl, Nat.le_of_ble_eq_true rfl⟩ (Nat.le_of_ble_eq_true rfl) rfl dX7_meetingAt_13 ?_
      refine j_if_eq C 28 dX7_meetingAt_16 rfl (fun c_10 => ?_) (fun c_10 => ?_)
      · have hF := (if_pos c_10).symm.trans hF
        obtain ⟨x3_8, e_9, hF⟩ := glT hF
        refine j_iinc C 2 [(3, .int x3_8), (0, .ref (h0 0)), (2, .int x2)] dX7_meetingAt_28 rfl e_9.symm (Nat.le_of_ble_eq_true rfl) rfl ?_
        refine j_goto C 4 dX7_meetingAt_31 rfl ?_
        refine j_sub [(0, .ref (h0 0)), (2, .int x2), (3, .int x3_8)] [1, 2, 0] rfl ?_
        exact ih _ _ hF
      · have hF := (if_neg c_10).symm.trans hF
        refine j_iload_n C 1 dX7_meetingAt_19 rfl rfl ?_
        refine j_if_ne C 25 dX7_meetingAt_20 rfl (fun c_7 => ?_) (fun c_7 => ?_)
        · have hF := (if_neg c_7).symm.trans hF
          obtain ⟨x2_3, e_4, hF⟩ := glT hF
          refine j_iinc C 1 [(2, .int x2_3), (0, .ref (h0 0)), (3, .int x3)] dX7_meetingAt_25 rfl e_4.symm (Nat.le_of_ble_eq_true rfl) rfl ?_
          obtain ⟨x3_5, e_6, hF⟩ := glT hF
          refine j_iinc C 2 [(3, .int x3_5), (2, .int x2_3), (0, .ref (h0 0))] dX7_meetingAt_28 rfl e_6.symm (Nat.le_of_ble_eq_true rfl) rfl ?_
          refine j_goto C 4 dX7_meetingAt_31 rfl ?_
          refine j_sub [(0, .ref (h0 0)), (2, .int x2_3), (3, .int x3_5)] [2, 1, 0] rfl ?_
          exact ih _ _ hF
        · have hF := (if_pos c_7).symm.trans hF
          refine j_iload_n C 2 dX7_meetingAt_23 rfl rfl ?_
          cases hF
          exact j_iret C Rk dX7_meetingAt_24
set_option maxRecDepth 100000 in
set_option maxHeartbeats 4000000 in
theorem kX7_meetingAt (g : Gl) (h0 : Nat → Nat) (x1 : Int32) (o0 : Ob) {r : Int32} (hF : FX7_meetingAt x1 o0 = some r) : Ctr g yX7_meetingAt (Cond.code yX7_meetingAt cX7_meetingAt 4 (some .int) :: wsL_law) 3 65 [(shX7, h0, o0)] [(shX7, h0, o0)] [.ref (h0 0), .int x1] (some (.int r)) := by
  refine Ctr.of (cc := cX7_meetingAt) (maxL := 4) (ret := (some .int)) (by decide) rfl (Nat.le_of_ble_eq_true rfl) ?_
  intro X C Rk
  replace C : CxOk g X cX7_meetingAt RX7 (Cond.code yX7_meetingAt cX7_meetingAt 4 (some .int) :: wsL_law) 4 3 65 := C
  show J g X [(shX7, h0, o0)] 0 [(0, .ref (h0 0)), (1, .int x1)] []
  unfold FX7_meetingAt at hF
  refine j_iload_n C 1 dX7_meetingAt_0 rfl rfl ?_
  refine j_istore_n C [(2, .int x1), (0, .ref (h0 0)), (1, .int x1)] dX7_meetingAt_1 rfl (Nat.le_of_ble_eq_true rfl) rfl rfl ?_
  refine j_iconst (v := (0 : Int32)) C dX7_meetingAt_2 rfl ?_
  refine j_istore_n C [(3, .int (0 : Int32)), (2, .int x1), (0, .ref (h0 0)), (1, .int x1)] dX7_meetingAt_3 rfl (Nat.le_of_ble_eq_true rfl) rfl rfl ?_
  refine j_sub [(0, .ref (h0 0)), (2, .int x1), (3, .int (0 : Int32))] [2, 1, 0] rfl ?_
  refine lX7_meetingAt_4 C h0 o0 Rk  _ _ _ hF
/-! HeadsMeetModel.sortOf -/
def FX7_sortOf (x1 : Int32) (o0 : Ob) : Option (Int32) :=
  b1 (FX7_kindOf x1 o0) fun r_1 =>
  b1 (FX7_meets x1 o0) fun r_3 =>
  b1 (FX7_kindOf r_3 o0) fun r_5 =>
  if r_1 = r_5 then
    some (1 : Int32)
  else
    if r_1 = 0 then
      some (3 : Int32)
    else
      if r_5 = 0 then
        some (3 : Int32)
      else
        some (2 : Int32)
set_option maxRecDepth 100000 in
set_option maxHeartbeats 4000000 in
theorem kX7_sortOf (g : Gl) (h0 : Nat → Nat) (x1 : Int32) (o0 : Ob) {r : Int32} (hF : FX7_sortOf x1 o0 = some r) : Ctr g yX7_sortOf (Cond.code yX7_sortOf cX7_sortOf 4 (some .int) :: wsL_law) 2 44 [(shX7, h0, o0)] [(shX7, h0, o0)] [.ref (h0 0), .int x1] (some (.int r)) := by
  refine Ctr.of (cc := cX7_sortOf) (maxL := 4) (ret := (some .int)) (by decide) rfl (Nat.le_of_ble_eq_true rfl) ?_
  intro X C Rk
  replace C : CxOk g X cX7_sortOf RX7 (Cond.code yX7_sortOf cX7_sortOf 4 (some .int) :: wsL_law) 4 2 44 := C
  show J g X [(shX7, h0, o0)] 0 [(0, .ref (h0 0)), (1, .int x1)] []
  unfold FX7_sortOf at hF
  refine j_aload_n C 0 dX7_sortOf_0 rfl rfl ?_
  refine j_iload_n C 1 dX7_sortOf_1 rfl rfl ?_
  obtain ⟨r_1, k_2, hF⟩ := gb1 hF
  refine j_callVi C (os' := [(shX7, h0, o0)]) [.int x1] (kX7_kindOf g h0 x1 o0 k_2) [0] rfl rfl rfl rfl 0 rfl rfl (wl_gV mw_24_9 mw_24_10 mw_24_11 mw_1_5 mw_24_12) rfl 1 rfl hd_X7_kindOf ⟨Nat.le_of_ble_eq_true rfl, Nat.le_of_ble_eq_true rfl⟩ (Nat.le_of_ble_eq_true rfl) rfl dX7_sortOf_2 ?_
  refine j_istore_n C [(2, .int r_1), (0, .ref (h0 0)), (1, .int x1)] dX7_sortOf_5 rfl (Nat.le_of_ble_eq_true rfl) rfl rfl ?_
  refine j_aload_n C 1 dX7_sortOf_6 rfl rfl ?_
  refine j_aload_n C 1 dX7_sortOf_7 rfl rfl ?_
  refine j_iload_n C 2 dX7_sortOf_8 rfl rfl ?_
  obtain ⟨r_3, k_4, hF⟩ := gb1 hF
  refine j_callVi C (os' := [(shX7, h0, o0)]) [.int x1] (kX7_meets g h0 x1 o0 k_4) [0] rfl rfl rfl rfl 0 rfl rfl (wl_gV mw_25_1 mw_25_2 mw_25_3 mw_1_5 mw_25_4) rfl 1 rfl hd_X7_meets ⟨Nat.le_of_ble_eq_true rfl, Nat.le_of_ble_eq_true rfl⟩ (Nat.le_of_ble_eq_true rfl) rfl dX7_sortOf_9 ?_
  obtain ⟨r_5, k_6, hF⟩ := gb1 hF
  refine j_callVi C (os' := [(shX7, h0, o0)]) [.int r_3] (kX7_kindOf g h0 r_3 o0 k_6) [0] rfl rfl rfl rfl 0 rfl rfl (wl_gV mw_24_9 mw_24_10 mw_24_11 mw_1_5 mw_24_12) rfl 1 rfl hd_X7_kindOf ⟨Nat.le_of_ble_eq_true rfl, Nat.le_of_ble_eq_true rfl⟩ (Nat.le_of_ble_eq_true rfl) rfl dX7_sortOf_12 ?_
  refine j_istore_n C [(3, .int r_5), (2, .int r_1), (0, .ref (h0 0)), (1, .int x1)] dX7_sortOf_15 rfl (Nat.le_of_ble_eq_true rfl) rfl rfl ?_
  refine j_iload_n C 1 dX7_sortOf_16 rfl rfl ?_
  refine j_iload_n C 0 dX7_sortOf_17 rfl rfl ?_
  refine j_icmp_ne C 25 dX7_sortOf_18 rfl (fun c_9 => ?_) (fun c_9 => ?_)
  · have hF := (if_neg c_9).symm.trans hF
    refine j_iload_n C 1 dX7_sortOf_25 rfl rfl ?_
    refine j_if_eq C 33 dX7_sortOf_26 rfl (fun c_8 => ?_) (fun c_8 => ?_)
    · have hF := (if_pos c_8).symm.trans hF
      refine j_iconst (v := (3 : Int32)) C dX7_sortOf_33 rfl ?_
      refine j_goto C 38 dX7_sortOf_34 rfl ?_
      cases hF
      exact j_iret C Rk dX7_sortOf_38
    · have hF := (if_neg c_8).symm.trans hF
      refine j_iload_n C 0 dX7_sortOf_29 rfl rfl ?_
      refine j_if_ne C 37 dX7_sortOf_30 rfl (fun c_7 => ?_) (fun c_7 => ?_)
      · have hF := (if_neg c_7).symm.trans hF
        refine j_iconst (v := (2 : Int32)) C dX7_sortOf_37 rfl ?_
        cases hF
        exact j_iret C Rk dX7_sortOf_38
      · have hF := (if_pos c_7).symm.trans hF
        refine j_iconst (v := (3 : Int32)) C dX7_sortOf_33 rfl ?_
        refine j_goto C 38 dX7_sortOf_34 rfl ?_
        cases hF
        exact j_iret C Rk dX7_sortOf_38
  · have hF := (if_pos c_9).symm.trans hF
    refine j_iconst (v := (1 : Int32)) C dX7_sortOf_21 rfl ?_
    refine j_goto C 38 dX7_sortOf_22 rfl ?_
    cases hF
    exact j_iret C Rk dX7_sortOf_38
/-! HeadsMeetModel.layPorts -/
def BX7_layPorts_23 (E2 : Int32 → Ob → Option (Ob)) (x1 : Int32) (x2 : Int32) (x3 : Int32) (y1 : Int32) (y2 : Int32) (y3 : Int32) (o0 : Ob) : Option (Ob) :=
  if inb y1 4 then
  lT (sA o0 13 y1.toNatClampNeg (((y2 * y3) + (1 : Int32)) + (x3 - x3 / (2 : Int32) * (2 : Int32)))) fun o0_3 =>
  if inb x3 4 then
  b1 (FX7_at (oA o0_3 13 x3.toNatClampNeg) o0_3) fun r_5 =>
  lT (sA o0_3 14 x3.toNatClampNeg r_5) fun o0_8 =>
  lT (sA o0_8 16 x3.toNatClampNeg (vp_nar .boolean (0 : Int32))) fun o0_10 =>
  lT (x3 + (1 : Int32)) fun x3_11 =>
  E2 x3_11 o0_10
  else none
  else none
def LX7_layPorts_2 (x1 : Int32) (x2 : Int32) (E60 : Ob → Option (Ob)) : Nat → Int32 → Ob → Option (Ob)
  | 0, _, _ => none
  | n + 1, x3, o0 =>
    if (4 : Int32) ≤ x3 then
      E60 o0
    else
      if (2 : Int32) ≤ x3 then
        BX7_layPorts_23 (LX7_layPorts_2 x1 x2 E60 n) x1 x2 x3 x3 (3 : Int32) x2 o0
      else
        BX7_layPorts_23 (LX7_layPorts_2 x1 x2 E60 n) x1 x2 x3 x3 (3 : Int32) x1 o0
def LX7_layPorts_77 (x3 : Int32) (E132 : Ob → Option (Ob)) : Nat → Int32 → Ob → Option (Ob)
  | 0, _, _ => none
  | n + 1, x4, o0 =>
    if (4 : Int32) ≤ x4 then
      E132 o0
    else
      if inb x3 4 then
      if inb x4 4 then
      if (oA o0 14 x3.toNatClampNeg) = (oA o0 13 x4.toNatClampNeg) then
        if (oA o0 14 x3.toNatClampNeg) = (-1 : Int32) then
          lT (sA o0 15 x3.toNatClampNeg (oA o0 15 x3.toNatClampNeg)) fun o0_26 =>
          lT (x4 + (1 : Int32)) fun x4_27 =>
          LX7_layPorts_77 x3 E132 n x4_27 o0_26
        else
          lT (sA o0 15 x3.toNatClampNeg x4) fun o0_22 =>
          lT (x4 + (1 : Int32)) fun x4_23 =>
          LX7_layPorts_77 x3 E132 n x4_23 o0_22
      else
        lT (sA o0 15 x3.toNatClampNeg (oA o0 15 x3.toNatClampNeg)) fun o0_31 =>
        lT (x4 + (1 : Int32)) fun x4_32 =>
        LX7_layPorts_77 x3 E132 n x4_32 o0_31
      else none
      else none
def LX7_layPorts_62  : Nat → Int32 → Ob → Option (Ob)
  | 0, _, _ => none
  | n + 1, x3, o0 =>
    if (4 : Int32) ≤ x3 then
      some o0
    else
      if inb x3 4 then
      lT (sA o0 15 x3.toNatClampNeg (-1 : Int32)) fun o0_18 =>
      LX7_layPorts_77 x3 (fun o0_36 =>
       lT (x3 + (1 : Int32)) fun x3_37 =>
       LX7_layPorts_62 n x3_37 o0_36) fu (0 : Int32) o0_18
      else none
def FX7_layPorts (x1 : Int32) (x2 : Int32) (o0 : Ob) : Option (Ob) :=
  LX7_layPorts_2 x1 x2 (fun o0_15 =>
   LX7_layPorts_62 fu (0 : Int32) o0_15) fu (0 : Int32) o0
set_option maxRecDepth 100000 in
set_option maxHeartbeats 4000000 in
theorem bX7_layPorts_23 {g : Gl} {X : Cxt} (C : CxOk g X cX7_layPorts RX7 (Cond.code yX7_layPorts cX7_layPorts 5 none :: wsL_law) 5 1 21) {o0' : Ob} (h0 : Nat → Nat) (x1 : Int32) (x2 : Int32) (x3 : Int32) (y1 : Int32) (y2 : Int32) (y3 : Int32) (o0 : Ob) (E2 : Int32 → Ob → Option (Ob)) (Rk : RetOk g X [(shX7, h0, o0')] none none) (hE2 : ∀ (x3 : Int32) (o0 : Ob), E2 x3 o0 = some o0' → J g X [(shX7, h0, o0)] 2 [(0, .ref (h0 0)), (1, .int x1), (2, .int x2), (3, .int x3)] []) (hF : BX7_layPorts_23 E2 x1 x2 x3 y1 y2 y3 o0 = some o0') : J g X [(shX7, h0, o0)] 23 [(0, .ref (h0 0)), (1, .int x1), (2, .int x2), (3, .int x3)] [.int y3, .int y2, .int y1, .ref (h0 14)] := by
  unfold BX7_layPorts_23 at hF
  refine j_imul C dX7_layPorts_23 ?_
  refine j_iconst (v := (1 : Int32)) C dX7_layPorts_24 rfl ?_
  refine j_iadd C dX7_layPorts_25 ?_
  refine j_iload_n C 3 dX7_layPorts_26 rfl rfl ?_
  refine j_iconst (v := (2 : Int32)) C dX7_layPorts_27 rfl ?_
  refine j_irem C (by decide) dX7_layPorts_28 ?_
  refine j_iadd C dX7_layPorts_29 ?_
  obtain ⟨z_1, hF⟩ := gi hF
  obtain ⟨o0_3, e_2, hF⟩ := glT hF
  refine j_iast C 0 13 rfl rfl z_1 [(shX7, h0, o0_3)] (by rw [e_2]; rfl) dX7_layPorts_30 ?_
  refine j_aload_n C 0 dX7_layPorts_31 rfl rfl ?_
  refine j_get (v := .ref (h0 15)) C 0 14 rfl rfl (Nat.le_of_ble_eq_true rfl) rfl rfl in1_X7 (List.mem_cons_of_mem _ mw_4_21) dX7_layPorts_32 ?_
  refine j_iload_n C 3 dX7_layPorts_35 rfl rfl ?_
  refine j_aload_n C 0 dX7_layPorts_36 rfl rfl ?_
  refine j_aload_n C 0 dX7_layPorts_37 rfl rfl ?_
  refine j_get (v := .ref (h0 14)) C 0 13 rfl rfl (Nat.le_of_ble_eq_true rfl) rfl rfl in1_X7 (List.mem_cons_of_mem _ mw_4_20) dX7_layPorts_38 ?_
  refine j_iload_n C 3 dX7_layPorts_41 rfl rfl ?_
  obtain ⟨z_4, hF⟩ := gi hF
  refine j_iald C 0 13 rfl rfl z_4 dX7_layPorts_42 ?_
  obtain ⟨r_5, k_6, hF⟩ := gb1 hF
  refine j_callVi C (os' := [(shX7, h0, o0_3)]) [.int (oA o0_3 13 x3.toNatClampNeg)] (kX7_at g h0 (oA o0_3 13 x3.toNatClampNeg) o0_3 k_6) [0] rfl rfl rfl rfl 0 rfl rfl (wl_gV mw_24_21 mw_24_22 mw_24_23 mw_1_5 mw_25_0) rfl 1 rfl hd_X7_at ⟨Nat.le_of_ble_eq_true rfl, Nat.le_of_ble_eq_true rfl⟩ (Nat.le_of_ble_eq_true rfl) rfl dX7_layPorts_43 ?_
  obtain ⟨o0_8, e_7, hF⟩ := glT hF
  refine j_iast C 0 14 rfl rfl z_4 [(shX7, h0, o0_8)] (by rw [e_7]; rfl) dX7_layPorts_46 ?_
  refine j_aload_n C 0 dX7_layPorts_47 rfl rfl ?_
  refine j_get (v := .ref (h0 17)) C 0 16 rfl rfl (Nat.le_of_ble_eq_true rfl) rfl rfl in1_X7 (List.mem_cons_of_mem _ mw_5_0) dX7_layPorts_48 ?_
  refine j_iload_n C 3 dX7_layPorts_51 rfl rfl ?_
  refine j_iconst (v := (0 : Int32)) C dX7_layPorts_52 rfl ?_
  obtain ⟨o0_10, e_9, hF⟩ := glT hF
  refine j_zast C 0 16 rfl rfl z_4 [(shX7, h0, o0_10)] (by rw [e_9]; rfl) dX7_layPorts_53 ?_
  obtain ⟨x3_11, e_12, hF⟩ := glT hF
  refine j_iinc C 3 [(3, .int x3_11), (0, .ref (h0 0)), (1, .int x1), (2, .int x2)] dX7_layPorts_54 rfl e_12.symm (Nat.le_of_ble_eq_true rfl) rfl ?_
  refine j_goto C 2 dX7_layPorts_57 rfl ?_
  refine j_sub [(0, .ref (h0 0)), (1, .int x1), (2, .int x2), (3, .int x3_11)] [1, 2, 3, 0] rfl ?_
  exact hE2 _ _ hF
set_option maxRecDepth 100000 in
set_option maxHeartbeats 4000000 in
theorem lX7_layPorts_2 {g : Gl} {X : Cxt} (C : CxOk g X cX7_layPorts RX7 (Cond.code yX7_layPorts cX7_layPorts 5 none :: wsL_law) 5 1 21) {o0' : Ob} (h0 : Nat → Nat) (x1 : Int32) (x2 : Int32) (E60 : Ob → Option (Ob)) (Rk : RetOk g X [(shX7, h0, o0')] none none) (hE60 : ∀ (o0 : Ob), E60 o0 = some o0' → J g X [(shX7, h0, o0)] 60 [(0, .ref (h0 0))] []) : ∀ (n : Nat) (x3 : Int32) (o0 : Ob), LX7_layPorts_2 x1 x2 E60 n x3 o0 = some o0' → J g X [(shX7, h0, o0)] 2 [(0, .ref (h0 0)), (1, .int x1), (2, .int x2), (3, .int x3)] [] := by
  intro n
  induction n with
  | zero =>
    intro x3 o0 hF
    cases hF
  | succ n ih =>
    intro x3 o0 hF
    rw [LX7_layPorts_2.eq_2] at hF
    refine j_iload_n C 3 dX7_layPorts_2 rfl rfl ?_
    refine j_iconst (v := (4 : Int32)) C dX7_layPorts_3 rfl ?_
    refine j_icmp_ge C 60 dX7_layPorts_4 rfl (fun c_14 => ?_) (fun c_14 => ?_)
    · have hF := (if_pos c_14).symm.trans hF
      refine j_sub [(0, .ref (h0 0))] [0] rfl ?_
      exact hE60 _ hF
    · have hF := (if_neg c_14).symm.trans hF
      refine j_aload_n C 0 dX7_layPorts_7 rfl rfl ?_
      refine j_get (v := .ref (h0 14)) C 0 13 rfl rfl (Nat.le_of_ble_eq_true rfl) rfl rfl in1_X7 (List.mem_cons_of_mem _ mw_4_20) dX7_layPorts_8 ?_
      refine j_iload_n C 3 dX7_layPorts_11 rfl rfl ?_
      refine j_iconst (v := (3 : Int32)) C dX7_layPorts_12 rfl ?_
      refine j_iload_n C 3 dX7_layPorts_13 rfl rfl ?_
      refine j_iconst (v := (2 : Int32)) C dX7_layPorts_14 rfl ?_
      refine j_icmp_ge C 22 dX7_layPorts_15 rfl (fun c_13 => ?_) (fun c_13 => ?_)
      · have hF := (if_pos c_13).symm.trans hF
        refine j_iload_n C 2 dX7_layPorts_22 rfl rfl ?_
        exact bX7_layPorts_23 C h0 _ _ _ _ _ _ _ _ Rk ih hF
      · have hF := (if_neg c_13).symm.trans hF
        refine j_iload_n C 1 dX7_layPorts_18 rfl rfl ?_
        refine j_goto C 23 dX7_layPorts_19 rfl ?_
        exact bX7_layPorts_23 C h0 _ _ _ _ _ _ _ _ Rk ih hF
set_option maxRecDepth 100000 in
set_option maxHeartbeats 4000000 in
theorem lX7_layPorts_77 {g : Gl} {X : Cxt} (C : CxOk g X cX7_layPorts RX7 (Cond.code yX7_layPorts cX7_layPorts 5 none :: wsL_law) 5 1 21) {o0' : Ob} (h0 : Nat → Nat) (x3 : Int32) (E132 : Ob → Option (Ob)) (Rk : RetOk g X [(shX7, h0, o0')] none none) (hE132 : ∀ (o0 : Ob), E132 o0 = some o0' → J g X [(shX7, h0, o0)] 132 [(0, .ref (h0 0)), (3, .int x3)] []) : ∀ (n : Nat) (x4 : Int32) (o0 : Ob), LX7_layPorts_77 x3 E132 n x4 o0 = some o0' → J g X [(shX7, h0, o0)] 77 [(0, .ref (h0 0)), (3, .int x3), (4, .int x4)] [] := by
  intro n
  induction n with
  | zero =>
    intro x4 o0 hF
    cases hF
  | succ n ih =>
    intro x4 o0 hF
    rw [LX7_layPorts_77.eq_2] at hF
    refine j_iload C 2 dX7_layPorts_77 rfl ?_
    refine j_iconst (v := (4 : Int32)) C dX7_layPorts_79 rfl ?_
    refine j_icmp_ge C 132 dX7_layPorts_80 rfl (fun c_35 => ?_) (fun c_35 => ?_)
    · have hF := (if_pos c_35).symm.trans hF
      refine j_sub [(0, .ref (h0 0)), (3, .int x3)] [0, 1] rfl ?_
      exact hE132 _ hF
    · have hF := (if_neg c_35).symm.trans hF
      refine j_aload_n C 0 dX7_layPorts_83 rfl rfl ?_
      refine j_get (v := .ref (h0 16)) C 0 15 rfl rfl (Nat.le_of_ble_eq_true rfl) rfl rfl in1_X7 (List.mem_cons_of_mem _ mw_4_22) dX7_layPorts_84 ?_
      refine j_iload_n C 1 dX7_layPorts_87 rfl rfl ?_
      refine j_aload_n C 0 dX7_layPorts_88 rfl rfl ?_
      refine j_get (v := .ref (h0 15)) C 0 14 rfl rfl (Nat.le_of_ble_eq_true rfl) rfl rfl in1_X7 (List.mem_cons_of_mem _ mw_4_21) dX7_layPorts_89 ?_
      refine j_iload_n C 1 dX7_layPorts_92 rfl rfl ?_
      obtain ⟨z_19, hF⟩ := gi hF
      refine j_iald C 0 14 rfl rfl z_19 dX7_layPorts_93 ?_
      refine j_aload_n C 0 dX7_layPorts_94 rfl rfl ?_
      refine j_get (v := .ref (h0 14)) C 0 13 rfl rfl (Nat.le_of_ble_eq_true rfl) rfl rfl in1_X7 (List.mem_cons_of_mem _ mw_4_20) dX7_layPorts_95 ?_
      refine j_iload C 2 dX7_layPorts_98 rfl ?_
      obtain ⟨z_20, hF⟩ := gi hF
      refine j_iald C 0 13 rfl rfl z_20 dX7_layPorts_100 ?_
      refine j_icmp_ne C 119 dX7_layPorts_101 rfl (fun c_34 => ?_) (fun c_34 => ?_)
      · have hF := (if_neg c_34).symm.trans hF
        refine j_aload_n C 0 dX7_layPorts_119 rfl rfl ?_
        refine j_get (v := .ref (h0 16)) C 0 15 rfl rfl (Nat.le_of_ble_eq_true rfl) rfl rfl in1_X7 (List.mem_cons_of_mem _ mw_4_22) dX7_layPorts_120 ?_
        refine j_iload_n C 1 dX7_layPorts_123 rfl rfl ?_
        refine j_iald C 0 15 rfl rfl z_19 dX7_layPorts_124 ?_
        obtain ⟨o0_31, e_30, hF⟩ := glT hF
        refine j_iast C 0 15 rfl rfl z_19 [(shX7, h0, o0_31)] (by rw [e_30]; rfl) dX7_layPorts_125 ?_
        obtain ⟨x4_32, e_33, hF⟩ := glT hF
        refine j_iinc C 2 [(4, .int x4_32), (0, .ref (h0 0)), (3, .int x3)] dX7_layPorts_126 rfl e_33.symm (Nat.le_of_ble_eq_true rfl) rfl ?_
        refine j_goto C 77 dX7_layPorts_129 rfl ?_
        refine j_sub [(0, .ref (h0 0)), (3, .int x3), (4, .int x4_32)] [1, 2, 0] rfl ?_
        exact ih _ _ hF
      · have hF := (if_pos c_34).symm.trans hF
        refine j_aload_n C 0 dX7_layPorts_104 rfl rfl ?_
        refine j_get (v := .ref (h0 15)) C 0 14 rfl rfl (Nat.le_of_ble_eq_true rfl) rfl rfl in1_X7 (List.mem_cons_of_mem _ mw_4_21) dX7_layPorts_105 ?_
        refine j_iload_n C 1 dX7_layPorts_108 rfl rfl ?_
        refine j_iald C 0 14 rfl rfl z_19 dX7_layPorts_109 ?_
        refine j_iconst (v := (-1 : Int32)) C dX7_layPorts_110 rfl ?_
        refine j_icmp_eq C 119 dX7_layPorts_111 rfl (fun c_29 => ?_) (fun c_29 => ?_)
        · have hF := (if_pos c_29).symm.trans hF
          refine j_aload_n C 0 dX7_layPorts_119 rfl rfl ?_
          refine j_get (v := .ref (h0 16)) C 0 15 rfl rfl (Nat.le_of_ble_eq_true rfl) rfl rfl in1_X7 (List.mem_cons_of_mem _ mw_4_22) dX7_layPorts_120 ?_
          refine j_iload_n C 1 dX7_layPorts_123 rfl rfl ?_
          refine j_iald C 0 15 rfl rfl z_19 dX7_layPorts_124 ?_
          obtain ⟨o0_26, e_25, hF⟩ := glT hF
          refine j_iast C 0 15 rfl rfl z_19 [(shX7, h0, o0_26)] (by rw [e_25]; rfl) dX7_layPorts_125 ?_
          obtain ⟨x4_27, e_28, hF⟩ := glT hF
          refine j_iinc C 2 [(4, .int x4_27), (0, .ref (h0 0)), (3, .int x3)] dX7_layPorts_126 rfl e_28.symm (Nat.le_of_ble_eq_true rfl) rfl ?_
          refine j_goto C 77 dX7_layPorts_129 rfl ?_
          refine j_sub [(0, .ref (h0 0)), (3, .int x3), (4, .int x4_27)] [1, 2, 0] rfl ?_
          exact ih _ _ hF
        · have hF := (if_neg c_29).symm.trans hF
          refine j_iload C 2 dX7_layPorts_114 rfl ?_
          refine j_goto C 125 dX7_layPorts_116 rfl ?_
          obtain ⟨o0_22, e_21, hF⟩ := glT hF
          refine j_iast C 0 15 rfl rfl z_19 [(shX7, h0, o0_22)] (by rw [e_21]; rfl) dX7_layPorts_125 ?_
          obtain ⟨x4_23, e_24, hF⟩ := glT hF
          refine j_iinc C 2 [(4, .int x4_23), (0, .ref (h0 0)), (3, .int x3)] dX7_layPorts_126 rfl e_24.symm (Nat.le_of_ble_eq_true rfl) rfl ?_
          refine j_goto C 77 dX7_layPorts_129 rfl ?_
          refine j_sub [(0, .ref (h0 0)), (3, .int x3), (4, .int x4_23)] [1, 2, 0] rfl ?_
          exact ih _ _ hF
set_option maxRecDepth 100000 in
set_option maxHeartbeats 4000000 in
theorem lX7_layPorts_62 {g : Gl} {X : Cxt} (C : CxOk g X cX7_layPorts RX7 (Cond.code yX7_layPorts cX7_layPorts 5 none :: wsL_law) 5 1 21) {o0' : Ob} (h0 : Nat → Nat)   (Rk : RetOk g X [(shX7, h0, o0')] none none)  : ∀ (n : Nat) (x3 : Int32) (o0 : Ob), LX7_layPorts_62  n x3 o0 = some o0' → J g X [(shX7, h0, o0)] 62 [(0, .ref (h0 0)), (3, .int x3)] [] := by
  intro n
  induction n with
  | zero =>
    intro x3 o0 hF
    cases hF
  | succ n ih =>
    intro x3 o0 hF
    rw [LX7_layPorts_62.eq_2] at hF
    refine j_iload_n C 1 dX7_layPorts_62 rfl rfl ?_
    refine j_iconst (v := (4 : Int32)) C dX7_layPorts_63 rfl ?_
    refine j_icmp_ge C 138 dX7_layPorts_64 rfl (fun c_39 => ?_) (fun c_39 => ?_)
    · have hF := (if_pos c_39).symm.trans hF
      cases hF
      exact j_vret C Rk dX7_layPorts_138
    · have hF := (if_neg c_39).symm.trans hF
      refine j_aload_n C 0 dX7_layPorts_67 rfl rfl ?_
      refine j_get (v := .ref (h0 16)) C 0 15 rfl rfl (Nat.le_of_ble_eq_true rfl) rfl rfl in1_X7 (List.mem_cons_of_mem _ mw_4_22) dX7_layPorts_68 ?_
      refine j_iload_n C 1 dX7_layPorts_71 rfl rfl ?_
      refine j_iconst (v := (-1 : Int32)) C dX7_layPorts_72 rfl ?_
      obtain ⟨z_16, hF⟩ := gi hF
      obtain ⟨o0_18, e_17, hF⟩ := glT hF
      refine j_iast C 0 15 rfl rfl z_16 [(shX7, h0, o0_18)] (by rw [e_17]; rfl) dX7_layPorts_73 ?_
      refine j_iconst (v := (0 : Int32)) C dX7_layPorts_74 rfl ?_
      refine j_istore C [(4, .int (0 : Int32)), (0, .ref (h0 0)), (3, .int x3)] dX7_layPorts_75 (Nat.le_of_ble_eq_true rfl) rfl rfl ?_
      refine j_sub [(0, .ref (h0 0)), (3, .int x3), (4, .int (0 : Int32))] [1, 2, 0] rfl ?_
      refine lX7_layPorts_77 C h0 x3 _ Rk (fun o0_36 hF => ?_) _ _ _ hF
      obtain ⟨x3_37, e_38, hF⟩ := glT hF
      refine j_iinc C 1 [(3, .int x3_37), (0, .ref (h0 0))] dX7_layPorts_132 rfl e_38.symm (Nat.le_of_ble_eq_true rfl) rfl ?_
      refine j_goto C 62 dX7_layPorts_135 rfl ?_
      refine j_sub [(0, .ref (h0 0)), (3, .int x3_37)] [1, 0] rfl ?_
      exact ih _ _ hF
set_option maxRecDepth 100000 in
set_option maxHeartbeats 4000000 in
theorem kX7_layPorts (g : Gl) (h0 : Nat → Nat) (x1 : Int32) (x2 : Int32) (o0 : Ob) {o0' : Ob} (hF : FX7_layPorts x1 x2 o0 = some o0') : Ctr g yX7_layPorts (Cond.code yX7_layPorts cX7_layPorts 5 none :: wsL_law) 1 21 [(shX7, h0, o0)] [(shX7, h0, o0')] [.ref (h0 0), .int x1, .int x2] none := by
  refine Ctr.of (cc := cX7_layPorts) (maxL := 5) (ret := none) (by decide) rfl (Nat.le_of_ble_eq_true rfl) ?_
  intro X C Rk
  replace C : CxOk g X cX7_layPorts RX7 (Cond.code yX7_layPorts cX7_layPorts 5 none :: wsL_law) 5 1 21 := C
  show J g X [(shX7, h0, o0)] 0 [(0, .ref (h0 0)), (1, .int x1), (2, .int x2)] []
  unfold FX7_layPorts at hF
  refine j_iconst (v := (0 : Int32)) C dX7_layPorts_0 rfl ?_
  refine j_istore_n C [(3, .int (0 : Int32)), (0, .ref (h0 0)), (1, .int x1), (2, .int x2)] dX7_layPorts_1 rfl (Nat.le_of_ble_eq_true rfl) rfl rfl ?_
  refine j_sub [(0, .ref (h0 0)), (1, .int x1), (2, .int x2), (3, .int (0 : Int32))] [1, 2, 3, 0] rfl ?_
  refine lX7_layPorts_2 C h0 x1 x2 _ Rk (fun o0_15 hF => ?_) _ _ _ hF
  refine j_iconst (v := (0 : Int32)) C dX7_layPorts_60 rfl ?_
  refine j_istore_n C [(3, .int (0 : Int32)), (0, .ref (h0 0))] dX7_layPorts_61 rfl (Nat.le_of_ble_eq_true rfl) rfl rfl ?_
  refine j_sub [(0, .ref (h0 0)), (3, .int (0 : Int32))] [1, 0] rfl ?_
  refine lX7_layPorts_62 C h0  Rk  _ _ _ hF
/-! HeadsMeetModel.across -/
def FX7_across (x0 : Int32) (x1 : Int32)  : Option (Int32) :=
  if x1 = 0 then
    some ((x0 + (2 : Int32)) - (x0 + (2 : Int32)) / (4 : Int32) * (4 : Int32))
  else
    some ((3 : Int32) - x0)
set_option maxRecDepth 100000 in
set_option maxHeartbeats 4000000 in
theorem kX7_across (g : Gl)  (x0 : Int32) (x1 : Int32)  {r : Int32} (hF : FX7_across x0 x1 = some r) : Ctr g yX7_across (Cond.code yX7_across cX7_across 2 (some .int) :: wsL_law) 0 0 [] [] [.int x0, .int x1] (some (.int r)) := by
  refine Ctr.of (cc := cX7_across) (maxL := 2) (ret := (some .int)) (by decide) rfl (Nat.le_of_ble_eq_true rfl) ?_
  intro X C Rk
  replace C : CxOk g X cX7_across RX7 (Cond.code yX7_across cX7_across 2 (some .int) :: wsL_law) 2 0 0 := C
  show J g X [] 0 [(0, .int x0), (1, .int x1)] []
  unfold FX7_across at hF
  refine j_iload_n C 1 dX7_across_0 rfl rfl ?_
  refine j_if_eq C 10 dX7_across_1 rfl (fun c_1 => ?_) (fun c_1 => ?_)
  · have hF := (if_pos c_1).symm.trans hF
    refine j_iload_n C 0 dX7_across_10 rfl rfl ?_
    refine j_iconst (v := (2 : Int32)) C dX7_across_11 rfl ?_
    refine j_iadd C dX7_across_12 ?_
    refine j_iconst (v := (4 : Int32)) C dX7_across_13 rfl ?_
    refine j_irem C (by decide) dX7_across_14 ?_
    cases hF
    exact j_iret C Rk dX7_across_15
  · have hF := (if_neg c_1).symm.trans hF
    refine j_iconst (v := (3 : Int32)) C dX7_across_4 rfl ?_
    refine j_iload_n C 0 dX7_across_5 rfl rfl ?_
    refine j_isub C dX7_across_6 ?_
    refine j_goto C 15 dX7_across_7 rfl ?_
    cases hF
    exact j_iret C Rk dX7_across_15
/-! HeadsMeetModel.overFrom -/
def LX7_overFrom_20 (x2 : Int32) : Nat → Int32 → Ob → Option (Int32 × Ob)
  | 0, _, _ => none
  | n + 1, x3, o0 =>
    if inb x3 4 then
    if (oA o0 15 x3.toNatClampNeg) = (-1 : Int32) then
      some (x3, o0)
    else
      if inb (oA o0 15 x3.toNatClampNeg) 4 then
      if (oA o0 16 (oA o0 15 x3.toNatClampNeg).toNatClampNeg) = 0 then
        lT (oA o0 15 x3.toNatClampNeg) fun x4_11 =>
        if inb x4_11 4 then
        lT (sA o0 16 x4_11.toNatClampNeg (vp_nar .boolean (1 : Int32))) fun o0_15 =>
        b1 (FX7_across x4_11 x2) fun r_16 =>
        if inb r_16 4 then
        lT (sA o0_15 16 r_16.toNatClampNeg (vp_nar .boolean (1 : Int32))) fun o0_20 =>
        LX7_overFrom_20 x2 n r_16 o0_20
        else none
        else none
      else
        some (x3, o0)
      else none
    else none
def FX7_overFrom (x1 : Int32) (x2 : Int32) (o0 : Ob) : Option (Int32 × Ob) :=
  if inb x1 4 then
  lT (sA o0 16 x1.toNatClampNeg (vp_nar .boolean (1 : Int32))) fun o0_3 =>
  b1 (FX7_across x1 x2) fun r_4 =>
  if inb r_4 4 then
  lT (sA o0_3 16 r_4.toNatClampNeg (vp_nar .boolean (1 : Int32))) fun o0_8 =>
  LX7_overFrom_20 x2 fu r_4 o0_8
  else none
  else none
set_option maxRecDepth 100000 in
set_option maxHeartbeats 4000000 in
theorem lX7_overFrom_20 {g : Gl} {X : Cxt} (C : CxOk g X cX7_overFrom RX7 (Cond.code yX7_overFrom cX7_overFrom 5 (some .int) :: wsL_law) 5 1 21) {r : Int32} {o0' : Ob} (h0 : Nat → Nat) (x2 : Int32)  (Rk : RetOk g X [(shX7, h0, o0')] (some (.int r)) (some .int))  : ∀ (n : Nat) (x3 : Int32) (o0 : Ob), LX7_overFrom_20 x2 n x3 o0 = some (r, o0') → J g X [(shX7, h0, o0)] 20 [(0, .ref (h0 0)), (2, .int x2), (3, .int x3)] [] := by
  intro n
  induction n with
  | zero =>
    intro x3 o0 hF
    cases hF
  | succ n ih =>
    intro x3 o0 hF
    rw [LX7_overFrom_20.eq_2] at hF
    refine j_aload_n C 0 dX7_overFrom_20 rfl rfl ?_
    refine j_get (v := .ref (h0 16)) C 0 15 rfl rfl (Nat.le_of_ble_eq_true rfl) rfl rfl in1_X7 (List.mem_cons_of_mem _ mw_4_22) dX7_overFrom_21 ?_
    refine j_iload_n C 2 dX7_overFrom_24 rfl rfl ?_
    obtain ⟨z_9, hF⟩ := gi hF
    refine j_iald C 0 15 rfl rfl z_9 dX7_overFrom_25 ?_
    refine j_iconst (v := (-1 : Int32)) C dX7_overFrom_26 rfl ?_
    refine j_icmp_eq C 77 dX7_overFrom_27 rfl (fun c_22 => ?_) (fun c_22 => ?_)
    · have hF := (if_pos c_22).symm.trans hF
      refine j_iload_n C 2 dX7_overFrom_77 rfl rfl ?_
      cases hF
      exact j_iret C Rk dX7_overFrom_78
    · have hF := (if_neg c_22).symm.trans hF
      refine j_aload_n C 0 dX7_overFrom_30 rfl rfl ?_
      refine j_get (v := .ref (h0 17)) C 0 16 rfl rfl (Nat.le_of_ble_eq_true rfl) rfl rfl in1_X7 (List.mem_cons_of_mem _ mw_5_0) dX7_overFrom_31 ?_
      refine j_aload_n C 0 dX7_overFrom_34 rfl rfl ?_
      refine j_get (v := .ref (h0 16)) C 0 15 rfl rfl (Nat.le_of_ble_eq_true rfl) rfl rfl in1_X7 (List.mem_cons_of_mem _ mw_4_22) dX7_overFrom_35 ?_
      refine j_iload_n C 2 dX7_overFrom_38 rfl rfl ?_
      refine j_iald C 0 15 rfl rfl z_9 dX7_overFrom_39 ?_
      obtain ⟨z_10, hF⟩ := gi hF
      refine j_zald C 0 16 rfl rfl z_10 dX7_overFrom_40 ?_
      refine j_if_ne C 77 dX7_overFrom_41 rfl (fun c_21 => ?_) (fun c_21 => ?_)
      · have hF := (if_neg c_21).symm.trans hF
        refine j_iload_n C 2 dX7_overFrom_77 rfl rfl ?_
        cases hF
        exact j_iret C Rk dX7_overFrom_78
      · have hF := (if_pos c_21).symm.trans hF
        refine j_aload_n C 0 dX7_overFrom_44 rfl rfl ?_
        refine j_get (v := .ref (h0 16)) C 0 15 rfl rfl (Nat.le_of_ble_eq_true rfl) rfl rfl in1_X7 (List.mem_cons_of_mem _ mw_4_22) dX7_overFrom_45 ?_
        refine j_iload_n C 2 dX7_overFrom_48 rfl rfl ?_
        refine j_iald C 0 15 rfl rfl z_9 dX7_overFrom_49 ?_
        obtain ⟨x4_11, e_12, hF⟩ := glT hF
        refine j_istore C [(4, .int x4_11), (0, .ref (h0 0)), (2, .int x2), (3, .int x3)] dX7_overFrom_50 (Nat.le_of_ble_eq_true rfl) e_12 rfl ?_
        refine j_aload_n C 1 dX7_overFrom_52 rfl rfl ?_
        refine j_get (v := .ref (h0 17)) C 0 16 rfl rfl (Nat.le_of_ble_eq_true rfl) rfl rfl in1_X7 (List.mem_cons_of_mem _ mw_5_0) dX7_overFrom_53 ?_
        refine j_iload C 0 dX7_overFrom_56 rfl ?_
        refine j_iconst (v := (1 : Int32)) C dX7_overFrom_58 rfl ?_
        obtain ⟨z_13, hF⟩ := gi hF
        obtain ⟨o0_15, e_14, hF⟩ := glT hF
        refine j_zast C 0 16 rfl rfl z_13 [(shX7, h0, o0_15)] (by rw [e_14]; rfl) dX7_overFrom_59 ?_
        refine j_iload C 0 dX7_overFrom_60 rfl ?_
        refine j_iload_n C 2 dX7_overFrom_62 rfl rfl ?_
        obtain ⟨r_16, k_17, hF⟩ := gb1 hF
        refine j_callSi C (os' := [(shX7, h0, o0_15)]) [.int x4_11, .int x2] (kX7_across g x4_11 x2 k_17) [] rfl rfl rfl rfl (wl_gS mw_27_9 mw_27_10 mw_1_5 mw_27_11) rfl 2 rfl hd_X7_across ⟨Nat.le_of_ble_eq_true rfl, Nat.le_of_ble_eq_true rfl⟩ (Nat.le_of_ble_eq_true rfl) rfl dX7_overFrom_63 ?_
        refine j_istore_n C [(3, .int r_16), (4, .int x4_11), (0, .ref (h0 0)), (2, .int x2)] dX7_overFrom_66 rfl (Nat.le_of_ble_eq_true rfl) rfl rfl ?_
        refine j_aload_n C 2 dX7_overFrom_67 rfl rfl ?_
        refine j_get (v := .ref (h0 17)) C 0 16 rfl rfl (Nat.le_of_ble_eq_true rfl) rfl rfl in1_X7 (List.mem_cons_of_mem _ mw_5_0) dX7_overFrom_68 ?_
        refine j_iload_n C 0 dX7_overFrom_71 rfl rfl ?_
        refine j_iconst (v := (1 : Int32)) C dX7_overFrom_72 rfl ?_
        obtain ⟨z_18, hF⟩ := gi hF
        obtain ⟨o0_20, e_19, hF⟩ := glT hF
        refine j_zast C 0 16 rfl rfl z_18 [(shX7, h0, o0_20)] (by rw [e_19]; rfl) dX7_overFrom_73 ?_
        refine j_goto C 20 dX7_overFrom_74 rfl ?_
        refine j_sub [(0, .ref (h0 0)), (2, .int x2), (3, .int r_16)] [2, 3, 0] rfl ?_
        exact ih _ _ hF
set_option maxRecDepth 100000 in
set_option maxHeartbeats 4000000 in
theorem kX7_overFrom (g : Gl) (h0 : Nat → Nat) (x1 : Int32) (x2 : Int32) (o0 : Ob) {r : Int32} {o0' : Ob} (hF : FX7_overFrom x1 x2 o0 = some (r, o0')) : Ctr g yX7_overFrom (Cond.code yX7_overFrom cX7_overFrom 5 (some .int) :: wsL_law) 1 21 [(shX7, h0, o0)] [(shX7, h0, o0')] [.ref (h0 0), .int x1, .int x2] (some (.int r)) := by
  refine Ctr.of (cc := cX7_overFrom) (maxL := 5) (ret := (some .int)) (by decide) rfl (Nat.le_of_ble_eq_true rfl) ?_
  intro X C Rk
  replace C : CxOk g X cX7_overFrom RX7 (Cond.code yX7_overFrom cX7_overFrom 5 (some .int) :: wsL_law) 5 1 21 := C
  show J g X [(shX7, h0, o0)] 0 [(0, .ref (h0 0)), (1, .int x1), (2, .int x2)] []
  unfold FX7_overFrom at hF
  refine j_aload_n C 0 dX7_overFrom_0 rfl rfl ?_
  refine j_get (v := .ref (h0 17)) C 0 16 rfl rfl (Nat.le_of_ble_eq_true rfl) rfl rfl in1_X7 (List.mem_cons_of_mem _ mw_5_0) dX7_overFrom_1 ?_
  refine j_iload_n C 1 dX7_overFrom_4 rfl rfl ?_
  refine j_iconst (v := (1 : Int32)) C dX7_overFrom_5 rfl ?_
  obtain ⟨z_1, hF⟩ := gi hF
  obtain ⟨o0_3, e_2, hF⟩ := glT hF
  refine j_zast C 0 16 rfl rfl z_1 [(shX7, h0, o0_3)] (by rw [e_2]; rfl) dX7_overFrom_6 ?_
  refine j_iload_n C 1 dX7_overFrom_7 rfl rfl ?_
  refine j_iload_n C 2 dX7_overFrom_8 rfl rfl ?_
  obtain ⟨r_4, k_5, hF⟩ := gb1 hF
  refine j_callSi C (os' := [(shX7, h0, o0_3)]) [.int x1, .int x2] (kX7_across g x1 x2 k_5) [] rfl rfl rfl rfl (wl_gS mw_27_9 mw_27_10 mw_1_5 mw_27_11) rfl 2 rfl hd_X7_across ⟨Nat.le_of_ble_eq_true rfl, Nat.le_of_ble_eq_true rfl⟩ (Nat.le_of_ble_eq_true rfl) rfl dX7_overFrom_9 ?_
  refine j_istore_n C [(3, .int r_4), (0, .ref (h0 0)), (1, .int x1), (2, .int x2)] dX7_overFrom_12 rfl (Nat.le_of_ble_eq_true rfl) rfl rfl ?_
  refine j_aload_n C 1 dX7_overFrom_13 rfl rfl ?_
  refine j_get (v := .ref (h0 17)) C 0 16 rfl rfl (Nat.le_of_ble_eq_true rfl) rfl rfl in1_X7 (List.mem_cons_of_mem _ mw_5_0) dX7_overFrom_14 ?_
  refine j_iload_n C 0 dX7_overFrom_17 rfl rfl ?_
  refine j_iconst (v := (1 : Int32)) C dX7_overFrom_18 rfl ?_
  obtain ⟨z_6, hF⟩ := gi hF
  obtain ⟨o0_8, e_7, hF⟩ := glT hF
  refine j_zast C 0 16 rfl rfl z_6 [(shX7, h0, o0_8)] (by rw [e_7]; rfl) dX7_overFrom_19 ?_
  refine j_sub [(0, .ref (h0 0)), (2, .int x2), (3, .int r_4)] [1, 3, 0] rfl ?_
  refine lX7_overFrom_20 C h0 x2 Rk  _ _ _ hF
/-! HeadsMeetModel.meetAlike -/
def LX7_meetAlike_49 (x3 : Int32) (x4 : Int32) (E114 : Ob → Option (Ob)) : Nat → Int32 → Ob → Option (Ob)
  | 0, _, _ => none
  | n + 1, x5, o0 =>
    if (4 : Int32) ≤ x5 then
      E114 o0
    else
      if x4 = 0 then
        if inb x5 4 then
        if (oA o0 16 x5.toNatClampNeg) = 0 then
          if (oA o0 15 x5.toNatClampNeg) = (-1 : Int32) then
            b2 (FX7_overFrom x5 x3 o0) fun r_12 o0_13 =>
            if inb r_12 4 then
            b1 (FX7_wire (oA o0_13 14 x5.toNatClampNeg) (oA o0_13 14 r_12.toNatClampNeg) o0_13) fun o0_16 =>
            lT (x5 + (1 : Int32)) fun x5_18 =>
            LX7_meetAlike_49 x3 x4 E114 n x5_18 o0_16
            else none
          else
            lT (x5 + (1 : Int32)) fun x5_20 =>
            LX7_meetAlike_49 x3 x4 E114 n x5_20 o0
        else
          lT (x5 + (1 : Int32)) fun x5_23 =>
          LX7_meetAlike_49 x3 x4 E114 n x5_23 o0
        else none
      else
        E114 o0
def LX7_meetAlike_117 (x3 : Int32) (x4 : Int32) : Nat → Int32 → Ob → Option (Ob)
  | 0, _, _ => none
  | n + 1, x5, o0 =>
    if (4 : Int32) ≤ x5 then
      some o0
    else
      if x4 = 0 then
        if inb x5 4 then
        if (oA o0 16 x5.toNatClampNeg) = 0 then
          b2 (FX7_overFrom x5 x3 o0) fun r_30 o0_31 =>
          if inb (oV o0_31 4) 4 then
          lT (sA o0_31 3 (oV o0_31 4).toNatClampNeg ((oA o0_31 3 (oV o0_31 4).toNatClampNeg) + (1 : Int32))) fun o0_35 =>
          lT (x5 + (1 : Int32)) fun x5_36 =>
          LX7_meetAlike_117 x3 x4 n x5_36 o0_35
          else none
        else
          lT (x5 + (1 : Int32)) fun x5_38 =>
          LX7_meetAlike_117 x3 x4 n x5_38 o0
        else none
      else
        some o0
def BX7_meetAlike_34 (x1 : Int32) (x2 : Int32) (x3 : Int32) (y0 : Int32) (o0 : Ob) : Option (Ob) :=
  b1 (FX7_vanish x1 o0) fun o0_7 =>
  b1 (FX7_vanish x2 o0_7) fun o0_9 =>
  LX7_meetAlike_49 x3 y0 (fun o0_28 =>
   LX7_meetAlike_117 x3 y0 fu (0 : Int32) o0_28) fu (0 : Int32) o0_9
def FX7_meetAlike (x1 : Int32) (x2 : Int32) (o0 : Ob) : Option (Ob) :=
  b1 (FX7_layPorts x1 x2 o0) fun o0_1 =>
  b1 (FX7_kindOf x1 o0_1) fun r_3 =>
  if r_3 = (1 : Int32) then
    b1 (FX7_kindOf x1 o0_1) fun r_5 =>
    if r_5 = 0 then
      BX7_meetAlike_34 x1 x2 (1 : Int32) (1 : Int32) o0_1
    else
      BX7_meetAlike_34 x1 x2 (1 : Int32) (0 : Int32) o0_1
  else
    b1 (FX7_kindOf x1 o0_1) fun r_44 =>
    if r_44 = 0 then
      BX7_meetAlike_34 x1 x2 (0 : Int32) (1 : Int32) o0_1
    else
      BX7_meetAlike_34 x1 x2 (0 : Int32) (0 : Int32) o0_1
set_option maxRecDepth 100000 in
set_option maxHeartbeats 4000000 in
theorem lX7_meetAlike_49 {g : Gl} {X : Cxt} (C : CxOk g X cX7_meetAlike RX7 (Cond.code yX7_meetAlike cX7_meetAlike 7 none :: wsL_law) 7 2 45) {o0' : Ob} (h0 : Nat → Nat) (x3 : Int32) (x4 : Int32) (E114 : Ob → Option (Ob)) (Rk : RetOk g X [(shX7, h0, o0')] none none) (hE114 : ∀ (o0 : Ob), E114 o0 = some o0' → J g X [(shX7, h0, o0)] 114 [(0, .ref (h0 0)), (3, .int x3), (4, .int x4)] []) : ∀ (n : Nat) (x5 : Int32) (o0 : Ob), LX7_meetAlike_49 x3 x4 E114 n x5 o0 = some o0' → J g X [(shX7, h0, o0)] 49 [(0, .ref (h0 0)), (3, .int x3), (4, .int x4), (5, .int x5)] [] := by
  intro n
  induction n with
  | zero =>
    intro x5 o0 hF
    cases hF
  | succ n ih =>
    intro x5 o0 hF
    rw [LX7_meetAlike_49.eq_2] at hF
    refine j_iload C 3 dX7_meetAlike_49 rfl ?_
    refine j_iconst (v := (4 : Int32)) C dX7_meetAlike_51 rfl ?_
    refine j_icmp_ge C 114 dX7_meetAlike_52 rfl (fun c_27 => ?_) (fun c_27 => ?_)
    · have hF := (if_pos c_27).symm.trans hF
      refine j_sub [(0, .ref (h0 0)), (3, .int x3), (4, .int x4)] [0, 1, 2] rfl ?_
      exact hE114 _ hF
    · have hF := (if_neg c_27).symm.trans hF
      refine j_iload C 2 dX7_meetAlike_55 rfl ?_
      refine j_if_ne C 114 dX7_meetAlike_57 rfl (fun c_26 => ?_) (fun c_26 => ?_)
      · have hF := (if_neg c_26).symm.trans hF
        refine j_sub [(0, .ref (h0 0)), (3, .int x3), (4, .int x4)] [0, 1, 2] rfl ?_
        exact hE114 _ hF
      · have hF := (if_pos c_26).symm.trans hF
        refine j_aload_n C 0 dX7_meetAlike_60 rfl rfl ?_
        refine j_get (v := .ref (h0 17)) C 0 16 rfl rfl (Nat.le_of_ble_eq_true rfl) rfl rfl in1_X7 (List.mem_cons_of_mem _ mw_5_0) dX7_meetAlike_61 ?_
        refine j_iload C 3 dX7_meetAlike_64 rfl ?_
        obtain ⟨z_11, hF⟩ := gi hF
        refine j_zald C 0 16 rfl rfl z_11 dX7_meetAlike_66 ?_
        refine j_if_ne C 108 dX7_meetAlike_67 rfl (fun c_25 => ?_) (fun c_25 => ?_)
        · have hF := (if_neg c_25).symm.trans hF
          obtain ⟨x5_23, e_24, hF⟩ := glT hF
          refine j_iinc C 3 [(5, .int x5_23), (0, .ref (h0 0)), (3, .int x3), (4, .int x4)] dX7_meetAlike_108 rfl e_24.symm (Nat.le_of_ble_eq_true rfl) rfl ?_
          refine j_goto C 49 dX7_meetAlike_111 rfl ?_
          refine j_sub [(0, .ref (h0 0)), (3, .int x3), (4, .int x4), (5, .int x5_23)] [1, 2, 3, 0] rfl ?_
          exact ih _ _ hF
        · have hF := (if_pos c_25).symm.trans hF
          refine j_aload_n C 0 dX7_meetAlike_70 rfl rfl ?_
          refine j_get (v := .ref (h0 16)) C 0 15 rfl rfl (Nat.le_of_ble_eq_true rfl) rfl rfl in1_X7 (List.mem_cons_of_mem _ mw_4_22) dX7_meetAlike_71 ?_
          refine j_iload C 3 dX7_meetAlike_74 rfl ?_
          refine j_iald C 0 15 rfl rfl z_11 dX7_meetAlike_76 ?_
          refine j_iconst (v := (-1 : Int32)) C dX7_meetAlike_77 rfl ?_
          refine j_icmp_ne C 108 dX7_meetAlike_78 rfl (fun c_22 => ?_) (fun c_22 => ?_)
          · have hF := (if_neg c_22).symm.trans hF
            obtain ⟨x5_20, e_21, hF⟩ := glT hF
            refine j_iinc C 3 [(5, .int x5_20), (0, .ref (h0 0)), (3, .int x3), (4, .int x4)] dX7_meetAlike_108 rfl e_21.symm (Nat.le_of_ble_eq_true rfl) rfl ?_
            refine j_goto C 49 dX7_meetAlike_111 rfl ?_
            refine j_sub [(0, .ref (h0 0)), (3, .int x3), (4, .int x4), (5, .int x5_20)] [1, 2, 3, 0] rfl ?_
            exact ih _ _ hF
          · have hF := (if_pos c_22).symm.trans hF
            refine j_aload_n C 0 dX7_meetAlike_81 rfl rfl ?_
            refine j_iload C 3 dX7_meetAlike_82 rfl ?_
            refine j_iload_n C 1 dX7_meetAlike_84 rfl rfl ?_
            obtain ⟨r_12, o0_13, k_14, hF⟩ := gb2 hF
            refine j_callVi C (os' := [(shX7, h0, o0_13)]) [.int x5, .int x3] (kX7_overFrom g h0 x5 x3 o0 k_14) [0] rfl rfl rfl rfl 0 rfl rfl (wl_gV mw_27_5 mw_27_6 mw_27_7 mw_1_5 mw_27_8) rfl 2 rfl hd_X7_overFrom ⟨Nat.le_of_ble_eq_true rfl, Nat.le_of_ble_eq_true rfl⟩ (Nat.le_of_ble_eq_true rfl) rfl dX7_meetAlike_85 ?_
            refine j_istore C [(6, .int r_12), (0, .ref (h0 0)), (3, .int x3), (4, .int x4), (5, .int x5)] dX7_meetAlike_88 (Nat.le_of_ble_eq_true rfl) rfl rfl ?_
            refine j_aload_n C 1 dX7_meetAlike_90 rfl rfl ?_
            refine j_aload_n C 1 dX7_meetAlike_91 rfl rfl ?_
            refine j_get (v := .ref (h0 15)) C 0 14 rfl rfl (Nat.le_of_ble_eq_true rfl) rfl rfl in1_X7 (List.mem_cons_of_mem _ mw_4_21) dX7_meetAlike_92 ?_
            refine j_iload C 4 dX7_meetAlike_95 rfl ?_
            refine j_iald C 0 14 rfl rfl z_11 dX7_meetAlike_97 ?_
            refine j_aload_n C 1 dX7_meetAlike_98 rfl rfl ?_
            refine j_get (v := .ref (h0 15)) C 0 14 rfl rfl (Nat.le_of_ble_eq_true rfl) rfl rfl in1_X7 (List.mem_cons_of_mem _ mw_4_21) dX7_meetAlike_99 ?_
            refine j_iload C 0 dX7_meetAlike_102 rfl ?_
            obtain ⟨z_15, hF⟩ := gi hF
            refine j_iald C 0 14 rfl rfl z_15 dX7_meetAlike_104 ?_
            obtain ⟨o0_16, k_17, hF⟩ := gb1 hF
            refine j_callVv C (os' := [(shX7, h0, o0_16)]) [.int (oA o0_13 14 x5.toNatClampNeg), .int (oA o0_13 14 r_12.toNatClampNeg)] (kX7_wire g h0 (oA o0_13 14 x5.toNatClampNeg) (oA o0_13 14 r_12.toNatClampNeg) o0_13 k_17) [0] rfl rfl rfl rfl 0 rfl rfl (wl_gV mw_27_12 mw_27_13 mw_27_14 mw_1_5 mw_27_15) rfl 2 rfl hd_X7_wire ⟨Nat.le_of_ble_eq_true rfl, Nat.le_of_ble_eq_true rfl⟩ (Nat.le_of_ble_eq_true rfl) rfl dX7_meetAlike_105 ?_
            obtain ⟨x5_18, e_19, hF⟩ := glT hF
            refine j_iinc C 4 [(5, .int x5_18), (6, .int r_12), (0, .ref (h0 0)), (3, .int x3), (4, .int x4)] dX7_meetAlike_108 rfl e_19.symm (Nat.le_of_ble_eq_true rfl) rfl ?_
            refine j_goto C 49 dX7_meetAlike_111 rfl ?_
            refine j_sub [(0, .ref (h0 0)), (3, .int x3), (4, .int x4), (5, .int x5_18)] [2, 3, 4, 0] rfl ?_
            exact ih _ _ hF
set_option maxRecDepth 100000 in
set_option maxHeartbeats 4000000 in
theorem lX7_meetAlike_117 {g : Gl} {X : Cxt} (C : CxOk g X cX7_meetAlike RX7 (Cond.code yX7_meetAlike cX7_meetAlike 7 none :: wsL_law) 7 2 45) {o0' : Ob} (h0 : Nat → Nat) (x3 : Int32) (x4 : Int32)  (Rk : RetOk g X [(shX7, h0, o0')] none none)  : ∀ (n : Nat) (x5 : Int32) (o0 : Ob), LX7_meetAlike_117 x3 x4 n x5 o0 = some o0' → J g X [(shX7, h0, o0)] 117 [(0, .ref (h0 0)), (3, .int x3), (4, .int x4), (5, .int x5)] [] := by
  intro n
  induction n with
  | zero =>
    intro x5 o0 hF
    cases hF
  | succ n ih =>
    intro x5 o0 hF
    rw [LX7_meetAlike_117.eq_2] at hF
    refine j_iload C 3 dX7_meetAlike_117 rfl ?_
    refine j_iconst (v := (4 : Int32)) C dX7_meetAlike_119 rfl ?_
    refine j_icmp_ge C 165 dX7_meetAlike_120 rfl (fun c_42 => ?_) (fun c_42 => ?_)
    · have hF := (if_pos c_42).symm.trans hF
      cases hF
      exact j_vret C Rk dX7_meetAlike_165
    · have hF := (if_neg c_42).symm.trans hF
      refine j_iload C 2 dX7_meetAlike_123 rfl ?_
      refine j_if_ne C 165 dX7_meetAlike_125 rfl (fun c_41 => ?_) (fun c_41 => ?_)
      · have hF := (if_neg c_41).symm.trans hF
        cases hF
        exact j_vret C Rk dX7_meetAlike_165
      · have hF := (if_pos c_41).symm.trans hF
        refine j_aload_n C 0 dX7_meetAlike_128 rfl rfl ?_
        refine j_get (v := .ref (h0 17)) C 0 16 rfl rfl (Nat.le_of_ble_eq_true rfl) rfl rfl in1_X7 (List.mem_cons_of_mem _ mw_5_0) dX7_meetAlike_129 ?_
        refine j_iload C 3 dX7_meetAlike_132 rfl ?_
        obtain ⟨z_29, hF⟩ := gi hF
        refine j_zald C 0 16 rfl rfl z_29 dX7_meetAlike_134 ?_
        refine j_if_ne C 159 dX7_meetAlike_135 rfl (fun c_40 => ?_) (fun c_40 => ?_)
        · have hF := (if_neg c_40).symm.trans hF
          obtain ⟨x5_38, e_39, hF⟩ := glT hF
          refine j_iinc C 3 [(5, .int x5_38), (0, .ref (h0 0)), (3, .int x3), (4, .int x4)] dX7_meetAlike_159 rfl e_39.symm (Nat.le_of_ble_eq_true rfl) rfl ?_
          refine j_goto C 117 dX7_meetAlike_162 rfl ?_
          refine j_sub [(0, .ref (h0 0)), (3, .int x3), (4, .int x4), (5, .int x5_38)] [1, 2, 3, 0] rfl ?_
          exact ih _ _ hF
        · have hF := (if_pos c_40).symm.trans hF
          refine j_aload_n C 0 dX7_meetAlike_138 rfl rfl ?_
          refine j_iload C 3 dX7_meetAlike_139 rfl ?_
          refine j_iload_n C 1 dX7_meetAlike_141 rfl rfl ?_
          obtain ⟨r_30, o0_31, k_32, hF⟩ := gb2 hF
          refine j_callVi C (os' := [(shX7, h0, o0_31)]) [.int x5, .int x3] (kX7_overFrom g h0 x5 x3 o0 k_32) [0] rfl rfl rfl rfl 0 rfl rfl (wl_gV mw_27_5 mw_27_6 mw_27_7 mw_1_5 mw_27_8) rfl 2 rfl hd_X7_overFrom ⟨Nat.le_of_ble_eq_true rfl, Nat.le_of_ble_eq_true rfl⟩ (Nat.le_of_ble_eq_true rfl) rfl dX7_meetAlike_142 ?_
          refine j_pop C rfl dX7_meetAlike_145 ?_
          refine j_aload_n C 0 dX7_meetAlike_146 rfl rfl ?_
          refine j_get (v := .ref (h0 4)) C 0 3 rfl rfl (Nat.le_of_ble_eq_true rfl) rfl rfl in1_X7 (List.mem_cons_of_mem _ mw_4_13) dX7_meetAlike_147 ?_
          refine j_aload_n C 0 dX7_meetAlike_150 rfl rfl ?_
          refine j_get (v := .int (oV o0_31 4)) C 0 4 rfl rfl (Nat.le_of_ble_eq_true rfl) rfl rfl in1_X7 (List.mem_cons_of_mem _ mw_5_19) dX7_meetAlike_151 ?_
          refine j_dup2 C rfl rfl dX7_meetAlike_154 ?_
          obtain ⟨z_33, hF⟩ := gi hF
          refine j_iald C 0 3 rfl rfl z_33 dX7_meetAlike_155 ?_
          refine j_iconst (v := (1 : Int32)) C dX7_meetAlike_156 rfl ?_
          refine j_iadd C dX7_meetAlike_157 ?_
          obtain ⟨o0_35, e_34, hF⟩ := glT hF
          refine j_iast C 0 3 rfl rfl z_33 [(shX7, h0, o0_35)] (by rw [e_34]; rfl) dX7_meetAlike_158 ?_
          obtain ⟨x5_36, e_37, hF⟩ := glT hF
          refine j_iinc C 3 [(5, .int x5_36), (0, .ref (h0 0)), (3, .int x3), (4, .int x4)] dX7_meetAlike_159 rfl e_37.symm (Nat.le_of_ble_eq_true rfl) rfl ?_
          refine j_goto C 117 dX7_meetAlike_162 rfl ?_
          refine j_sub [(0, .ref (h0 0)), (3, .int x3), (4, .int x4), (5, .int x5_36)] [1, 2, 3, 0] rfl ?_
          exact ih _ _ hF
set_option maxRecDepth 100000 in
set_option maxHeartbeats 4000000 in
theorem bX7_meetAlike_34 {g : Gl} {X : Cxt} (C : CxOk g X cX7_meetAlike RX7 (Cond.code yX7_meetAlike cX7_meetAlike 7 none :: wsL_law) 7 2 45) {o0' : Ob} (h0 : Nat → Nat) (x1 : Int32) (x2 : Int32) (x3 : Int32) (y0 : Int32) (o0 : Ob)  (Rk : RetOk g X [(shX7, h0, o0')] none none)  (hF : BX7_meetAlike_34  x1 x2 x3 y0 o0 = some o0') : J g X [(shX7, h0, o0)] 34 [(0, .ref (h0 0)), (1, .int x1), (2, .int x2), (3, .int x3)] [.int y0] := by
  unfold BX7_meetAlike_34 at hF
  refine j_istore C [(4, .int y0), (0, .ref (h0 0)), (1, .int x1), (2, .int x2), (3, .int x3)] dX7_meetAlike_34 (Nat.le_of_ble_eq_true rfl) rfl rfl ?_
  refine j_aload_n C 1 dX7_meetAlike_36 rfl rfl ?_
  refine j_iload_n C 2 dX7_meetAlike_37 rfl rfl ?_
  obtain ⟨o0_7, k_8, hF⟩ := gb1 hF
  refine j_callVv C (os' := [(shX7, h0, o0_7)]) [.int x1] (kX7_vanish g h0 x1 o0 k_8) [0] rfl rfl rfl rfl 0 rfl rfl (wl_gV mw_27_1 mw_27_2 mw_27_3 mw_1_5 mw_27_4) rfl 1 rfl hd_X7_vanish ⟨Nat.le_of_ble_eq_true rfl, Nat.le_of_ble_eq_true rfl⟩ (Nat.le_of_ble_eq_true rfl) rfl dX7_meetAlike_38 ?_
  refine j_aload_n C 1 dX7_meetAlike_41 rfl rfl ?_
  refine j_iload_n C 3 dX7_meetAlike_42 rfl rfl ?_
  obtain ⟨o0_9, k_10, hF⟩ := gb1 hF
  refine j_callVv C (os' := [(shX7, h0, o0_9)]) [.int x2] (kX7_vanish g h0 x2 o0_7 k_10) [0] rfl rfl rfl rfl 0 rfl rfl (wl_gV mw_27_1 mw_27_2 mw_27_3 mw_1_5 mw_27_4) rfl 1 rfl hd_X7_vanish ⟨Nat.le_of_ble_eq_true rfl, Nat.le_of_ble_eq_true rfl⟩ (Nat.le_of_ble_eq_true rfl) rfl dX7_meetAlike_43 ?_
  refine j_iconst (v := (0 : Int32)) C dX7_meetAlike_46 rfl ?_
  refine j_istore C [(5, .int (0 : Int32)), (4, .int y0), (0, .ref (h0 0)), (1, .int x1), (2, .int x2), (3, .int x3)] dX7_meetAlike_47 (Nat.le_of_ble_eq_true rfl) rfl rfl ?_
  refine j_sub [(0, .ref (h0 0)), (3, .int x3), (4, .int y0), (5, .int (0 : Int32))] [2, 5, 1, 0] rfl ?_
  refine lX7_meetAlike_49 C h0 x3 y0 _ Rk (fun o0_28 hF => ?_) _ _ _ hF
  refine j_iconst (v := (0 : Int32)) C dX7_meetAlike_114 rfl ?_
  refine j_istore C [(5, .int (0 : Int32)), (0, .ref (h0 0)), (3, .int x3), (4, .int y0)] dX7_meetAlike_115 (Nat.le_of_ble_eq_true rfl) rfl rfl ?_
  refine j_sub [(0, .ref (h0 0)), (3, .int x3), (4, .int y0), (5, .int (0 : Int32))] [1, 2, 3, 0] rfl ?_
  refine lX7_meetAlike_117 C h0 x3 y0 Rk  _ _ _ hF
set_option maxRecDepth 100000 in
set_option maxHeartbeats 4000000 in
theorem kX7_meetAlike (g : Gl) (h0 : Nat → Nat) (x1 : Int32) (x2 : Int32) (o0 : Ob) {o0' : Ob} (hF : FX7_meetAlike x1 x2 o0 = some o0') : Ctr g yX7_meetAlike (Cond.code yX7_meetAlike cX7_meetAlike 7 none :: wsL_law) 2 45 [(shX7, h0, o0)] [(shX7, h0, o0')] [.ref (h0 0), .int x1, .int x2] none := by
  refine Ctr.of (cc := cX7_meetAlike) (maxL := 7) (ret := none) (by decide) rfl (Nat.le_of_ble_eq_true rfl) ?_
  intro X C Rk
  replace C : CxOk g X cX7_meetAlike RX7 (Cond.code yX7_meetAlike cX7_meetAlike 7 none :: wsL_law) 7 2 45 := C
  show J g X [(shX7, h0, o0)] 0 [(0, .ref (h0 0)), (1, .int x1), (2, .int x2)] []
  unfold FX7_meetAlike at hF
  refine j_aload_n C 0 dX7_meetAlike_0 rfl rfl ?_
  refine j_iload_n C 1 dX7_meetAlike_1 rfl rfl ?_
  refine j_iload_n C 2 dX7_meetAlike_2 rfl rfl ?_
  obtain ⟨o0_1, k_2, hF⟩ := gb1 hF
  refine j_callVv C (os' := [(shX7, h0, o0_1)]) [.int x1, .int x2] (kX7_layPorts g h0 x1 x2 o0 k_2) [0] rfl rfl rfl rfl 0 rfl rfl (wl_gV mw_26_21 mw_26_22 mw_26_23 mw_1_5 mw_27_0) rfl 2 rfl hd_X7_layPorts ⟨Nat.le_of_ble_eq_true rfl, Nat.le_of_ble_eq_true rfl⟩ (Nat.le_of_ble_eq_true rfl) rfl dX7_meetAlike_3 ?_
  refine j_aload_n C 0 dX7_meetAlike_6 rfl rfl ?_
  refine j_iload_n C 1 dX7_meetAlike_7 rfl rfl ?_
  obtain ⟨r_3, k_4, hF⟩ := gb1 hF
  refine j_callVi C (os' := [(shX7, h0, o0_1)]) [.int x1] (kX7_kindOf g h0 x1 o0_1 k_4) [0] rfl rfl rfl rfl 0 rfl rfl (wl_gV mw_24_9 mw_24_10 mw_24_11 mw_1_5 mw_24_12) rfl 1 rfl hd_X7_kindOf ⟨Nat.le_of_ble_eq_true rfl, Nat.le_of_ble_eq_true rfl⟩ (Nat.le_of_ble_eq_true rfl) rfl dX7_meetAlike_8 ?_
  refine j_iconst (v := (1 : Int32)) C dX7_meetAlike_11 rfl ?_
  refine j_icmp_ne C 19 dX7_meetAlike_12 rfl (fun c_47 => ?_) (fun c_47 => ?_)
  · have hF := (if_neg c_47).symm.trans hF
    refine j_iconst (v := (0 : Int32)) C dX7_meetAlike_19 rfl ?_
    refine j_istore_n C [(3, .int (0 : Int32)), (0, .ref (h0 0)), (1, .int x1), (2, .int x2)] dX7_meetAlike_20 rfl (Nat.le_of_ble_eq_true rfl) rfl rfl ?_
    refine j_aload_n C 1 dX7_meetAlike_21 rfl rfl ?_
    refine j_iload_n C 2 dX7_meetAlike_22 rfl rfl ?_
    obtain ⟨r_44, k_45, hF⟩ := gb1 hF
    refine j_callVi C (os' := [(shX7, h0, o0_1)]) [.int x1] (kX7_kindOf g h0 x1 o0_1 k_45) [0] rfl rfl rfl rfl 0 rfl rfl (wl_gV mw_24_9 mw_24_10 mw_24_11 mw_1_5 mw_24_12) rfl 1 rfl hd_X7_kindOf ⟨Nat.le_of_ble_eq_true rfl, Nat.le_of_ble_eq_true rfl⟩ (Nat.le_of_ble_eq_true rfl) rfl dX7_meetAlike_23 ?_
    refine j_if_ne C 33 dX7_meetAlike_26 rfl (fun c_46 => ?_) (fun c_46 => ?_)
    · have hF := (if_neg c_46).symm.trans hF
      refine j_iconst (v := (0 : Int32)) C dX7_meetAlike_33 rfl ?_
      refine j_sub [(0, .ref (h0 0)), (1, .int x1), (2, .int x2), (3, .int (0 : Int32))] [1, 2, 3, 0] rfl ?_
      exact bX7_meetAlike_34 C h0 _ _ _ _ _ Rk  hF
    · have hF := (if_pos c_46).symm.trans hF
      refine j_iconst (v := (1 : Int32)) C dX7_meetAlike_29 rfl ?_
      refine j_goto C 34 dX7_meetAlike_30 rfl ?_
      refine j_sub [(0, .ref (h0 0)), (1, .int x1), (2, .int x2), (3, .int (0 : Int32))] [1, 2, 3, 0] rfl ?_
      exact bX7_meetAlike_34 C h0 _ _ _ _ _ Rk  hF
  · have hF := (if_pos c_47).symm.trans hF
    refine j_iconst (v := (1 : Int32)) C dX7_meetAlike_15 rfl ?_
    refine j_goto C 20 dX7_meetAlike_16 rfl ?_
    refine j_istore_n C [(3, .int (1 : Int32)), (0, .ref (h0 0)), (1, .int x1), (2, .int x2)] dX7_meetAlike_20 rfl (Nat.le_of_ble_eq_true rfl) rfl rfl ?_
    refine j_aload_n C 1 dX7_meetAlike_21 rfl rfl ?_
    refine j_iload_n C 2 dX7_meetAlike_22 rfl rfl ?_
    obtain ⟨r_5, k_6, hF⟩ := gb1 hF
    refine j_callVi C (os' := [(shX7, h0, o0_1)]) [.int x1] (kX7_kindOf g h0 x1 o0_1 k_6) [0] rfl rfl rfl rfl 0 rfl rfl (wl_gV mw_24_9 mw_24_10 mw_24_11 mw_1_5 mw_24_12) rfl 1 rfl hd_X7_kindOf ⟨Nat.le_of_ble_eq_true rfl, Nat.le_of_ble_eq_true rfl⟩ (Nat.le_of_ble_eq_true rfl) rfl dX7_meetAlike_23 ?_
    refine j_if_ne C 33 dX7_meetAlike_26 rfl (fun c_43 => ?_) (fun c_43 => ?_)
    · have hF := (if_neg c_43).symm.trans hF
      refine j_iconst (v := (0 : Int32)) C dX7_meetAlike_33 rfl ?_
      refine j_sub [(0, .ref (h0 0)), (1, .int x1), (2, .int x2), (3, .int (1 : Int32))] [1, 2, 3, 0] rfl ?_
      exact bX7_meetAlike_34 C h0 _ _ _ _ _ Rk  hF
    · have hF := (if_pos c_43).symm.trans hF
      refine j_iconst (v := (1 : Int32)) C dX7_meetAlike_29 rfl ?_
      refine j_goto C 34 dX7_meetAlike_30 rfl ?_
      refine j_sub [(0, .ref (h0 0)), (1, .int x1), (2, .int x2), (3, .int (1 : Int32))] [1, 2, 3, 0] rfl ?_
      exact bX7_meetAlike_34 C h0 _ _ _ _ _ Rk  hF
/-! HeadsMeetModel.meetEnd -/
def FX7_meetEnd (x1 : Int32) (x2 : Int32) (o0 : Ob) : Option (Ob) :=
  b1 (FX7_layPorts x2 x1 o0) fun o0_1 =>
  b1 (FX7_vanish x1 o0_1) fun o0_3 =>
  b1 (FX7_vanish x2 o0_3) fun o0_5 =>
  b2 (FX7_made (0 : Int32) o0_5) fun r_7 o0_8 =>
  b2 (FX7_made (0 : Int32) o0_8) fun r_10 o0_11 =>
  if (oA o0_11 15 (0 : Int32).toNatClampNeg) = (1 : Int32) then
    b1 (FX7_wire ((3 : Int32) * r_7) ((3 : Int32) * r_10) o0_11) fun o0_13 =>
    some o0_13
  else
    b1 (FX7_wire ((3 : Int32) * r_7) (oA o0_11 14 (0 : Int32).toNatClampNeg) o0_11) fun o0_15 =>
    b1 (FX7_wire ((3 : Int32) * r_10) (oA o0_15 14 (1 : Int32).toNatClampNeg) o0_15) fun o0_17 =>
    some o0_17
set_option maxRecDepth 100000 in
set_option maxHeartbeats 4000000 in
theorem kX7_meetEnd (g : Gl) (h0 : Nat → Nat) (x1 : Int32) (x2 : Int32) (o0 : Ob) {o0' : Ob} (hF : FX7_meetEnd x1 x2 o0 = some o0') : Ctr g yX7_meetEnd (Cond.code yX7_meetEnd cX7_meetEnd 5 none :: wsL_law) 2 45 [(shX7, h0, o0)] [(shX7, h0, o0')] [.ref (h0 0), .int x1, .int x2] none := by
  refine Ctr.of (cc := cX7_meetEnd) (maxL := 5) (ret := none) (by decide) rfl (Nat.le_of_ble_eq_true rfl) ?_
  intro X C Rk
  replace C : CxOk g X cX7_meetEnd RX7 (Cond.code yX7_meetEnd cX7_meetEnd 5 none :: wsL_law) 5 2 45 := C
  show J g X [(shX7, h0, o0)] 0 [(0, .ref (h0 0)), (1, .int x1), (2, .int x2)] []
  unfold FX7_meetEnd at hF
  refine j_aload_n C 0 dX7_meetEnd_0 rfl rfl ?_
  refine j_iload_n C 2 dX7_meetEnd_1 rfl rfl ?_
  refine j_iload_n C 1 dX7_meetEnd_2 rfl rfl ?_
  obtain ⟨o0_1, k_2, hF⟩ := gb1 hF
  refine j_callVv C (os' := [(shX7, h0, o0_1)]) [.int x2, .int x1] (kX7_layPorts g h0 x2 x1 o0 k_2) [0] rfl rfl rfl rfl 0 rfl rfl (wl_gV mw_26_21 mw_26_22 mw_26_23 mw_1_5 mw_27_0) rfl 2 rfl hd_X7_layPorts ⟨Nat.le_of_ble_eq_true rfl, Nat.le_of_ble_eq_true rfl⟩ (Nat.le_of_ble_eq_true rfl) rfl dX7_meetEnd_3 ?_
  refine j_aload_n C 0 dX7_meetEnd_6 rfl rfl ?_
  refine j_iload_n C 1 dX7_meetEnd_7 rfl rfl ?_
  obtain ⟨o0_3, k_4, hF⟩ := gb1 hF
  refine j_callVv C (os' := [(shX7, h0, o0_3)]) [.int x1] (kX7_vanish g h0 x1 o0_1 k_4) [0] rfl rfl rfl rfl 0 rfl rfl (wl_gV mw_27_1 mw_27_2 mw_27_3 mw_1_5 mw_27_4) rfl 1 rfl hd_X7_vanish ⟨Nat.le_of_ble_eq_true rfl, Nat.le_of_ble_eq_true rfl⟩ (Nat.le_of_ble_eq_true rfl) rfl dX7_meetEnd_8 ?_
  refine j_aload_n C 0 dX7_meetEnd_11 rfl rfl ?_
  refine j_iload_n C 2 dX7_meetEnd_12 rfl rfl ?_
  obtain ⟨o0_5, k_6, hF⟩ := gb1 hF
  refine j_callVv C (os' := [(shX7, h0, o0_5)]) [.int x2] (kX7_vanish g h0 x2 o0_3 k_6) [0] rfl rfl rfl rfl 0 rfl rfl (wl_gV mw_27_1 mw_27_2 mw_27_3 mw_1_5 mw_27_4) rfl 1 rfl hd_X7_vanish ⟨Nat.le_of_ble_eq_true rfl, Nat.le_of_ble_eq_true rfl⟩ (Nat.le_of_ble_eq_true rfl) rfl dX7_meetEnd_13 ?_
  refine j_aload_n C 0 dX7_meetEnd_16 rfl rfl ?_
  refine j_iconst (v := (0 : Int32)) C dX7_meetEnd_17 rfl ?_
  obtain ⟨r_7, o0_8, k_9, hF⟩ := gb2 hF
  refine j_callVi C (os' := [(shX7, h0, o0_8)]) [.int (0 : Int32)] (kX7_made g h0 (0 : Int32) o0_5 k_9) [0] rfl rfl rfl rfl 0 rfl rfl (wl_gV mw_28_0 mw_28_1 mw_28_2 mw_1_5 mw_28_3) rfl 1 rfl hd_X7_made ⟨Nat.le_of_ble_eq_true rfl, Nat.le_of_ble_eq_true rfl⟩ (Nat.le_of_ble_eq_true rfl) rfl dX7_meetEnd_18 ?_
  refine j_istore_n C [(3, .int r_7), (0, .ref (h0 0)), (1, .int x1), (2, .int x2)] dX7_meetEnd_21 rfl (Nat.le_of_ble_eq_true rfl) rfl rfl ?_
  refine j_aload_n C 1 dX7_meetEnd_22 rfl rfl ?_
  refine j_iconst (v := (0 : Int32)) C dX7_meetEnd_23 rfl ?_
  obtain ⟨r_10, o0_11, k_12, hF⟩ := gb2 hF
  refine j_callVi C (os' := [(shX7, h0, o0_11)]) [.int (0 : Int32)] (kX7_made g h0 (0 : Int32) o0_8 k_12) [0] rfl rfl rfl rfl 0 rfl rfl (wl_gV mw_28_0 mw_28_1 mw_28_2 mw_1_5 mw_28_3) rfl 1 rfl hd_X7_made ⟨Nat.le_of_ble_eq_true rfl, Nat.le_of_ble_eq_true rfl⟩ (Nat.le_of_ble_eq_true rfl) rfl dX7_meetEnd_24 ?_
  refine j_istore C [(4, .int r_10), (3, .int r_7), (0, .ref (h0 0)), (1, .int x1), (2, .int x2)] dX7_meetEnd_27 (Nat.le_of_ble_eq_true rfl) rfl rfl ?_
  refine j_aload_n C 2 dX7_meetEnd_29 rfl rfl ?_
  refine j_get (v := .ref (h0 16)) C 0 15 rfl rfl (Nat.le_of_ble_eq_true rfl) rfl rfl in1_X7 (List.mem_cons_of_mem _ mw_4_22) dX7_meetEnd_30 ?_
  refine j_iconst (v := (0 : Int32)) C dX7_meetEnd_33 rfl ?_
  refine j_iald C 0 15 rfl rfl (by decide) dX7_meetEnd_34 ?_
  refine j_iconst (v := (1 : Int32)) C dX7_meetEnd_35 rfl ?_
  refine j_icmp_ne C 53 dX7_meetEnd_36 rfl (fun c_19 => ?_) (fun c_19 => ?_)
  · have hF := (if_neg c_19).symm.trans hF
    refine j_aload_n C 2 dX7_meetEnd_53 rfl rfl ?_
    refine j_iconst (v := (3 : Int32)) C dX7_meetEnd_54 rfl ?_
    refine j_iload_n C 1 dX7_meetEnd_55 rfl rfl ?_
    refine j_imul C dX7_meetEnd_56 ?_
    refine j_aload_n C 2 dX7_meetEnd_57 rfl rfl ?_
    refine j_get (v := .ref (h0 15)) C 0 14 rfl rfl (Nat.le_of_ble_eq_true rfl) rfl rfl in1_X7 (List.mem_cons_of_mem _ mw_4_21) dX7_meetEnd_58 ?_
    refine j_iconst (v := (0 : Int32)) C dX7_meetEnd_61 rfl ?_
    refine j_iald C 0 14 rfl rfl (by decide) dX7_meetEnd_62 ?_
    obtain ⟨o0_15, k_16, hF⟩ := gb1 hF
    refine j_callVv C (os' := [(shX7, h0, o0_15)]) [.int ((3 : Int32) * r_7), .int (oA o0_11 14 (0 : Int32).toNatClampNeg)] (kX7_wire g h0 ((3 : Int32) * r_7) (oA o0_11 14 (0 : Int32).toNatClampNeg) o0_11 k_16) [0] rfl rfl rfl rfl 0 rfl rfl (wl_gV mw_27_12 mw_27_13 mw_27_14 mw_1_5 mw_27_15) rfl 2 rfl hd_X7_wire ⟨Nat.le_of_ble_eq_true rfl, Nat.le_of_ble_eq_true rfl⟩ (Nat.le_of_ble_eq_true rfl) rfl dX7_meetEnd_63 ?_
    refine j_aload_n C 2 dX7_meetEnd_66 rfl rfl ?_
    refine j_iconst (v := (3 : Int32)) C dX7_meetEnd_67 rfl ?_
    refine j_iload C 0 dX7_meetEnd_68 rfl ?_
    refine j_imul C dX7_meetEnd_70 ?_
    refine j_aload_n C 2 dX7_meetEnd_71 rfl rfl ?_
    refine j_get (v := .ref (h0 15)) C 0 14 rfl rfl (Nat.le_of_ble_eq_true rfl) rfl rfl in1_X7 (List.mem_cons_of_mem _ mw_4_21) dX7_meetEnd_72 ?_
    refine j_iconst (v := (1 : Int32)) C dX7_meetEnd_75 rfl ?_
    refine j_iald C 0 14 rfl rfl (by decide) dX7_meetEnd_76 ?_
    obtain ⟨o0_17, k_18, hF⟩ := gb1 hF
    refine j_callVv C (os' := [(shX7, h0, o0_17)]) [.int ((3 : Int32) * r_10), .int (oA o0_15 14 (1 : Int32).toNatClampNeg)] (kX7_wire g h0 ((3 : Int32) * r_10) (oA o0_15 14 (1 : Int32).toNatClampNeg) o0_15 k_18) [0] rfl rfl rfl rfl 0 rfl rfl (wl_gV mw_27_12 mw_27_13 mw_27_14 mw_1_5 mw_27_15) rfl 2 rfl hd_X7_wire ⟨Nat.le_of_ble_eq_true rfl, Nat.le_of_ble_eq_true rfl⟩ (Nat.le_of_ble_eq_true rfl) rfl dX7_meetEnd_77 ?_
    cases hF
    exact j_vret C Rk dX7_meetEnd_80
  · have hF := (if_pos c_19).symm.trans hF
    refine j_aload_n C 2 dX7_meetEnd_39 rfl rfl ?_
    refine j_iconst (v := (3 : Int32)) C dX7_meetEnd_40 rfl ?_
    refine j_iload_n C 1 dX7_meetEnd_41 rfl rfl ?_
    refine j_imul C dX7_meetEnd_42 ?_
    refine j_iconst (v := (3 : Int32)) C dX7_meetEnd_43 rfl ?_
    refine j_iload C 0 dX7_meetEnd_44 rfl ?_
    refine j_imul C dX7_meetEnd_46 ?_
    obtain ⟨o0_13, k_14, hF⟩ := gb1 hF
    refine j_callVv C (os' := [(shX7, h0, o0_13)]) [.int ((3 : Int32) * r_7), .int ((3 : Int32) * r_10)] (kX7_wire g h0 ((3 : Int32) * r_7) ((3 : Int32) * r_10) o0_11 k_14) [0] rfl rfl rfl rfl 0 rfl rfl (wl_gV mw_27_12 mw_27_13 mw_27_14 mw_1_5 mw_27_15) rfl 2 rfl hd_X7_wire ⟨Nat.le_of_ble_eq_true rfl, Nat.le_of_ble_eq_true rfl⟩ (Nat.le_of_ble_eq_true rfl) rfl dX7_meetEnd_47 ?_
    refine j_goto C 80 dX7_meetEnd_50 rfl ?_
    cases hF
    exact j_vret C Rk dX7_meetEnd_80
/-! HeadsMeetModel.meetUnlike -/
def LX7_meetUnlike_78 (E138 : Ob → Option (Ob)) : Nat → Int32 → Ob → Option (Ob)
  | 0, _, _ => none
  | n + 1, x5, o0 =>
    if (4 : Int32) ≤ x5 then
      E138 o0
    else
      if inb x5 4 then
      if (oA o0 15 x5.toNatClampNeg) = (-1 : Int32) then
        b1 (FX7_wire ((3 : Int32) * (oA o0 17 x5.toNatClampNeg)) (oA o0 14 x5.toNatClampNeg) o0) fun o0_32 =>
        lT (x5 + (1 : Int32)) fun x5_34 =>
        LX7_meetUnlike_78 E138 n x5_34 o0_32
      else
        if inb (oA o0 15 x5.toNatClampNeg) 4 then
        b1 (FX7_wire ((3 : Int32) * (oA o0 17 x5.toNatClampNeg)) ((3 : Int32) * (oA o0 17 (oA o0 15 x5.toNatClampNeg).toNatClampNeg)) o0) fun o0_37 =>
        lT (x5 + (1 : Int32)) fun x5_39 =>
        LX7_meetUnlike_78 E138 n x5_39 o0_37
        else none
      else none
def LX7_meetUnlike_150 (x5 : Int32) (E196 : Ob → Option (Ob)) : Nat → Int32 → Ob → Option (Ob)
  | 0, _, _ => none
  | n + 1, x6, o0 =>
    if (2 : Int32) ≤ x6 then
      E196 o0
    else
      if inb ((2 : Int32) + x5) 4 then
      if inb x6 4 then
      b1 (FX7_wire ((((3 : Int32) * (oA o0 17 ((2 : Int32) + x5).toNatClampNeg)) + (1 : Int32)) + x6) ((((3 : Int32) * (oA o0 17 x6.toNatClampNeg)) + (1 : Int32)) + x5) o0) fun o0_46 =>
      lT (x6 + (1 : Int32)) fun x6_48 =>
      LX7_meetUnlike_150 x5 E196 n x6_48 o0_46
      else none
      else none
def LX7_meetUnlike_141  : Nat → Int32 → Ob → Option (Ob)
  | 0, _, _ => none
  | n + 1, x5, o0 =>
    if (2 : Int32) ≤ x5 then
      some o0
    else
      LX7_meetUnlike_150 x5 (fun o0_51 =>
       lT (x5 + (1 : Int32)) fun x5_52 =>
       LX7_meetUnlike_141 n x5_52 o0_51) fu (0 : Int32) o0
def FX7_meetUnlike (x1 : Int32) (x2 : Int32) (o0 : Ob) : Option (Ob) :=
  b1 (FX7_layPorts x1 x2 o0) fun o0_1 =>
  b1 (FX7_kindOf x1 o0_1) fun r_3 =>
  b1 (FX7_kindOf x2 o0_1) fun r_5 =>
  b1 (FX7_vanish x1 o0_1) fun o0_7 =>
  b1 (FX7_vanish x2 o0_7) fun o0_9 =>
  b2 (FX7_made r_3 o0_9) fun r_11 o0_12 =>
  lT (sA o0_12 17 (2 : Int32).toNatClampNeg r_11) fun o0_15 =>
  b2 (FX7_made r_3 o0_15) fun r_16 o0_17 =>
  lT (sA o0_17 17 (3 : Int32).toNatClampNeg r_16) fun o0_20 =>
  b2 (FX7_made r_5 o0_20) fun r_21 o0_22 =>
  lT (sA o0_22 17 (0 : Int32).toNatClampNeg r_21) fun o0_25 =>
  b2 (FX7_made r_5 o0_25) fun r_26 o0_27 =>
  lT (sA o0_27 17 (1 : Int32).toNatClampNeg r_26) fun o0_30 =>
  LX7_meetUnlike_78 (fun o0_43 =>
   LX7_meetUnlike_141 fu (0 : Int32) o0_43) fu (0 : Int32) o0_30
set_option maxRecDepth 100000 in
set_option maxHeartbeats 4000000 in
theorem lX7_meetUnlike_78 {g : Gl} {X : Cxt} (C : CxOk g X cX7_meetUnlike RX7 (Cond.code yX7_meetUnlike cX7_meetUnlike 7 none :: wsL_law) 7 2 45) {o0' : Ob} (h0 : Nat → Nat)  (E138 : Ob → Option (Ob)) (Rk : RetOk g X [(shX7, h0, o0')] none none) (hE138 : ∀ (o0 : Ob), E138 o0 = some o0' → J g X [(shX7, h0, o0)] 138 [(0, .ref (h0 0))] []) : ∀ (n : Nat) (x5 : Int32) (o0 : Ob), LX7_meetUnlike_78 E138 n x5 o0 = some o0' → J g X [(shX7, h0, o0)] 78 [(0, .ref (h0 0)), (5, .int x5)] [] := by
  intro n
  induction n with
  | zero =>
    intro x5 o0 hF
    cases hF
  | succ n ih =>
    intro x5 o0 hF
    rw [LX7_meetUnlike_78.eq_2] at hF
    refine j_iload C 1 dX7_meetUnlike_78 rfl ?_
    refine j_iconst (v := (4 : Int32)) C dX7_meetUnlike_80 rfl ?_
    refine j_icmp_ge C 138 dX7_meetUnlike_81 rfl (fun c_42 => ?_) (fun c_42 => ?_)
    · have hF := (if_pos c_42).symm.trans hF
      refine j_sub [(0, .ref (h0 0))] [0] rfl ?_
      exact hE138 _ hF
    · have hF := (if_neg c_42).symm.trans hF
      refine j_aload_n C 0 dX7_meetUnlike_84 rfl rfl ?_
      refine j_iconst (v := (3 : Int32)) C dX7_meetUnlike_85 rfl ?_
      refine j_aload_n C 0 dX7_meetUnlike_86 rfl rfl ?_
      refine j_get (v := .ref (h0 18)) C 0 17 rfl rfl (Nat.le_of_ble_eq_true rfl) rfl rfl in1_X7 (List.mem_cons_of_mem _ mw_5_1) dX7_meetUnlike_87 ?_
      refine j_iload C 1 dX7_meetUnlike_90 rfl ?_
      obtain ⟨z_31, hF⟩ := gi hF
      refine j_iald C 0 17 rfl rfl z_31 dX7_meetUnlike_92 ?_
      refine j_imul C dX7_meetUnlike_93 ?_
      refine j_aload_n C 0 dX7_meetUnlike_94 rfl rfl ?_
      refine j_get (v := .ref (h0 16)) C 0 15 rfl rfl (Nat.le_of_ble_eq_true rfl) rfl rfl in1_X7 (List.mem_cons_of_mem _ mw_4_22) dX7_meetUnlike_95 ?_
      refine j_iload C 1 dX7_meetUnlike_98 rfl ?_
      refine j_iald C 0 15 rfl rfl z_31 dX7_meetUnlike_100 ?_
      refine j_iconst (v := (-1 : Int32)) C dX7_meetUnlike_101 rfl ?_
      refine j_icmp_ne C 115 dX7_meetUnlike_102 rfl (fun c_41 => ?_) (fun c_41 => ?_)
      · have hF := (if_neg c_41).symm.trans hF
        refine j_iconst (v := (3 : Int32)) C dX7_meetUnlike_115 rfl ?_
        refine j_aload_n C 0 dX7_meetUnlike_116 rfl rfl ?_
        refine j_get (v := .ref (h0 18)) C 0 17 rfl rfl (Nat.le_of_ble_eq_true rfl) rfl rfl in1_X7 (List.mem_cons_of_mem _ mw_5_1) dX7_meetUnlike_117 ?_
        refine j_aload_n C 0 dX7_meetUnlike_120 rfl rfl ?_
        refine j_get (v := .ref (h0 16)) C 0 15 rfl rfl (Nat.le_of_ble_eq_true rfl) rfl rfl in1_X7 (List.mem_cons_of_mem _ mw_4_22) dX7_meetUnlike_121 ?_
        refine j_iload C 1 dX7_meetUnlike_124 rfl ?_
        refine j_iald C 0 15 rfl rfl z_31 dX7_meetUnlike_126 ?_
        obtain ⟨z_36, hF⟩ := gi hF
        refine j_iald C 0 17 rfl rfl z_36 dX7_meetUnlike_127 ?_
        refine j_imul C dX7_meetUnlike_128 ?_
        obtain ⟨o0_37, k_38, hF⟩ := gb1 hF
        refine j_callVv C (os' := [(shX7, h0, o0_37)]) [.int ((3 : Int32) * (oA o0 17 x5.toNatClampNeg)), .int ((3 : Int32) * (oA o0 17 (oA o0 15 x5.toNatClampNeg).toNatClampNeg))] (kX7_wire g h0 ((3 : Int32) * (oA o0 17 x5.toNatClampNeg)) ((3 : Int32) * (oA o0 17 (oA o0 15 x5.toNatClampNeg).toNatClampNeg)) o0 k_38) [0] rfl rfl rfl rfl 0 rfl rfl (wl_gV mw_27_12 mw_27_13 mw_27_14 mw_1_5 mw_27_15) rfl 2 rfl hd_X7_wire ⟨Nat.le_of_ble_eq_true rfl, Nat.le_of_ble_eq_true rfl⟩ (Nat.le_of_ble_eq_true rfl) rfl dX7_meetUnlike_129 ?_
        obtain ⟨x5_39, e_40, hF⟩ := glT hF
        refine j_iinc C 1 [(5, .int x5_39), (0, .ref (h0 0))] dX7_meetUnlike_132 rfl e_40.symm (Nat.le_of_ble_eq_true rfl) rfl ?_
        refine j_goto C 78 dX7_meetUnlike_135 rfl ?_
        refine j_sub [(0, .ref (h0 0)), (5, .int x5_39)] [1, 0] rfl ?_
        exact ih _ _ hF
      · have hF := (if_pos c_41).symm.trans hF
        refine j_aload_n C 0 dX7_meetUnlike_105 rfl rfl ?_
        refine j_get (v := .ref (h0 15)) C 0 14 rfl rfl (Nat.le_of_ble_eq_true rfl) rfl rfl in1_X7 (List.mem_cons_of_mem _ mw_4_21) dX7_meetUnlike_106 ?_
        refine j_iload C 1 dX7_meetUnlike_109 rfl ?_
        refine j_iald C 0 14 rfl rfl z_31 dX7_meetUnlike_111 ?_
        refine j_goto C 129 dX7_meetUnlike_112 rfl ?_
        obtain ⟨o0_32, k_33, hF⟩ := gb1 hF
        refine j_callVv C (os' := [(shX7, h0, o0_32)]) [.int ((3 : Int32) * (oA o0 17 x5.toNatClampNeg)), .int (oA o0 14 x5.toNatClampNeg)] (kX7_wire g h0 ((3 : Int32) * (oA o0 17 x5.toNatClampNeg)) (oA o0 14 x5.toNatClampNeg) o0 k_33) [0] rfl rfl rfl rfl 0 rfl rfl (wl_gV mw_27_12 mw_27_13 mw_27_14 mw_1_5 mw_27_15) rfl 2 rfl hd_X7_wire ⟨Nat.le_of_ble_eq_true rfl, Nat.le_of_ble_eq_true rfl⟩ (Nat.le_of_ble_eq_true rfl) rfl dX7_meetUnlike_129 ?_
        obtain ⟨x5_34, e_35, hF⟩ := glT hF
        refine j_iinc C 1 [(5, .int x5_34), (0, .ref (h0 0))] dX7_meetUnlike_132 rfl e_35.symm (Nat.le_of_ble_eq_true rfl) rfl ?_
        refine j_goto C 78 dX7_meetUnlike_135 rfl ?_
        refine j_sub [(0, .ref (h0 0)), (5, .int x5_34)] [1, 0] rfl ?_
        exact ih _ _ hF
set_option maxRecDepth 100000 in
set_option maxHeartbeats 4000000 in
theorem lX7_meetUnlike_150 {g : Gl} {X : Cxt} (C : CxOk g X cX7_meetUnlike RX7 (Cond.code yX7_meetUnlike cX7_meetUnlike 7 none :: wsL_law) 7 2 45) {o0' : Ob} (h0 : Nat → Nat) (x5 : Int32) (E196 : Ob → Option (Ob)) (Rk : RetOk g X [(shX7, h0, o0')] none none) (hE196 : ∀ (o0 : Ob), E196 o0 = some o0' → J g X [(shX7, h0, o0)] 196 [(0, .ref (h0 0)), (5, .int x5)] []) : ∀ (n : Nat) (x6 : Int32) (o0 : Ob), LX7_meetUnlike_150 x5 E196 n x6 o0 = some o0' → J g X [(shX7, h0, o0)] 150 [(0, .ref (h0 0)), (5, .int x5), (6, .int x6)] [] := by
  intro n
  induction n with
  | zero =>
    intro x6 o0 hF
    cases hF
  | succ n ih =>
    intro x6 o0 hF
    rw [LX7_meetUnlike_150.eq_2] at hF
    refine j_iload C 2 dX7_meetUnlike_150 rfl ?_
    refine j_iconst (v := (2 : Int32)) C dX7_meetUnlike_152 rfl ?_
    refine j_icmp_ge C 196 dX7_meetUnlike_153 rfl (fun c_50 => ?_) (fun c_50 => ?_)
    · have hF := (if_pos c_50).symm.trans hF
      refine j_sub [(0, .ref (h0 0)), (5, .int x5)] [0, 1] rfl ?_
      exact hE196 _ hF
    · have hF := (if_neg c_50).symm.trans hF
      refine j_aload_n C 0 dX7_meetUnlike_156 rfl rfl ?_
      refine j_iconst (v := (3 : Int32)) C dX7_meetUnlike_157 rfl ?_
      refine j_aload_n C 0 dX7_meetUnlike_158 rfl rfl ?_
      refine j_get (v := .ref (h0 18)) C 0 17 rfl rfl (Nat.le_of_ble_eq_true rfl) rfl rfl in1_X7 (List.mem_cons_of_mem _ mw_5_1) dX7_meetUnlike_159 ?_
      refine j_iconst (v := (2 : Int32)) C dX7_meetUnlike_162 rfl ?_
      refine j_iload C 1 dX7_meetUnlike_163 rfl ?_
      refine j_iadd C dX7_meetUnlike_165 ?_
      obtain ⟨z_44, hF⟩ := gi hF
      refine j_iald C 0 17 rfl rfl z_44 dX7_meetUnlike_166 ?_
      refine j_imul C dX7_meetUnlike_167 ?_
      refine j_iconst (v := (1 : Int32)) C dX7_meetUnlike_168 rfl ?_
      refine j_iadd C dX7_meetUnlike_169 ?_
      refine j_iload C 2 dX7_meetUnlike_170 rfl ?_
      refine j_iadd C dX7_meetUnlike_172 ?_
      refine j_iconst (v := (3 : Int32)) C dX7_meetUnlike_173 rfl ?_
      refine j_aload_n C 0 dX7_meetUnlike_174 rfl rfl ?_
      refine j_get (v := .ref (h0 18)) C 0 17 rfl rfl (Nat.le_of_ble_eq_true rfl) rfl rfl in1_X7 (List.mem_cons_of_mem _ mw_5_1) dX7_meetUnlike_175 ?_
      refine j_iload C 2 dX7_meetUnlike_178 rfl ?_
      obtain ⟨z_45, hF⟩ := gi hF
      refine j_iald C 0 17 rfl rfl z_45 dX7_meetUnlike_180 ?_
      refine j_imul C dX7_meetUnlike_181 ?_
      refine j_iconst (v := (1 : Int32)) C dX7_meetUnlike_182 rfl ?_
      refine j_iadd C dX7_meetUnlike_183 ?_
      refine j_iload C 1 dX7_meetUnlike_184 rfl ?_
      refine j_iadd C dX7_meetUnlike_186 ?_
      obtain ⟨o0_46, k_47, hF⟩ := gb1 hF
      refine j_callVv C (os' := [(shX7, h0, o0_46)]) [.int ((((3 : Int32) * (oA o0 17 ((2 : Int32) + x5).toNatClampNeg)) + (1 : Int32)) + x6), .int ((((3 : Int32) * (oA o0 17 x6.toNatClampNeg)) + (1 : Int32)) + x5)] (kX7_wire g h0 ((((3 : Int32) * (oA o0 17 ((2 : Int32) + x5).toNatClampNeg)) + (1 : Int32)) + x6) ((((3 : Int32) * (oA o0 17 x6.toNatClampNeg)) + (1 : Int32)) + x5) o0 k_47) [0] rfl rfl rfl rfl 0 rfl rfl (wl_gV mw_27_12 mw_27_13 mw_27_14 mw_1_5 mw_27_15) rfl 2 rfl hd_X7_wire ⟨Nat.le_of_ble_eq_true rfl, Nat.le_of_ble_eq_true rfl⟩ (Nat.le_of_ble_eq_true rfl) rfl dX7_meetUnlike_187 ?_
      obtain ⟨x6_48, e_49, hF⟩ := glT hF
      refine j_iinc C 2 [(6, .int x6_48), (0, .ref (h0 0)), (5, .int x5)] dX7_meetUnlike_190 rfl e_49.symm (Nat.le_of_ble_eq_true rfl) rfl ?_
      refine j_goto C 150 dX7_meetUnlike_193 rfl ?_
      refine j_sub [(0, .ref (h0 0)), (5, .int x5), (6, .int x6_48)] [1, 2, 0] rfl ?_
      exact ih _ _ hF
set_option maxRecDepth 100000 in
set_option maxHeartbeats 4000000 in
theorem lX7_meetUnlike_141 {g : Gl} {X : Cxt} (C : CxOk g X cX7_meetUnlike RX7 (Cond.code yX7_meetUnlike cX7_meetUnlike 7 none :: wsL_law) 7 2 45) {o0' : Ob} (h0 : Nat → Nat)   (Rk : RetOk g X [(shX7, h0, o0')] none none)  : ∀ (n : Nat) (x5 : Int32) (o0 : Ob), LX7_meetUnlike_141  n x5 o0 = some o0' → J g X [(shX7, h0, o0)] 141 [(0, .ref (h0 0)), (5, .int x5)] [] := by
  intro n
  induction n with
  | zero =>
    intro x5 o0 hF
    cases hF
  | succ n ih =>
    intro x5 o0 hF
    rw [LX7_meetUnlike_141.eq_2] at hF
    refine j_iload C 1 dX7_meetUnlike_141 rfl ?_
    refine j_iconst (v := (2 : Int32)) C dX7_meetUnlike_143 rfl ?_
    refine j_icmp_ge C 202 dX7_meetUnlike_144 rfl (fun c_54 => ?_) (fun c_54 => ?_)
    · have hF := (if_pos c_54).symm.trans hF
      cases hF
      exact j_vret C Rk dX7_meetUnlike_202
    · have hF := (if_neg c_54).symm.trans hF
      refine j_iconst (v := (0 : Int32)) C dX7_meetUnlike_147 rfl ?_
      refine j_istore C [(6, .int (0 : Int32)), (0, .ref (h0 0)), (5, .int x5)] dX7_meetUnlike_148 (Nat.le_of_ble_eq_true rfl) rfl rfl ?_
      refine j_sub [(0, .ref (h0 0)), (5, .int x5), (6, .int (0 : Int32))] [1, 2, 0] rfl ?_
      refine lX7_meetUnlike_150 C h0 x5 _ Rk (fun o0_51 hF => ?_) _ _ _ hF
      obtain ⟨x5_52, e_53, hF⟩ := glT hF
      refine j_iinc C 1 [(5, .int x5_52), (0, .ref (h0 0))] dX7_meetUnlike_196 rfl e_53.symm (Nat.le_of_ble_eq_true rfl) rfl ?_
      refine j_goto C 141 dX7_meetUnlike_199 rfl ?_
      refine j_sub [(0, .ref (h0 0)), (5, .int x5_52)] [1, 0] rfl ?_
      exact ih _ _ hF
set_option maxRecDepth 100000 in
set_option maxHeartbeats 4000000 in
theorem kX7_meetUnlike (g : Gl) (h0 : Nat → Nat) (x1 : Int32) (x2 : Int32) (o0 : Ob) {o0' : Ob} (hF : FX7_meetUnlike x1 x2 o0 = some o0') : Ctr g yX7_meetUnlike (Cond.code yX7_meetUnlike cX7_meetUnlike 7 none :: wsL_law) 2 45 [(shX7, h0, o0)] [(shX7, h0, o0')] [.ref (h0 0), .int x1, .int x2] none := by
  refine Ctr.of (cc := cX7_meetUnlike) (maxL := 7) (ret := none) (by decide) rfl (Nat.le_of_ble_eq_true rfl) ?_
  intro X C Rk
  replace C : CxOk g X cX7_meetUnlike RX7 (Cond.code yX7_meetUnlike cX7_meetUnlike 7 none :: wsL_law) 7 2 45 := C
  show J g X [(shX7, h0, o0)] 0 [(0, .ref (h0 0)), (1, .int x1), (2, .int x2)] []
  unfold FX7_meetUnlike at hF
  refine j_aload_n C 0 dX7_meetUnlike_0 rfl rfl ?_
  refine j_iload_n C 1 dX7_meetUnlike_1 rfl rfl ?_
  refine j_iload_n C 2 dX7_meetUnlike_2 rfl rfl ?_
  obtain ⟨o0_1, k_2, hF⟩ := gb1 hF
  refine j_callVv C (os' := [(shX7, h0, o0_1)]) [.int x1, .int x2] (kX7_layPorts g h0 x1 x2 o0 k_2) [0] rfl rfl rfl rfl 0 rfl rfl (wl_gV mw_26_21 mw_26_22 mw_26_23 mw_1_5 mw_27_0) rfl 2 rfl hd_X7_layPorts ⟨Nat.le_of_ble_eq_true rfl, Nat.le_of_ble_eq_true rfl⟩ (Nat.le_of_ble_eq_true rfl) rfl dX7_meetUnlike_3 ?_
  refine j_aload_n C 0 dX7_meetUnlike_6 rfl rfl ?_
  refine j_iload_n C 1 dX7_meetUnlike_7 rfl rfl ?_
  obtain ⟨r_3, k_4, hF⟩ := gb1 hF
  refine j_callVi C (os' := [(shX7, h0, o0_1)]) [.int x1] (kX7_kindOf g h0 x1 o0_1 k_4) [0] rfl rfl rfl rfl 0 rfl rfl (wl_gV mw_24_9 mw_24_10 mw_24_11 mw_1_5 mw_24_12) rfl 1 rfl hd_X7_kindOf ⟨Nat.le_of_ble_eq_true rfl, Nat.le_of_ble_eq_true rfl⟩ (Nat.le_of_ble_eq_true rfl) rfl dX7_meetUnlike_8 ?_
  refine j_istore_n C [(3, .int r_3), (0, .ref (h0 0)), (1, .int x1), (2, .int x2)] dX7_meetUnlike_11 rfl (Nat.le_of_ble_eq_true rfl) rfl rfl ?_
  refine j_aload_n C 1 dX7_meetUnlike_12 rfl rfl ?_
  refine j_iload_n C 3 dX7_meetUnlike_13 rfl rfl ?_
  obtain ⟨r_5, k_6, hF⟩ := gb1 hF
  refine j_callVi C (os' := [(shX7, h0, o0_1)]) [.int x2] (kX7_kindOf g h0 x2 o0_1 k_6) [0] rfl rfl rfl rfl 0 rfl rfl (wl_gV mw_24_9 mw_24_10 mw_24_11 mw_1_5 mw_24_12) rfl 1 rfl hd_X7_kindOf ⟨Nat.le_of_ble_eq_true rfl, Nat.le_of_ble_eq_true rfl⟩ (Nat.le_of_ble_eq_true rfl) rfl dX7_meetUnlike_14 ?_
  refine j_istore C [(4, .int r_5), (3, .int r_3), (0, .ref (h0 0)), (1, .int x1), (2, .int x2)] dX7_meetUnlike_17 (Nat.le_of_ble_eq_true rfl) rfl rfl ?_
  refine j_aload_n C 2 dX7_meetUnlike_19 rfl rfl ?_
  refine j_iload_n C 3 dX7_meetUnlike_20 rfl rfl ?_
  obtain ⟨o0_7, k_8, hF⟩ := gb1 hF
  refine j_callVv C (os' := [(shX7, h0, o0_7)]) [.int x1] (kX7_vanish g h0 x1 o0_1 k_8) [0] rfl rfl rfl rfl 0 rfl rfl (wl_gV mw_27_1 mw_27_2 mw_27_3 mw_1_5 mw_27_4) rfl 1 rfl hd_X7_vanish ⟨Nat.le_of_ble_eq_true rfl, Nat.le_of_ble_eq_true rfl⟩ (Nat.le_of_ble_eq_true rfl) rfl dX7_meetUnlike_21 ?_
  refine j_aload_n C 2 dX7_meetUnlike_24 rfl rfl ?_
  refine j_iload_n C 4 dX7_meetUnlike_25 rfl rfl ?_
  obtain ⟨o0_9, k_10, hF⟩ := gb1 hF
  refine j_callVv C (os' := [(shX7, h0, o0_9)]) [.int x2] (kX7_vanish g h0 x2 o0_7 k_10) [0] rfl rfl rfl rfl 0 rfl rfl (wl_gV mw_27_1 mw_27_2 mw_27_3 mw_1_5 mw_27_4) rfl 1 rfl hd_X7_vanish ⟨Nat.le_of_ble_eq_true rfl, Nat.le_of_ble_eq_true rfl⟩ (Nat.le_of_ble_eq_true rfl) rfl dX7_meetUnlike_26 ?_
  refine j_aload_n C 2 dX7_meetUnlike_29 rfl rfl ?_
  refine j_get (v := .ref (h0 18)) C 0 17 rfl rfl (Nat.le_of_ble_eq_true rfl) rfl rfl in1_X7 (List.mem_cons_of_mem _ mw_5_1) dX7_meetUnlike_30 ?_
  refine j_iconst (v := (2 : Int32)) C dX7_meetUnlike_33 rfl ?_
  refine j_aload_n C 2 dX7_meetUnlike_34 rfl rfl ?_
  refine j_iload_n C 1 dX7_meetUnlike_35 rfl rfl ?_
  obtain ⟨r_11, o0_12, k_13, hF⟩ := gb2 hF
  refine j_callVi C (os' := [(shX7, h0, o0_12)]) [.int r_3] (kX7_made g h0 r_3 o0_9 k_13) [0] rfl rfl rfl rfl 0 rfl rfl (wl_gV mw_28_0 mw_28_1 mw_28_2 mw_1_5 mw_28_3) rfl 1 rfl hd_X7_made ⟨Nat.le_of_ble_eq_true rfl, Nat.le_of_ble_eq_true rfl⟩ (Nat.le_of_ble_eq_true rfl) rfl dX7_meetUnlike_36 ?_
  obtain ⟨o0_15, e_14, hF⟩ := glT hF
  refine j_iast C 0 17 rfl rfl (by decide) [(shX7, h0, o0_15)] (by rw [e_14]; rfl) dX7_meetUnlike_39 ?_
  refine j_aload_n C 2 dX7_meetUnlike_40 rfl rfl ?_
  refine j_get (v := .ref (h0 18)) C 0 17 rfl rfl (Nat.le_of_ble_eq_true rfl) rfl rfl in1_X7 (List.mem_cons_of_mem _ mw_5_1) dX7_meetUnlike_41 ?_
  refine j_iconst (v := (3 : Int32)) C dX7_meetUnlike_44 rfl ?_
  refine j_aload_n C 2 dX7_meetUnlike_45 rfl rfl ?_
  refine j_iload_n C 1 dX7_meetUnlike_46 rfl rfl ?_
  obtain ⟨r_16, o0_17, k_18, hF⟩ := gb2 hF
  refine j_callVi C (os' := [(shX7, h0, o0_17)]) [.int r_3] (kX7_made g h0 r_3 o0_15 k_18) [0] rfl rfl rfl rfl 0 rfl rfl (wl_gV mw_28_0 mw_28_1 mw_28_2 mw_1_5 mw_28_3) rfl 1 rfl hd_X7_made ⟨Nat.le_of_ble_eq_true rfl, Nat.le_of_ble_eq_true rfl⟩ (Nat.le_of_ble_eq_true rfl) rfl dX7_meetUnlike_47 ?_
  obtain ⟨o0_20, e_19, hF⟩ := glT hF
  refine j_iast C 0 17 rfl rfl (by decide) [(shX7, h0, o0_20)] (by rw [e_19]; rfl) dX7_meetUnlike_50 ?_
  refine j_aload_n C 2 dX7_meetUnlike_51 rfl rfl ?_
  refine j_get (v := .ref (h0 18)) C 0 17 rfl rfl (Nat.le_of_ble_eq_true rfl) rfl rfl in1_X7 (List.mem_cons_of_mem _ mw_5_1) dX7_meetUnlike_52 ?_
  refine j_iconst (v := (0 : Int32)) C dX7_meetUnlike_55 rfl ?_
  refine j_aload_n C 2 dX7_meetUnlike_56 rfl rfl ?_
  refine j_iload C 0 dX7_meetUnlike_57 rfl ?_
  obtain ⟨r_21, o0_22, k_23, hF⟩ := gb2 hF
  refine j_callVi C (os' := [(shX7, h0, o0_22)]) [.int r_5] (kX7_made g h0 r_5 o0_20 k_23) [0] rfl rfl rfl rfl 0 rfl rfl (wl_gV mw_28_0 mw_28_1 mw_28_2 mw_1_5 mw_28_3) rfl 1 rfl hd_X7_made ⟨Nat.le_of_ble_eq_true rfl, Nat.le_of_ble_eq_true rfl⟩ (Nat.le_of_ble_eq_true rfl) rfl dX7_meetUnlike_59 ?_
  obtain ⟨o0_25, e_24, hF⟩ := glT hF
  refine j_iast C 0 17 rfl rfl (by decide) [(shX7, h0, o0_25)] (by rw [e_24]; rfl) dX7_meetUnlike_62 ?_
  refine j_aload_n C 2 dX7_meetUnlike_63 rfl rfl ?_
  refine j_get (v := .ref (h0 18)) C 0 17 rfl rfl (Nat.le_of_ble_eq_true rfl) rfl rfl in1_X7 (List.mem_cons_of_mem _ mw_5_1) dX7_meetUnlike_64 ?_
  refine j_iconst (v := (1 : Int32)) C dX7_meetUnlike_67 rfl ?_
  refine j_aload_n C 2 dX7_meetUnlike_68 rfl rfl ?_
  refine j_iload C 0 dX7_meetUnlike_69 rfl ?_
  obtain ⟨r_26, o0_27, k_28, hF⟩ := gb2 hF
  refine j_callVi C (os' := [(shX7, h0, o0_27)]) [.int r_5] (kX7_made g h0 r_5 o0_25 k_28) [0] rfl rfl rfl rfl 0 rfl rfl (wl_gV mw_28_0 mw_28_1 mw_28_2 mw_1_5 mw_28_3) rfl 1 rfl hd_X7_made ⟨Nat.le_of_ble_eq_true rfl, Nat.le_of_ble_eq_true rfl⟩ (Nat.le_of_ble_eq_true rfl) rfl dX7_meetUnlike_71 ?_
  obtain ⟨o0_30, e_29, hF⟩ := glT hF
  refine j_iast C 0 17 rfl rfl (by decide) [(shX7, h0, o0_30)] (by rw [e_29]; rfl) dX7_meetUnlike_74 ?_
  refine j_iconst (v := (0 : Int32)) C dX7_meetUnlike_75 rfl ?_
  refine j_istore C [(5, .int (0 : Int32)), (4, .int r_5), (3, .int r_3), (0, .ref (h0 0)), (1, .int x1), (2, .int x2)] dX7_meetUnlike_76 (Nat.le_of_ble_eq_true rfl) rfl rfl ?_
  refine j_sub [(0, .ref (h0 0)), (5, .int (0 : Int32))] [3, 0] rfl ?_
  refine lX7_meetUnlike_78 C h0  _ Rk (fun o0_43 hF => ?_) _ _ _ hF
  refine j_iconst (v := (0 : Int32)) C dX7_meetUnlike_138 rfl ?_
  refine j_istore C [(5, .int (0 : Int32)), (0, .ref (h0 0))] dX7_meetUnlike_139 (Nat.le_of_ble_eq_true rfl) rfl rfl ?_
  refine j_sub [(0, .ref (h0 0)), (5, .int (0 : Int32))] [1, 0] rfl ?_
  refine lX7_meetUnlike_141 C h0  Rk  _ _ _ hF
/-! HeadsMeetModel.meetNow -/
def FX7_meetNow (x1 : Int32) (o0 : Ob) : Option (Int32 × Ob) :=
  b1 (FX7_sortOf x1 o0) fun r_1 =>
  b1 (FX7_meets x1 o0) fun r_3 =>
  if r_1 = (1 : Int32) then
    b1 (FX7_meetAlike x1 r_3 o0) fun o0_5 =>
    some (r_1, o0_5)
  else
    if r_1 = (2 : Int32) then
      b1 (FX7_meetUnlike x1 r_3 o0) fun o0_7 =>
      some (r_1, o0_7)
    else
      b1 (FX7_kindOf x1 o0) fun r_9 =>
      if r_9 = 0 then
        b1 (FX7_meetEnd x1 r_3 o0) fun o0_11 =>
        some (r_1, o0_11)
      else
        b1 (FX7_meetEnd r_3 x1 o0) fun o0_13 =>
        some (r_1, o0_13)
set_option maxRecDepth 100000 in
set_option maxHeartbeats 4000000 in
theorem kX7_meetNow (g : Gl) (h0 : Nat → Nat) (x1 : Int32) (o0 : Ob) {r : Int32} {o0' : Ob} (hF : FX7_meetNow x1 o0 = some (r, o0')) : Ctr g yX7_meetNow (Cond.code yX7_meetNow cX7_meetNow 4 (some .int) :: wsL_law) 3 71 [(shX7, h0, o0)] [(shX7, h0, o0')] [.ref (h0 0), .int x1] (some (.int r)) := by
  refine Ctr.of (cc := cX7_meetNow) (maxL := 4) (ret := (some .int)) (by decide) rfl (Nat.le_of_ble_eq_true rfl) ?_
  intro X C Rk
  replace C : CxOk g X cX7_meetNow RX7 (Cond.code yX7_meetNow cX7_meetNow 4 (some .int) :: wsL_law) 4 3 71 := C
  show J g X [(shX7, h0, o0)] 0 [(0, .ref (h0 0)), (1, .int x1)] []
  unfold FX7_meetNow at hF
  refine j_aload_n C 0 dX7_meetNow_0 rfl rfl ?_
  refine j_iload_n C 1 dX7_meetNow_1 rfl rfl ?_
  obtain ⟨r_1, k_2, hF⟩ := gb1 hF
  refine j_callVi C (os' := [(shX7, h0, o0)]) [.int x1] (kX7_sortOf g h0 x1 o0 k_2) [0] rfl rfl rfl rfl 0 rfl rfl (wl_gV mw_26_13 mw_26_14 mw_26_15 mw_1_5 mw_26_16) rfl 1 rfl hd_X7_sortOf ⟨Nat.le_of_ble_eq_true rfl, Nat.le_of_ble_eq_true rfl⟩ (Nat.le_of_ble_eq_true rfl) rfl dX7_meetNow_2 ?_
  refine j_istore_n C [(2, .int r_1), (0, .ref (h0 0)), (1, .int x1)] dX7_meetNow_5 rfl (Nat.le_of_ble_eq_true rfl) rfl rfl ?_
  refine j_aload_n C 1 dX7_meetNow_6 rfl rfl ?_
  refine j_iload_n C 2 dX7_meetNow_7 rfl rfl ?_
  obtain ⟨r_3, k_4, hF⟩ := gb1 hF
  refine j_callVi C (os' := [(shX7, h0, o0)]) [.int x1] (kX7_meets g h0 x1 o0 k_4) [0] rfl rfl rfl rfl 0 rfl rfl (wl_gV mw_25_1 mw_25_2 mw_25_3 mw_1_5 mw_25_4) rfl 1 rfl hd_X7_meets ⟨Nat.le_of_ble_eq_true rfl, Nat.le_of_ble_eq_true rfl⟩ (Nat.le_of_ble_eq_true rfl) rfl dX7_meetNow_8 ?_
  refine j_istore_n C [(3, .int r_3), (2, .int r_1), (0, .ref (h0 0)), (1, .int x1)] dX7_meetNow_11 rfl (Nat.le_of_ble_eq_true rfl) rfl rfl ?_
  refine j_iload_n C 1 dX7_meetNow_12 rfl rfl ?_
  refine j_iconst (v := (1 : Int32)) C dX7_meetNow_13 rfl ?_
  refine j_icmp_ne C 26 dX7_meetNow_14 rfl (fun c_17 => ?_) (fun c_17 => ?_)
  · have hF := (if_neg c_17).symm.trans hF
    refine j_iload_n C 1 dX7_meetNow_26 rfl rfl ?_
    refine j_iconst (v := (2 : Int32)) C dX7_meetNow_27 rfl ?_
    refine j_icmp_ne C 40 dX7_meetNow_28 rfl (fun c_16 => ?_) (fun c_16 => ?_)
    · have hF := (if_neg c_16).symm.trans hF
      refine j_aload_n C 2 dX7_meetNow_40 rfl rfl ?_
      refine j_iload_n C 3 dX7_meetNow_41 rfl rfl ?_
      obtain ⟨r_9, k_10, hF⟩ := gb1 hF
      refine j_callVi C (os' := [(shX7, h0, o0)]) [.int x1] (kX7_kindOf g h0 x1 o0 k_10) [0] rfl rfl rfl rfl 0 rfl rfl (wl_gV mw_24_9 mw_24_10 mw_24_11 mw_1_5 mw_24_12) rfl 1 rfl hd_X7_kindOf ⟨Nat.le_of_ble_eq_true rfl, Nat.le_of_ble_eq_true rfl⟩ (Nat.le_of_ble_eq_true rfl) rfl dX7_meetNow_42 ?_
      refine j_if_ne C 57 dX7_meetNow_45 rfl (fun c_15 => ?_) (fun c_15 => ?_)
      · have hF := (if_neg c_15).symm.trans hF
        refine j_aload_n C 2 dX7_meetNow_57 rfl rfl ?_
        refine j_iload_n C 0 dX7_meetNow_58 rfl rfl ?_
        refine j_iload_n C 3 dX7_meetNow_59 rfl rfl ?_
        obtain ⟨o0_13, k_14, hF⟩ := gb1 hF
        refine j_callVv C (os' := [(shX7, h0, o0_13)]) [.int r_3, .int x1] (kX7_meetEnd g h0 r_3 x1 o0 k_14) [0] rfl rfl rfl rfl 0 rfl rfl (wl_gV mw_28_4 mw_28_5 mw_28_6 mw_1_5 mw_28_7) rfl 2 rfl hd_X7_meetEnd ⟨Nat.le_of_ble_eq_true rfl, Nat.le_of_ble_eq_true rfl⟩ (Nat.le_of_ble_eq_true rfl) rfl dX7_meetNow_60 ?_
        refine j_iload_n C 1 dX7_meetNow_63 rfl rfl ?_
        cases hF
        exact j_iret C Rk dX7_meetNow_64
      · have hF := (if_pos c_15).symm.trans hF
        refine j_aload_n C 2 dX7_meetNow_48 rfl rfl ?_
        refine j_iload_n C 3 dX7_meetNow_49 rfl rfl ?_
        refine j_iload_n C 0 dX7_meetNow_50 rfl rfl ?_
        obtain ⟨o0_11, k_12, hF⟩ := gb1 hF
        refine j_callVv C (os' := [(shX7, h0, o0_11)]) [.int x1, .int r_3] (kX7_meetEnd g h0 x1 r_3 o0 k_12) [0] rfl rfl rfl rfl 0 rfl rfl (wl_gV mw_28_4 mw_28_5 mw_28_6 mw_1_5 mw_28_7) rfl 2 rfl hd_X7_meetEnd ⟨Nat.le_of_ble_eq_true rfl, Nat.le_of_ble_eq_true rfl⟩ (Nat.le_of_ble_eq_true rfl) rfl dX7_meetNow_51 ?_
        refine j_goto C 63 dX7_meetNow_54 rfl ?_
        refine j_iload_n C 1 dX7_meetNow_63 rfl rfl ?_
        cases hF
        exact j_iret C Rk dX7_meetNow_64
    · have hF := (if_pos c_16).symm.trans hF
      refine j_aload_n C 2 dX7_meetNow_31 rfl rfl ?_
      refine j_iload_n C 3 dX7_meetNow_32 rfl rfl ?_
      refine j_iload_n C 0 dX7_meetNow_33 rfl rfl ?_
      obtain ⟨o0_7, k_8, hF⟩ := gb1 hF
      refine j_callVv C (os' := [(shX7, h0, o0_7)]) [.int x1, .int r_3] (kX7_meetUnlike g h0 x1 r_3 o0 k_8) [0] rfl rfl rfl rfl 0 rfl rfl (wl_gV mw_27_20 mw_27_21 mw_27_22 mw_1_5 mw_27_23) rfl 2 rfl hd_X7_meetUnlike ⟨Nat.le_of_ble_eq_true rfl, Nat.le_of_ble_eq_true rfl⟩ (Nat.le_of_ble_eq_true rfl) rfl dX7_meetNow_34 ?_
      refine j_goto C 63 dX7_meetNow_37 rfl ?_
      refine j_iload_n C 1 dX7_meetNow_63 rfl rfl ?_
      cases hF
      exact j_iret C Rk dX7_meetNow_64
  · have hF := (if_pos c_17).symm.trans hF
    refine j_aload_n C 2 dX7_meetNow_17 rfl rfl ?_
    refine j_iload_n C 3 dX7_meetNow_18 rfl rfl ?_
    refine j_iload_n C 0 dX7_meetNow_19 rfl rfl ?_
    obtain ⟨o0_5, k_6, hF⟩ := gb1 hF
    refine j_callVv C (os' := [(shX7, h0, o0_5)]) [.int x1, .int r_3] (kX7_meetAlike g h0 x1 r_3 o0 k_6) [0] rfl rfl rfl rfl 0 rfl rfl (wl_gV mw_26_17 mw_26_18 mw_26_19 mw_1_5 mw_26_20) rfl 2 rfl hd_X7_meetAlike ⟨Nat.le_of_ble_eq_true rfl, Nat.le_of_ble_eq_true rfl⟩ (Nat.le_of_ble_eq_true rfl) rfl dX7_meetNow_20 ?_
    refine j_goto C 63 dX7_meetNow_23 rfl ?_
    refine j_iload_n C 1 dX7_meetNow_63 rfl rfl ?_
    cases hF
    exact j_iret C Rk dX7_meetNow_64
/-! HeadsMeetModel.letter -/
def FX7_letter (x1 : Int32) (o0 : Ob) : Option (Int32 × Ob) :=
  b1 (FX7_within x1 (32 : Int32) (126 : Int32)) fun r_1 =>
  if r_1 = 0 then
    some ((-102 : Int32), o0)
  else
    if (oV o0 11) = (80 : Int32) then
      some ((-104 : Int32), o0)
    else
      if inb (oV o0 11) 80 then
      lT (sA o0 12 (oV o0 11).toNatClampNeg (vp_nar .byte x1.toInt8.toInt32)) fun o0_5 =>
      lT (sV o0_5 11 ((oV o0_5 11) + (1 : Int32))) fun o0_7 =>
      some (oV o0_7 11, o0_7)
      else none
set_option maxRecDepth 100000 in
set_option maxHeartbeats 4000000 in
theorem kX7_letter (g : Gl) (h0 : Nat → Nat) (x1 : Int32) (o0 : Ob) {r : Int32} {o0' : Ob} (hF : FX7_letter x1 o0 = some (r, o0')) : Ctr g yX7_letter (Cond.code yX7_letter cX7_letter 2 (some .int) :: wsL_law) 1 22 [(shX7, h0, o0)] [(shX7, h0, o0')] [.ref (h0 0), .int x1] (some (.int r)) := by
  refine Ctr.of (cc := cX7_letter) (maxL := 2) (ret := (some .int)) (by decide) rfl (Nat.le_of_ble_eq_true rfl) ?_
  intro X C Rk
  replace C : CxOk g X cX7_letter RX7 (Cond.code yX7_letter cX7_letter 2 (some .int) :: wsL_law) 2 1 22 := C
  show J g X [(shX7, h0, o0)] 0 [(0, .ref (h0 0)), (1, .int x1)] []
  unfold FX7_letter at hF
  refine j_iload_n C 1 dX7_letter_0 rfl rfl ?_
  refine j_bipush (v := (32 : Int32)) C dX7_letter_1 rfl ?_
  refine j_bipush (v := (126 : Int32)) C dX7_letter_3 rfl ?_
  obtain ⟨r_1, k_2, hF⟩ := gb1 hF
  refine j_callSi C (os' := [(shX7, h0, o0)]) [.int x1, .int (32 : Int32), .int (126 : Int32)] (kX7_within g x1 (32 : Int32) (126 : Int32) k_2) [] rfl rfl rfl rfl (wl_gS mw_6_18 mw_6_19 mw_1_5 mw_6_20) rfl 3 rfl hd_X7_within ⟨Nat.le_of_ble_eq_true rfl, Nat.le_of_ble_eq_true rfl⟩ (Nat.le_of_ble_eq_true rfl) rfl dX7_letter_5 ?_
  refine j_if_ne C 14 dX7_letter_8 rfl (fun c_9 => ?_) (fun c_9 => ?_)
  · have hF := (if_neg c_9).symm.trans hF
    refine j_aload_n C 0 dX7_letter_14 rfl rfl ?_
    refine j_get (v := .int (oV o0 11)) C 0 11 rfl rfl (Nat.le_of_ble_eq_true rfl) rfl rfl in1_X7 (List.mem_cons_of_mem _ mw_6_17) dX7_letter_15 ?_
    refine j_bipush (v := (80 : Int32)) C dX7_letter_18 rfl ?_
    refine j_icmp_ne C 26 dX7_letter_20 rfl (fun c_8 => ?_) (fun c_8 => ?_)
    · have hF := (if_neg c_8).symm.trans hF
      refine j_aload_n C 0 dX7_letter_26 rfl rfl ?_
      refine j_get (v := .ref (h0 13)) C 0 12 rfl rfl (Nat.le_of_ble_eq_true rfl) rfl rfl in1_X7 (List.mem_cons_of_mem _ mw_4_19) dX7_letter_27 ?_
      refine j_aload_n C 0 dX7_letter_30 rfl rfl ?_
      refine j_get (v := .int (oV o0 11)) C 0 11 rfl rfl (Nat.le_of_ble_eq_true rfl) rfl rfl in1_X7 (List.mem_cons_of_mem _ mw_6_17) dX7_letter_31 ?_
      refine j_iload_n C 1 dX7_letter_34 rfl rfl ?_
      refine j_i2b C dX7_letter_35 ?_
      obtain ⟨z_3, hF⟩ := gi hF
      obtain ⟨o0_5, e_4, hF⟩ := glT hF
      refine j_bast C 0 12 rfl rfl z_3 [(shX7, h0, o0_5)] (by rw [e_4]; rfl) dX7_letter_36 ?_
      refine j_aload_n C 0 dX7_letter_37 rfl rfl ?_
      refine j_dup C rfl dX7_letter_38 ?_
      refine j_get (v := .int (oV o0_5 11)) C 0 11 rfl rfl (Nat.le_of_ble_eq_true rfl) rfl rfl in1_X7 (List.mem_cons_of_mem _ mw_6_17) dX7_letter_39 ?_
      refine j_iconst (v := (1 : Int32)) C dX7_letter_42 rfl ?_
      refine j_iadd C dX7_letter_43 ?_
      obtain ⟨o0_7, e_6, hF⟩ := glT hF
      refine j_putV C tyX7_ok nmX7 0 11 rfl rfl (Nat.le_of_ble_eq_true rfl) rfl in1_X7 (List.mem_cons_of_mem _ mw_6_17) rfl fd_X7_11 rfl rfl [(shX7, h0, o0_7)] (by rw [e_6]; rfl) dX7_letter_44 ?_
      refine j_aload_n C 0 dX7_letter_47 rfl rfl ?_
      refine j_get (v := .int (oV o0_7 11)) C 0 11 rfl rfl (Nat.le_of_ble_eq_true rfl) rfl rfl in1_X7 (List.mem_cons_of_mem _ mw_6_17) dX7_letter_48 ?_
      cases hF
      exact j_iret C Rk dX7_letter_51
    · have hF := (if_pos c_8).symm.trans hF
      refine j_bipush (v := (-104 : Int32)) C dX7_letter_23 rfl ?_
      cases hF
      exact j_iret C Rk dX7_letter_25
  · have hF := (if_pos c_9).symm.trans hF
    refine j_bipush (v := (-102 : Int32)) C dX7_letter_11 rfl ?_
    cases hF
    exact j_iret C Rk dX7_letter_13
/-! HeadsMeetModel.blank -/
def FX7_blank  (o0 : Ob) : Option (Int32 × Ob) :=
  lT (oV o0 11) fun x1_1 =>
  lT (sV o0 11 (0 : Int32)) fun o0_4 =>
  some (x1_1, o0_4)
set_option maxRecDepth 100000 in
set_option maxHeartbeats 4000000 in
theorem kX7_blank (g : Gl) (h0 : Nat → Nat)  (o0 : Ob) {r : Int32} {o0' : Ob} (hF : FX7_blank o0 = some (r, o0')) : Ctr g yX7_blank (Cond.code yX7_blank cX7_blank 2 (some .int) :: wsL_law) 0 0 [(shX7, h0, o0)] [(shX7, h0, o0')] [.ref (h0 0)] (some (.int r)) := by
  refine Ctr.of (cc := cX7_blank) (maxL := 2) (ret := (some .int)) (by decide) rfl (Nat.le_of_ble_eq_true rfl) ?_
  intro X C Rk
  replace C : CxOk g X cX7_blank RX7 (Cond.code yX7_blank cX7_blank 2 (some .int) :: wsL_law) 2 0 0 := C
  show J g X [(shX7, h0, o0)] 0 [(0, .ref (h0 0))] []
  unfold FX7_blank at hF
  refine j_aload_n C 0 dX7_blank_0 rfl rfl ?_
  refine j_get (v := .int (oV o0 11)) C 0 11 rfl rfl (Nat.le_of_ble_eq_true rfl) rfl rfl in1_X7 (List.mem_cons_of_mem _ mw_6_17) dX7_blank_1 ?_
  obtain ⟨x1_1, e_2, hF⟩ := glT hF
  refine j_istore_n C [(1, .int x1_1), (0, .ref (h0 0))] dX7_blank_4 rfl (Nat.le_of_ble_eq_true rfl) e_2 rfl ?_
  refine j_aload_n C 1 dX7_blank_5 rfl rfl ?_
  refine j_iconst (v := (0 : Int32)) C dX7_blank_6 rfl ?_
  obtain ⟨o0_4, e_3, hF⟩ := glT hF
  refine j_putV C tyX7_ok nmX7 0 11 rfl rfl (Nat.le_of_ble_eq_true rfl) rfl in1_X7 (List.mem_cons_of_mem _ mw_6_17) rfl fd_X7_11 rfl rfl [(shX7, h0, o0_4)] (by rw [e_3]; rfl) dX7_blank_7 ?_
  refine j_iload_n C 0 dX7_blank_10 rfl rfl ?_
  cases hF
  exact j_iret C Rk dX7_blank_11
/-! HeadsMeetModel.kindBy -/
def FX7_kindBy (x0 : Int32)  : Option (Int32) :=
  if x0 = (42 : Int32) then
    some (0 : Int32)
  else
    if x0 = (40 : Int32) then
      some (1 : Int32)
    else
      if x0 = (91 : Int32) then
        some (2 : Int32)
      else
        if x0 = (123 : Int32) then
          some (3 : Int32)
        else
          some (-1 : Int32)
set_option maxRecDepth 100000 in
set_option maxHeartbeats 4000000 in
theorem kX7_kindBy (g : Gl)  (x0 : Int32)  {r : Int32} (hF : FX7_kindBy x0 = some r) : Ctr g yX7_kindBy (Cond.code yX7_kindBy cX7_kindBy 1 (some .int) :: wsL_law) 0 0 [] [] [.int x0] (some (.int r)) := by
  refine Ctr.of (cc := cX7_kindBy) (maxL := 1) (ret := (some .int)) (by decide) rfl (Nat.le_of_ble_eq_true rfl) ?_
  intro X C Rk
  replace C : CxOk g X cX7_kindBy RX7 (Cond.code yX7_kindBy cX7_kindBy 1 (some .int) :: wsL_law) 1 0 0 := C
  show J g X [] 0 [(0, .int x0)] []
  unfold FX7_kindBy at hF
  refine j_iload_n C 0 dX7_kindBy_0 rfl rfl ?_
  refine j_bipush (v := (42 : Int32)) C dX7_kindBy_1 rfl ?_
  refine j_icmp_ne C 10 dX7_kindBy_3 rfl (fun c_4 => ?_) (fun c_4 => ?_)
  · have hF := (if_neg c_4).symm.trans hF
    refine j_iload_n C 0 dX7_kindBy_10 rfl rfl ?_
    refine j_bipush (v := (40 : Int32)) C dX7_kindBy_11 rfl ?_
    refine j_icmp_ne C 20 dX7_kindBy_13 rfl (fun c_3 => ?_) (fun c_3 => ?_)
    · have hF := (if_neg c_3).symm.trans hF
      refine j_iload_n C 0 dX7_kindBy_20 rfl rfl ?_
      refine j_bipush (v := (91 : Int32)) C dX7_kindBy_21 rfl ?_
      refine j_icmp_ne C 30 dX7_kindBy_23 rfl (fun c_2 => ?_) (fun c_2 => ?_)
      · have hF := (if_neg c_2).symm.trans hF
        refine j_iload_n C 0 dX7_kindBy_30 rfl rfl ?_
        refine j_bipush (v := (123 : Int32)) C dX7_kindBy_31 rfl ?_
        refine j_icmp_ne C 40 dX7_kindBy_33 rfl (fun c_1 => ?_) (fun c_1 => ?_)
        · have hF := (if_neg c_1).symm.trans hF
          refine j_iconst (v := (-1 : Int32)) C dX7_kindBy_40 rfl ?_
          cases hF
          exact j_iret C Rk dX7_kindBy_41
        · have hF := (if_pos c_1).symm.trans hF
          refine j_iconst (v := (3 : Int32)) C dX7_kindBy_36 rfl ?_
          refine j_goto C 41 dX7_kindBy_37 rfl ?_
          cases hF
          exact j_iret C Rk dX7_kindBy_41
      · have hF := (if_pos c_2).symm.trans hF
        refine j_iconst (v := (2 : Int32)) C dX7_kindBy_26 rfl ?_
        refine j_goto C 41 dX7_kindBy_27 rfl ?_
        cases hF
        exact j_iret C Rk dX7_kindBy_41
    · have hF := (if_pos c_3).symm.trans hF
      refine j_iconst (v := (1 : Int32)) C dX7_kindBy_16 rfl ?_
      refine j_goto C 41 dX7_kindBy_17 rfl ?_
      cases hF
      exact j_iret C Rk dX7_kindBy_41
  · have hF := (if_pos c_4).symm.trans hF
    refine j_iconst (v := (0 : Int32)) C dX7_kindBy_6 rfl ?_
    refine j_goto C 41 dX7_kindBy_7 rfl ?_
    cases hF
    exact j_iret C Rk dX7_kindBy_41
/-! HeadsMeetModel.closing -/
def FX7_closing (x0 : Int32)  : Option (Int32) :=
  if x0 = (1 : Int32) then
    some (41 : Int32)
  else
    if x0 = (2 : Int32) then
      some (93 : Int32)
    else
      some (125 : Int32)
set_option maxRecDepth 100000 in
set_option maxHeartbeats 4000000 in
theorem kX7_closing (g : Gl)  (x0 : Int32)  {r : Int32} (hF : FX7_closing x0 = some r) : Ctr g yX7_closing (Cond.code yX7_closing cX7_closing 1 (some .int) :: wsL_law) 0 0 [] [] [.int x0] (some (.int r)) := by
  refine Ctr.of (cc := cX7_closing) (maxL := 1) (ret := (some .int)) (by decide) rfl (Nat.le_of_ble_eq_true rfl) ?_
  intro X C Rk
  replace C : CxOk g X cX7_closing RX7 (Cond.code yX7_closing cX7_closing 1 (some .int) :: wsL_law) 1 0 0 := C
  show J g X [] 0 [(0, .int x0)] []
  unfold FX7_closing at hF
  refine j_iload_n C 0 dX7_closing_0 rfl rfl ?_
  refine j_iconst (v := (1 : Int32)) C dX7_closing_1 rfl ?_
  refine j_icmp_ne C 10 dX7_closing_2 rfl (fun c_2 => ?_) (fun c_2 => ?_)
  · have hF := (if_neg c_2).symm.trans hF
    refine j_iload_n C 0 dX7_closing_10 rfl rfl ?_
    refine j_iconst (v := (2 : Int32)) C dX7_closing_11 rfl ?_
    refine j_icmp_ne C 20 dX7_closing_12 rfl (fun c_1 => ?_) (fun c_1 => ?_)
    · have hF := (if_neg c_1).symm.trans hF
      refine j_bipush (v := (125 : Int32)) C dX7_closing_20 rfl ?_
      cases hF
      exact j_iret C Rk dX7_closing_22
    · have hF := (if_pos c_1).symm.trans hF
      refine j_bipush (v := (93 : Int32)) C dX7_closing_15 rfl ?_
      refine j_goto C 22 dX7_closing_17 rfl ?_
      cases hF
      exact j_iret C Rk dX7_closing_22
  · have hF := (if_pos c_2).symm.trans hF
    refine j_bipush (v := (41 : Int32)) C dX7_closing_5 rfl ?_
    refine j_goto C 22 dX7_closing_7 rfl ?_
    cases hF
    exact j_iret C Rk dX7_closing_22
/-! HeadsMeetModel.rawWire -/
def FX7_rawWire (x1 : Int32) (x2 : Int32) (o0 : Ob) : Option (Ob) :=
  if inb x1 556 then
  lT (sA o0 23 x1.toNatClampNeg x2) fun o0_3 =>
  if inb x2 556 then
  lT (sA o0_3 23 x2.toNatClampNeg x1) fun o0_6 =>
  some o0_6
  else none
  else none
set_option maxRecDepth 100000 in
set_option maxHeartbeats 4000000 in
theorem kX7_rawWire (g : Gl) (h0 : Nat → Nat) (x1 : Int32) (x2 : Int32) (o0 : Ob) {o0' : Ob} (hF : FX7_rawWire x1 x2 o0 = some o0') : Ctr g yX7_rawWire (Cond.code yX7_rawWire cX7_rawWire 3 none :: wsL_law) 0 0 [(shX7, h0, o0)] [(shX7, h0, o0')] [.ref (h0 0), .int x1, .int x2] none := by
  refine Ctr.of (cc := cX7_rawWire) (maxL := 3) (ret := none) (by decide) rfl (Nat.le_of_ble_eq_true rfl) ?_
  intro X C Rk
  replace C : CxOk g X cX7_rawWire RX7 (Cond.code yX7_rawWire cX7_rawWire 3 none :: wsL_law) 3 0 0 := C
  show J g X [(shX7, h0, o0)] 0 [(0, .ref (h0 0)), (1, .int x1), (2, .int x2)] []
  unfold FX7_rawWire at hF
  refine j_aload_n C 0 dX7_rawWire_0 rfl rfl ?_
  refine j_get (v := .ref (h0 24)) C 0 23 rfl rfl (Nat.le_of_ble_eq_true rfl) rfl rfl in1_X7 (List.mem_cons_of_mem _ mw_5_5) dX7_rawWire_1 ?_
  refine j_iload_n C 1 dX7_rawWire_4 rfl rfl ?_
  refine j_iload_n C 2 dX7_rawWire_5 rfl rfl ?_
  obtain ⟨z_1, hF⟩ := gi hF
  obtain ⟨o0_3, e_2, hF⟩ := glT hF
  refine j_iast C 0 23 rfl rfl z_1 [(shX7, h0, o0_3)] (by rw [e_2]; rfl) dX7_rawWire_6 ?_
  refine j_aload_n C 0 dX7_rawWire_7 rfl rfl ?_
  refine j_get (v := .ref (h0 24)) C 0 23 rfl rfl (Nat.le_of_ble_eq_true rfl) rfl rfl in1_X7 (List.mem_cons_of_mem _ mw_5_5) dX7_rawWire_8 ?_
  refine j_iload_n C 2 dX7_rawWire_11 rfl rfl ?_
  refine j_iload_n C 1 dX7_rawWire_12 rfl rfl ?_
  obtain ⟨z_4, hF⟩ := gi hF
  obtain ⟨o0_6, e_5, hF⟩ := glT hF
  refine j_iast C 0 23 rfl rfl z_4 [(shX7, h0, o0_6)] (by rw [e_5]; rfl) dX7_rawWire_13 ?_
  cases hF
  exact j_vret C Rk dX7_rawWire_14
/-! HeadsMeetModel.treeIs -/
def FX7_treeIs (x1 : Int32) (o0 : Ob) : Option (Ob) :=
  if (oV o0 20) ≤ 0 then
    if (oV o0 26) = 0 then
      lT (sV o0 27 x1) fun o0_16 =>
      lT (sV o0_16 26 (1 : Int32)) fun o0_18 =>
      lT (sV o0_18 25 (1 : Int32)) fun o0_20 =>
      some o0_20
    else
      b1 (FX7_rawWire (oV o0 27) x1 o0) fun o0_21 =>
      lT (sV o0_21 26 (0 : Int32)) fun o0_24 =>
      lT (sV o0_24 25 (2 : Int32)) fun o0_26 =>
      some o0_26
  else
    if inb ((oV o0 20) - (1 : Int32)) 80 then
    lT (oA o0 18 ((oV o0 20) - (1 : Int32)).toNatClampNeg) fun x2_2 =>
    b1 (FX7_rawWire ((((3 : Int32) * x2_2) + (1 : Int32)) + (oA o0 19 ((oV o0 20) - (1 : Int32)).toNatClampNeg)) x1 o0) fun o0_4 =>
    if inb ((oV o0_4 20) - (1 : Int32)) 80 then
    lT (sA o0_4 19 ((oV o0_4 20) - (1 : Int32)).toNatClampNeg ((oA o0_4 19 ((oV o0_4 20) - (1 : Int32)).toNatClampNeg) + (1 : Int32))) fun o0_8 =>
    if inb ((oV o0_8 20) - (1 : Int32)) 80 then
    if (oA o0_8 19 ((oV o0_8 20) - (1 : Int32)).toNatClampNeg) = (2 : Int32) then
      lT (sV o0_8 25 (3 : Int32)) fun o0_11 =>
      some o0_11
    else
      lT (sV o0_8 25 (0 : Int32)) fun o0_13 =>
      some o0_13
    else none
    else none
    else none
set_option maxRecDepth 100000 in
set_option maxHeartbeats 4000000 in
theorem kX7_treeIs (g : Gl) (h0 : Nat → Nat) (x1 : Int32) (o0 : Ob) {o0' : Ob} (hF : FX7_treeIs x1 o0 = some o0') : Ctr g yX7_treeIs (Cond.code yX7_treeIs cX7_treeIs 3 none :: wsL_law) 1 22 [(shX7, h0, o0)] [(shX7, h0, o0')] [.ref (h0 0), .int x1] none := by
  refine Ctr.of (cc := cX7_treeIs) (maxL := 3) (ret := none) (by decide) rfl (Nat.le_of_ble_eq_true rfl) ?_
  intro X C Rk
  replace C : CxOk g X cX7_treeIs RX7 (Cond.code yX7_treeIs cX7_treeIs 3 none :: wsL_law) 3 1 22 := C
  show J g X [(shX7, h0, o0)] 0 [(0, .ref (h0 0)), (1, .int x1)] []
  unfold FX7_treeIs at hF
  refine j_aload_n C 0 dX7_treeIs_0 rfl rfl ?_
  refine j_get (v := .int (oV o0 20)) C 0 20 rfl rfl (Nat.le_of_ble_eq_true rfl) rfl rfl in1_X7 (List.mem_cons_of_mem _ mw_15_1) dX7_treeIs_1 ?_
  refine j_if_le C 83 dX7_treeIs_4 rfl (fun c_28 => ?_) (fun c_28 => ?_)
  · have hF := (if_pos c_28).symm.trans hF
    refine j_aload_n C 0 dX7_treeIs_83 rfl rfl ?_
    refine j_get (v := .int (oV o0 26)) C 0 26 rfl rfl (Nat.le_of_ble_eq_true rfl) rfl rfl in1_X7 (List.mem_cons_of_mem _ mw_15_4) dX7_treeIs_84 ?_
    refine j_if_ne C 108 dX7_treeIs_87 rfl (fun c_27 => ?_) (fun c_27 => ?_)
    · have hF := (if_neg c_27).symm.trans hF
      refine j_aload_n C 0 dX7_treeIs_108 rfl rfl ?_
      refine j_aload_n C 0 dX7_treeIs_109 rfl rfl ?_
      refine j_get (v := .int (oV o0 27)) C 0 27 rfl rfl (Nat.le_of_ble_eq_true rfl) rfl rfl in1_X7 (List.mem_cons_of_mem _ mw_15_21) dX7_treeIs_110 ?_
      refine j_iload_n C 1 dX7_treeIs_113 rfl rfl ?_
      obtain ⟨o0_21, k_22, hF⟩ := gb1 hF
      refine j_callVv C (os' := [(shX7, h0, o0_21)]) [.int (oV o0 27), .int x1] (kX7_rawWire g h0 (oV o0 27) x1 o0 k_22) [0] rfl rfl rfl rfl 0 rfl rfl (wl_gV mw_15_22 mw_15_23 mw_16_0 mw_1_5 mw_16_1) rfl 2 rfl hd_X7_rawWire ⟨Nat.le_of_ble_eq_true rfl, Nat.le_of_ble_eq_true rfl⟩ (Nat.le_of_ble_eq_true rfl) rfl dX7_treeIs_114 ?_
      refine j_aload_n C 0 dX7_treeIs_117 rfl rfl ?_
      refine j_iconst (v := (0 : Int32)) C dX7_treeIs_118 rfl ?_
      obtain ⟨o0_24, e_23, hF⟩ := glT hF
      refine j_putV C tyX7_ok nmX7 0 26 rfl rfl (Nat.le_of_ble_eq_true rfl) rfl in1_X7 (List.mem_cons_of_mem _ mw_15_4) rfl fd_X7_26 rfl rfl [(shX7, h0, o0_24)] (by rw [e_23]; rfl) dX7_treeIs_119 ?_
      refine j_aload_n C 0 dX7_treeIs_122 rfl rfl ?_
      refine j_iconst (v := (2 : Int32)) C dX7_treeIs_123 rfl ?_
      obtain ⟨o0_26, e_25, hF⟩ := glT hF
      refine j_putV C tyX7_ok nmX7 0 25 rfl rfl (Nat.le_of_ble_eq_true rfl) rfl in1_X7 (List.mem_cons_of_mem _ mw_15_3) rfl fd_X7_25 rfl rfl [(shX7, h0, o0_26)] (by rw [e_25]; rfl) dX7_treeIs_124 ?_
      cases hF
      exact j_vret C Rk dX7_treeIs_127
    · have hF := (if_pos c_27).symm.trans hF
      refine j_aload_n C 0 dX7_treeIs_90 rfl rfl ?_
      refine j_iload_n C 1 dX7_treeIs_91 rfl rfl ?_
      obtain ⟨o0_16, e_15, hF⟩ := glT hF
      refine j_putV C tyX7_ok nmX7 0 27 rfl rfl (Nat.le_of_ble_eq_true rfl) rfl in1_X7 (List.mem_cons_of_mem _ mw_15_21) rfl fd_X7_27 rfl rfl [(shX7, h0, o0_16)] (by rw [e_15]; rfl) dX7_treeIs_92 ?_
      refine j_aload_n C 0 dX7_treeIs_95 rfl rfl ?_
      refine j_iconst (v := (1 : Int32)) C dX7_treeIs_96 rfl ?_
      obtain ⟨o0_18, e_17, hF⟩ := glT hF
      refine j_putV C tyX7_ok nmX7 0 26 rfl rfl (Nat.le_of_ble_eq_true rfl) rfl in1_X7 (List.mem_cons_of_mem _ mw_15_4) rfl fd_X7_26 rfl rfl [(shX7, h0, o0_18)] (by rw [e_17]; rfl) dX7_treeIs_97 ?_
      refine j_aload_n C 0 dX7_treeIs_100 rfl rfl ?_
      refine j_iconst (v := (1 : Int32)) C dX7_treeIs_101 rfl ?_
      obtain ⟨o0_20, e_19, hF⟩ := glT hF
      refine j_putV C tyX7_ok nmX7 0 25 rfl rfl (Nat.le_of_ble_eq_true rfl) rfl in1_X7 (List.mem_cons_of_mem _ mw_15_3) rfl fd_X7_25 rfl rfl [(shX7, h0, o0_20)] (by rw [e_19]; rfl) dX7_treeIs_102 ?_
      refine j_goto C 127 dX7_treeIs_105 rfl ?_
      cases hF
      exact j_vret C Rk dX7_treeIs_127
  · have hF := (if_neg c_28).symm.trans hF
    refine j_aload_n C 0 dX7_treeIs_7 rfl rfl ?_
    refine j_get (v := .ref (h0 19)) C 0 18 rfl rfl (Nat.le_of_ble_eq_true rfl) rfl rfl in1_X7 (List.mem_cons_of_mem _ mw_5_2) dX7_treeIs_8 ?_
    refine j_aload_n C 0 dX7_treeIs_11 rfl rfl ?_
    refine j_get (v := .int (oV o0 20)) C 0 20 rfl rfl (Nat.le_of_ble_eq_true rfl) rfl rfl in1_X7 (List.mem_cons_of_mem _ mw_15_1) dX7_treeIs_12 ?_
    refine j_iconst (v := (1 : Int32)) C dX7_treeIs_15 rfl ?_
    refine j_isub C dX7_treeIs_16 ?_
    obtain ⟨z_1, hF⟩ := gi hF
    refine j_iald C 0 18 rfl rfl z_1 dX7_treeIs_17 ?_
    obtain ⟨x2_2, e_3, hF⟩ := glT hF
    refine j_istore_n C [(2, .int x2_2), (0, .ref (h0 0)), (1, .int x1)] dX7_treeIs_18 rfl (Nat.le_of_ble_eq_true rfl) e_3 rfl ?_
    refine j_aload_n C 1 dX7_treeIs_19 rfl rfl ?_
    refine j_iconst (v := (3 : Int32)) C dX7_treeIs_20 rfl ?_
    refine j_iload_n C 0 dX7_treeIs_21 rfl rfl ?_
    refine j_imul C dX7_treeIs_22 ?_
    refine j_iconst (v := (1 : Int32)) C dX7_treeIs_23 rfl ?_
    refine j_iadd C dX7_treeIs_24 ?_
    refine j_aload_n C 1 dX7_treeIs_25 rfl rfl ?_
    refine j_get (v := .ref (h0 20)) C 0 19 rfl rfl (Nat.le_of_ble_eq_true rfl) rfl rfl in1_X7 (List.mem_cons_of_mem _ mw_5_3) dX7_treeIs_26 ?_
    refine j_aload_n C 1 dX7_treeIs_29 rfl rfl ?_
    refine j_get (v := .int (oV o0 20)) C 0 20 rfl rfl (Nat.le_of_ble_eq_true rfl) rfl rfl in1_X7 (List.mem_cons_of_mem _ mw_15_1) dX7_treeIs_30 ?_
    refine j_iconst (v := (1 : Int32)) C dX7_treeIs_33 rfl ?_
    refine j_isub C dX7_treeIs_34 ?_
    refine j_iald C 0 19 rfl rfl z_1 dX7_treeIs_35 ?_
    refine j_iadd C dX7_treeIs_36 ?_
    refine j_iload_n C 2 dX7_treeIs_37 rfl rfl ?_
    obtain ⟨o0_4, k_5, hF⟩ := gb1 hF
    refine j_callVv C (os' := [(shX7, h0, o0_4)]) [.int ((((3 : Int32) * x2_2) + (1 : Int32)) + (oA o0 19 ((oV o0 20) - (1 : Int32)).toNatClampNeg)), .int x1] (kX7_rawWire g h0 ((((3 : Int32) * x2_2) + (1 : Int32)) + (oA o0 19 ((oV o0 20) - (1 : Int32)).toNatClampNeg)) x1 o0 k_5) [0] rfl rfl rfl rfl 0 rfl rfl (wl_gV mw_15_22 mw_15_23 mw_16_0 mw_1_5 mw_16_1) rfl 2 rfl hd_X7_rawWire ⟨Nat.le_of_ble_eq_true rfl, Nat.le_of_ble_eq_true rfl⟩ (Nat.le_of_ble_eq_true rfl) rfl dX7_treeIs_38 ?_
    refine j_aload_n C 1 dX7_treeIs_41 rfl rfl ?_
    refine j_get (v := .ref (h0 20)) C 0 19 rfl rfl (Nat.le_of_ble_eq_true rfl) rfl rfl in1_X7 (List.mem_cons_of_mem _ mw_5_3) dX7_treeIs_42 ?_
    refine j_aload_n C 1 dX7_treeIs_45 rfl rfl ?_
    refine j_get (v := .int (oV o0_4 20)) C 0 20 rfl rfl (Nat.le_of_ble_eq_true rfl) rfl rfl in1_X7 (List.mem_cons_of_mem _ mw_15_1) dX7_treeIs_46 ?_
    refine j_iconst (v := (1 : Int32)) C dX7_treeIs_49 rfl ?_
    refine j_isub C dX7_treeIs_50 ?_
    refine j_dup2 C rfl rfl dX7_treeIs_51 ?_
    obtain ⟨z_6, hF⟩ := gi hF
    refine j_iald C 0 19 rfl rfl z_6 dX7_treeIs_52 ?_
    refine j_iconst (v := (1 : Int32)) C dX7_treeIs_53 rfl ?_
    refine j_iadd C dX7_treeIs_54 ?_
    obtain ⟨o0_8, e_7, hF⟩ := glT hF
    refine j_iast C 0 19 rfl rfl z_6 [(shX7, h0, o0_8)] (by rw [e_7]; rfl) dX7_treeIs_55 ?_
    refine j_aload_n C 1 dX7_treeIs_56 rfl rfl ?_
    refine j_aload_n C 1 dX7_treeIs_57 rfl rfl ?_
    refine j_get (v := .ref (h0 20)) C 0 19 rfl rfl (Nat.le_of_ble_eq_true rfl) rfl rfl in1_X7 (List.mem_cons_of_mem _ mw_5_3) dX7_treeIs_58 ?_
    refine j_aload_n C 1 dX7_treeIs_61 rfl rfl ?_
    refine j_get (v := .int (oV o0_8 20)) C 0 20 rfl rfl (Nat.le_of_ble_eq_true rfl) rfl rfl in1_X7 (List.mem_cons_of_mem _ mw_15_1) dX7_treeIs_62 ?_
    refine j_iconst (v := (1 : Int32)) C dX7_treeIs_65 rfl ?_
    refine j_isub C dX7_treeIs_66 ?_
    obtain ⟨z_9, hF⟩ := gi hF
    refine j_iald C 0 19 rfl rfl z_9 dX7_treeIs_67 ?_
    refine j_iconst (v := (2 : Int32)) C dX7_treeIs_68 rfl ?_
    refine j_icmp_ne C 76 dX7_treeIs_69 rfl (fun c_14 => ?_) (fun c_14 => ?_)
    · have hF := (if_neg c_14).symm.trans hF
      refine j_iconst (v := (0 : Int32)) C dX7_treeIs_76 rfl ?_
      obtain ⟨o0_13, e_12, hF⟩ := glT hF
      refine j_putV C tyX7_ok nmX7 0 25 rfl rfl (Nat.le_of_ble_eq_true rfl) rfl in1_X7 (List.mem_cons_of_mem _ mw_15_3) rfl fd_X7_25 rfl rfl [(shX7, h0, o0_13)] (by rw [e_12]; rfl) dX7_treeIs_77 ?_
      refine j_goto C 127 dX7_treeIs_80 rfl ?_
      cases hF
      exact j_vret C Rk dX7_treeIs_127
    · have hF := (if_pos c_14).symm.trans hF
      refine j_iconst (v := (3 : Int32)) C dX7_treeIs_72 rfl ?_
      refine j_goto C 77 dX7_treeIs_73 rfl ?_
      obtain ⟨o0_11, e_10, hF⟩ := glT hF
      refine j_putV C tyX7_ok nmX7 0 25 rfl rfl (Nat.le_of_ble_eq_true rfl) rfl in1_X7 (List.mem_cons_of_mem _ mw_15_3) rfl fd_X7_25 rfl rfl [(shX7, h0, o0_11)] (by rw [e_10]; rfl) dX7_treeIs_77 ?_
      refine j_goto C 127 dX7_treeIs_80 rfl ?_
      cases hF
      exact j_vret C Rk dX7_treeIs_127
/-! HeadsMeetModel.takesTree -/
def FX7_takesTree (x1 : Int32) (o0 : Ob) : Option (Int32 × Ob) :=
  b1 (FX7_kindBy x1) fun r_1 =>
  if r_1 = (-1 : Int32) then
    lT (x1 - (97 : Int32)) fun x3_21 =>
    b1 (FX7_within x3_21 (0 : Int32) (7 : Int32)) fun r_23 =>
    if r_23 = 0 then
      some ((0 : Int32), o0)
    else
      if inb x3_21 8 then
      if (oA o0 24 x3_21.toNatClampNeg) = (2 : Int32) then
        some ((0 : Int32), o0)
      else
        lT (sA o0 24 x3_21.toNatClampNeg ((oA o0 24 x3_21.toNatClampNeg) + (1 : Int32))) fun o0_27 =>
        b1 (FX7_treeIs ((((540 : Int32) + ((2 : Int32) * x3_21)) + (oA o0_27 24 x3_21.toNatClampNeg)) - (1 : Int32)) o0_27) fun o0_28 =>
        some ((1 : Int32), o0_28)
      else none
  else
    lT (oV o0 21) fun x3_3 =>
    if inb x3_3 80 then
    lT (sA o0 22 x3_3.toNatClampNeg r_1) fun o0_7 =>
    lT (sV o0_7 21 ((oV o0_7 21) + (1 : Int32))) fun o0_9 =>
    if r_1 = 0 then
      b1 (FX7_treeIs ((3 : Int32) * x3_3) o0_9) fun o0_10 =>
      some ((1 : Int32), o0_10)
    else
      if inb (oV o0_9 20) 80 then
      lT (sA o0_9 18 (oV o0_9 20).toNatClampNeg x3_3) fun o0_14 =>
      if inb (oV o0_14 20) 80 then
      lT (sA o0_14 19 (oV o0_14 20).toNatClampNeg (0 : Int32)) fun o0_17 =>
      lT (sV o0_17 20 ((oV o0_17 20) + (1 : Int32))) fun o0_19 =>
      some ((1 : Int32), o0_19)
      else none
      else none
    else none
set_option maxRecDepth 100000 in
set_option maxHeartbeats 4000000 in
theorem kX7_takesTree (g : Gl) (h0 : Nat → Nat) (x1 : Int32) (o0 : Ob) {r : Int32} {o0' : Ob} (hF : FX7_takesTree x1 o0 = some (r, o0')) : Ctr g yX7_takesTree (Cond.code yX7_takesTree cX7_takesTree 4 (some .boolean) :: wsL_law) 2 44 [(shX7, h0, o0)] [(shX7, h0, o0')] [.ref (h0 0), .int x1] (some (.int r)) := by
  refine Ctr.of (cc := cX7_takesTree) (maxL := 4) (ret := (some .boolean)) (by decide) rfl (Nat.le_of_ble_eq_true rfl) ?_
  intro X C Rk
  replace C : CxOk g X cX7_takesTree RX7 (Cond.code yX7_takesTree cX7_takesTree 4 (some .boolean) :: wsL_law) 4 2 44 := C
  show J g X [(shX7, h0, o0)] 0 [(0, .ref (h0 0)), (1, .int x1)] []
  unfold FX7_takesTree at hF
  refine j_iload_n C 1 dX7_takesTree_0 rfl rfl ?_
  obtain ⟨r_1, k_2, hF⟩ := gb1 hF
  refine j_callSi C (os' := [(shX7, h0, o0)]) [.int x1] (kX7_kindBy g x1 k_2) [] rfl rfl rfl rfl (wl_gS mw_15_14 mw_15_15 mw_1_5 mw_15_16) rfl 1 rfl hd_X7_kindBy ⟨Nat.le_of_ble_eq_true rfl, Nat.le_of_ble_eq_true rfl⟩ (Nat.le_of_ble_eq_true rfl) rfl dX7_takesTree_1 ?_
  refine j_istore_n C [(2, .int r_1), (0, .ref (h0 0)), (1, .int x1)] dX7_takesTree_4 rfl (Nat.le_of_ble_eq_true rfl) rfl rfl ?_
  refine j_iload_n C 0 dX7_takesTree_5 rfl rfl ?_
  refine j_iconst (v := (-1 : Int32)) C dX7_takesTree_6 rfl ?_
  refine j_icmp_eq C 78 dX7_takesTree_7 rfl (fun c_32 => ?_) (fun c_32 => ?_)
  · have hF := (if_pos c_32).symm.trans hF
    refine j_iload_n C 2 dX7_takesTree_78 rfl rfl ?_
    refine j_bipush (v := (97 : Int32)) C dX7_takesTree_79 rfl ?_
    refine j_isub C dX7_takesTree_81 ?_
    obtain ⟨x3_21, e_22, hF⟩ := glT hF
    refine j_istore_n C [(3, .int x3_21), (2, .int r_1), (0, .ref (h0 0)), (1, .int x1)] dX7_takesTree_82 rfl (Nat.le_of_ble_eq_true rfl) e_22 rfl ?_
    refine j_iload_n C 0 dX7_takesTree_83 rfl rfl ?_
    refine j_iconst (v := (0 : Int32)) C dX7_takesTree_84 rfl ?_
    refine j_bipush (v := (7 : Int32)) C dX7_takesTree_85 rfl ?_
    obtain ⟨r_23, k_24, hF⟩ := gb1 hF
    refine j_callSi C (os' := [(shX7, h0, o0)]) [.int x3_21, .int (0 : Int32), .int (7 : Int32)] (kX7_within g x3_21 (0 : Int32) (7 : Int32) k_24) [] rfl rfl rfl rfl (wl_gS mw_6_18 mw_6_19 mw_1_5 mw_6_20) rfl 3 rfl hd_X7_within ⟨Nat.le_of_ble_eq_true rfl, Nat.le_of_ble_eq_true rfl⟩ (Nat.le_of_ble_eq_true rfl) rfl dX7_takesTree_87 ?_
    refine j_if_eq C 103 dX7_takesTree_90 rfl (fun c_31 => ?_) (fun c_31 => ?_)
    · have hF := (if_pos c_31).symm.trans hF
      refine j_iconst (v := (0 : Int32)) C dX7_takesTree_103 rfl ?_
      cases hF
      exact j_zret C rfl Rk dX7_takesTree_104
    · have hF := (if_neg c_31).symm.trans hF
      refine j_aload_n C 2 dX7_takesTree_93 rfl rfl ?_
      refine j_get (v := .ref (h0 25)) C 0 24 rfl rfl (Nat.le_of_ble_eq_true rfl) rfl rfl in1_X7 (List.mem_cons_of_mem _ mw_5_6) dX7_takesTree_94 ?_
      refine j_iload_n C 0 dX7_takesTree_97 rfl rfl ?_
      obtain ⟨z_25, hF⟩ := gi hF
      refine j_iald C 0 24 rfl rfl z_25 dX7_takesTree_98 ?_
      refine j_iconst (v := (2 : Int32)) C dX7_takesTree_99 rfl ?_
      refine j_icmp_ne C 105 dX7_takesTree_100 rfl (fun c_30 => ?_) (fun c_30 => ?_)
      · have hF := (if_neg c_30).symm.trans hF
        refine j_aload_n C 2 dX7_takesTree_105 rfl rfl ?_
        refine j_get (v := .ref (h0 25)) C 0 24 rfl rfl (Nat.le_of_ble_eq_true rfl) rfl rfl in1_X7 (List.mem_cons_of_mem _ mw_5_6) dX7_takesTree_106 ?_
        refine j_iload_n C 0 dX7_takesTree_109 rfl rfl ?_
        refine j_dup2 C rfl rfl dX7_takesTree_110 ?_
        refine j_iald C 0 24 rfl rfl z_25 dX7_takesTree_111 ?_
        refine j_iconst (v := (1 : Int32)) C dX7_takesTree_112 rfl ?_
        refine j_iadd C dX7_takesTree_113 ?_
        obtain ⟨o0_27, e_26, hF⟩ := glT hF
        refine j_iast C 0 24 rfl rfl z_25 [(shX7, h0, o0_27)] (by rw [e_26]; rfl) dX7_takesTree_114 ?_
        refine j_aload_n C 2 dX7_takesTree_115 rfl rfl ?_
        refine j_sipush (v := (540 : Int32)) C dX7_takesTree_116 rfl ?_
        refine j_iconst (v := (2 : Int32)) C dX7_takesTree_119 rfl ?_
        refine j_iload_n C 0 dX7_takesTree_120 rfl rfl ?_
        refine j_imul C dX7_takesTree_121 ?_
        refine j_iadd C dX7_takesTree_122 ?_
        refine j_aload_n C 2 dX7_takesTree_123 rfl rfl ?_
        refine j_get (v := .ref (h0 25)) C 0 24 rfl rfl (Nat.le_of_ble_eq_true rfl) rfl rfl in1_X7 (List.mem_cons_of_mem _ mw_5_6) dX7_takesTree_124 ?_
        refine j_iload_n C 0 dX7_takesTree_127 rfl rfl ?_
        refine j_iald C 0 24 rfl rfl z_25 dX7_takesTree_128 ?_
        refine j_iadd C dX7_takesTree_129 ?_
        refine j_iconst (v := (1 : Int32)) C dX7_takesTree_130 rfl ?_
        refine j_isub C dX7_takesTree_131 ?_
        obtain ⟨o0_28, k_29, hF⟩ := gb1 hF
        refine j_callVv C (os' := [(shX7, h0, o0_28)]) [.int ((((540 : Int32) + ((2 : Int32) * x3_21)) + (oA o0_27 24 x3_21.toNatClampNeg)) - (1 : Int32))] (kX7_treeIs g h0 ((((540 : Int32) + ((2 : Int32) * x3_21)) + (oA o0_27 24 x3_21.toNatClampNeg)) - (1 : Int32)) o0_27 k_29) [0] rfl rfl rfl rfl 0 rfl rfl (wl_gV mw_15_17 mw_15_18 mw_15_19 mw_1_5 mw_15_20) rfl 1 rfl hd_X7_treeIs ⟨Nat.le_of_ble_eq_true rfl, Nat.le_of_ble_eq_true rfl⟩ (Nat.le_of_ble_eq_true rfl) rfl dX7_takesTree_132 ?_
        refine j_iconst (v := (1 : Int32)) C dX7_takesTree_135 rfl ?_
        cases hF
        exact j_zret C rfl Rk dX7_takesTree_136
      · have hF := (if_pos c_30).symm.trans hF
        refine j_iconst (v := (0 : Int32)) C dX7_takesTree_103 rfl ?_
        cases hF
        exact j_zret C rfl Rk dX7_takesTree_104
  · have hF := (if_neg c_32).symm.trans hF
    refine j_aload_n C 1 dX7_takesTree_10 rfl rfl ?_
    refine j_get (v := .int (oV o0 21)) C 0 21 rfl rfl (Nat.le_of_ble_eq_true rfl) rfl rfl in1_X7 (List.mem_cons_of_mem _ mw_15_2) dX7_takesTree_11 ?_
    obtain ⟨x3_3, e_4, hF⟩ := glT hF
    refine j_istore_n C [(3, .int x3_3), (2, .int r_1), (0, .ref (h0 0)), (1, .int x1)] dX7_takesTree_14 rfl (Nat.le_of_ble_eq_true rfl) e_4 rfl ?_
    refine j_aload_n C 2 dX7_takesTree_15 rfl rfl ?_
    refine j_get (v := .ref (h0 23)) C 0 22 rfl rfl (Nat.le_of_ble_eq_true rfl) rfl rfl in1_X7 (List.mem_cons_of_mem _ mw_5_4) dX7_takesTree_16 ?_
    refine j_iload_n C 0 dX7_takesTree_19 rfl rfl ?_
    refine j_iload_n C 1 dX7_takesTree_20 rfl rfl ?_
    obtain ⟨z_5, hF⟩ := gi hF
    obtain ⟨o0_7, e_6, hF⟩ := glT hF
    refine j_iast C 0 22 rfl rfl z_5 [(shX7, h0, o0_7)] (by rw [e_6]; rfl) dX7_takesTree_21 ?_
    refine j_aload_n C 2 dX7_takesTree_22 rfl rfl ?_
    refine j_dup C rfl dX7_takesTree_23 ?_
    refine j_get (v := .int (oV o0_7 21)) C 0 21 rfl rfl (Nat.le_of_ble_eq_true rfl) rfl rfl in1_X7 (List.mem_cons_of_mem _ mw_15_2) dX7_takesTree_24 ?_
    refine j_iconst (v := (1 : Int32)) C dX7_takesTree_27 rfl ?_
    refine j_iadd C dX7_takesTree_28 ?_
    obtain ⟨o0_9, e_8, hF⟩ := glT hF
    refine j_putV C tyX7_ok nmX7 0 21 rfl rfl (Nat.le_of_ble_eq_true rfl) rfl in1_X7 (List.mem_cons_of_mem _ mw_15_2) rfl fd_X7_21 rfl rfl [(shX7, h0, o0_9)] (by rw [e_8]; rfl) dX7_takesTree_29 ?_
    refine j_iload_n C 1 dX7_takesTree_32 rfl rfl ?_
    refine j_if_ne C 46 dX7_takesTree_33 rfl (fun c_20 => ?_) (fun c_20 => ?_)
    · have hF := (if_neg c_20).symm.trans hF
      refine j_aload_n C 2 dX7_takesTree_46 rfl rfl ?_
      refine j_get (v := .ref (h0 19)) C 0 18 rfl rfl (Nat.le_of_ble_eq_true rfl) rfl rfl in1_X7 (List.mem_cons_of_mem _ mw_5_2) dX7_takesTree_47 ?_
      refine j_aload_n C 2 dX7_takesTree_50 rfl rfl ?_
      refine j_get (v := .int (oV o0_9 20)) C 0 20 rfl rfl (Nat.le_of_ble_eq_true rfl) rfl rfl in1_X7 (List.mem_cons_of_mem _ mw_15_1) dX7_takesTree_51 ?_
      refine j_iload_n C 0 dX7_takesTree_54 rfl rfl ?_
      obtain ⟨z_12, hF⟩ := gi hF
      obtain ⟨o0_14, e_13, hF⟩ := glT hF
      refine j_iast C 0 18 rfl rfl z_12 [(shX7, h0, o0_14)] (by rw [e_13]; rfl) dX7_takesTree_55 ?_
      refine j_aload_n C 2 dX7_takesTree_56 rfl rfl ?_
      refine j_get (v := .ref (h0 20)) C 0 19 rfl rfl (Nat.le_of_ble_eq_true rfl) rfl rfl in1_X7 (List.mem_cons_of_mem _ mw_5_3) dX7_takesTree_57 ?_
      refine j_aload_n C 2 dX7_takesTree_60 rfl rfl ?_
      refine j_get (v := .int (oV o0_14 20)) C 0 20 rfl rfl (Nat.le_of_ble_eq_true rfl) rfl rfl in1_X7 (List.mem_cons_of_mem _ mw_15_1) dX7_takesTree_61 ?_
      refine j_iconst (v := (0 : Int32)) C dX7_takesTree_64 rfl ?_
      obtain ⟨z_15, hF⟩ := gi hF
      obtain ⟨o0_17, e_16, hF⟩ := glT hF
      refine j_iast C 0 19 rfl rfl z_15 [(shX7, h0, o0_17)] (by rw [e_16]; rfl) dX7_takesTree_65 ?_
      refine j_aload_n C 2 dX7_takesTree_66 rfl rfl ?_
      refine j_dup C rfl dX7_takesTree_67 ?_
      refine j_get (v := .int (oV o0_17 20)) C 0 20 rfl rfl (Nat.le_of_ble_eq_true rfl) rfl rfl in1_X7 (List.mem_cons_of_mem _ mw_15_1) dX7_takesTree_68 ?_
      refine j_iconst (v := (1 : Int32)) C dX7_takesTree_71 rfl ?_
      refine j_iadd C dX7_takesTree_72 ?_
      obtain ⟨o0_19, e_18, hF⟩ := glT hF
      refine j_putV C tyX7_ok nmX7 0 20 rfl rfl (Nat.le_of_ble_eq_true rfl) rfl in1_X7 (List.mem_cons_of_mem _ mw_15_1) rfl fd_X7_20 rfl rfl [(shX7, h0, o0_19)] (by rw [e_18]; rfl) dX7_takesTree_73 ?_
      refine j_iconst (v := (1 : Int32)) C dX7_takesTree_76 rfl ?_
      cases hF
      exact j_zret C rfl Rk dX7_takesTree_77
    · have hF := (if_pos c_20).symm.trans hF
      refine j_aload_n C 2 dX7_takesTree_36 rfl rfl ?_
      refine j_iconst (v := (3 : Int32)) C dX7_takesTree_37 rfl ?_
      refine j_iload_n C 0 dX7_takesTree_38 rfl rfl ?_
      refine j_imul C dX7_takesTree_39 ?_
      obtain ⟨o0_10, k_11, hF⟩ := gb1 hF
      refine j_callVv C (os' := [(shX7, h0, o0_10)]) [.int ((3 : Int32) * x3_3)] (kX7_treeIs g h0 ((3 : Int32) * x3_3) o0_9 k_11) [0] rfl rfl rfl rfl 0 rfl rfl (wl_gV mw_15_17 mw_15_18 mw_15_19 mw_1_5 mw_15_20) rfl 1 rfl hd_X7_treeIs ⟨Nat.le_of_ble_eq_true rfl, Nat.le_of_ble_eq_true rfl⟩ (Nat.le_of_ble_eq_true rfl) rfl dX7_takesTree_40 ?_
      refine j_goto C 76 dX7_takesTree_43 rfl ?_
      refine j_iconst (v := (1 : Int32)) C dX7_takesTree_76 rfl ?_
      cases hF
      exact j_zret C rfl Rk dX7_takesTree_77
/-! HeadsMeetModel.takes -/
def FX7_takes (x1 : Int32) (o0 : Ob) : Option (Int32 × Ob) :=
  if (oV o0 25) = 0 then
    b2 (FX7_takesTree x1 o0) fun r_29 o0_30 =>
    if isb r_29 then
    some (r_29, o0_30)
    else none
  else
    if (oV o0 25) = 1 then
      if x1 = (61 : Int32) then
        lT (sV o0 25 (0 : Int32)) fun o0_23 =>
        if x1 = (61 : Int32) then
          some ((1 : Int32), o0_23)
        else
          some ((0 : Int32), o0_23)
      else
        lT (sV o0 25 (1 : Int32)) fun o0_26 =>
        if x1 = (61 : Int32) then
          some ((1 : Int32), o0_26)
        else
          some ((0 : Int32), o0_26)
    else
      if (oV o0 25) = 2 then
        if x1 = (44 : Int32) then
          lT (sV o0 25 (0 : Int32)) fun o0_16 =>
          if x1 = (44 : Int32) then
            some ((1 : Int32), o0_16)
          else
            some ((0 : Int32), o0_16)
        else
          lT (sV o0 25 (2 : Int32)) fun o0_19 =>
          if x1 = (44 : Int32) then
            some ((1 : Int32), o0_19)
          else
            some ((0 : Int32), o0_19)
      else
        if inb ((oV o0 20) - (1 : Int32)) 80 then
        lT (oA o0 18 ((oV o0 20) - (1 : Int32)).toNatClampNeg) fun x2_2 =>
        if inb x2_2 80 then
        b1 (FX7_closing (oA o0 22 x2_2.toNatClampNeg)) fun r_5 =>
        if x1 = r_5 then
          lT (sV o0 20 ((oV o0 20) - (1 : Int32))) fun o0_8 =>
          b1 (FX7_treeIs ((3 : Int32) * x2_2) o0_8) fun o0_9 =>
          some ((1 : Int32), o0_9)
        else
          some ((0 : Int32), o0)
        else none
        else none
set_option maxRecDepth 100000 in
set_option maxHeartbeats 4000000 in
theorem kX7_takes (g : Gl) (h0 : Nat → Nat) (x1 : Int32) (o0 : Ob) {r : Int32} {o0' : Ob} (hF : FX7_takes x1 o0 = some (r, o0')) : Ctr g yX7_takes (Cond.code yX7_takes cX7_takes 3 (some .boolean) :: wsL_law) 3 67 [(shX7, h0, o0)] [(shX7, h0, o0')] [.ref (h0 0), .int x1] (some (.int r)) := by
  refine Ctr.of (cc := cX7_takes) (maxL := 3) (ret := (some .boolean)) (by decide) rfl (Nat.le_of_ble_eq_true rfl) ?_
  intro X C Rk
  replace C : CxOk g X cX7_takes RX7 (Cond.code yX7_takes cX7_takes 3 (some .boolean) :: wsL_law) 3 3 67 := C
  show J g X [(shX7, h0, o0)] 0 [(0, .ref (h0 0)), (1, .int x1)] []
  unfold FX7_takes at hF
  refine j_aload_n C 0 dX7_takes_0 rfl rfl ?_
  refine j_get (v := .int (oV o0 25)) C 0 25 rfl rfl (Nat.le_of_ble_eq_true rfl) rfl rfl in1_X7 (List.mem_cons_of_mem _ mw_15_3) dX7_takes_1 ?_
  by_cases c_12 : (oV o0 25) = 0
  · have hF := (if_pos c_12).symm.trans hF
    refine j_tableIn (off := 28) C 32 dX7_takes_4 (by rw [c_12]; decide) (by rw [c_12]; decide) (by rw [c_12]; rfl) rfl ?_
    refine j_aload_n C 0 dX7_takes_32 rfl rfl ?_
    refine j_iload_n C 1 dX7_takes_33 rfl rfl ?_
    obtain ⟨r_29, o0_30, k_31, hF⟩ := gb2 hF
    refine j_callVi C (os' := [(shX7, h0, o0_30)]) [.int x1] (kX7_takesTree g h0 x1 o0 k_31) [0] rfl rfl rfl rfl 0 rfl rfl (wl_gV mw_15_10 mw_15_11 mw_15_12 mw_1_5 mw_15_13) rfl 1 rfl hd_X7_takesTree ⟨Nat.le_of_ble_eq_true rfl, Nat.le_of_ble_eq_true rfl⟩ (Nat.le_of_ble_eq_true rfl) rfl dX7_takes_34 ?_
    obtain ⟨z_32, hF⟩ := gi hF
    cases hF
    exact j_zret C (nb_of z_32) Rk dX7_takes_37
  · have hF := (if_neg c_12).symm.trans hF
    by_cases c_13 : (oV o0 25) = 1
    · have hF := (if_pos c_13).symm.trans hF
      refine j_tableIn (off := 34) C 38 dX7_takes_4 (by rw [c_13]; decide) (by rw [c_13]; decide) (by rw [c_13]; rfl) rfl ?_
      refine j_aload_n C 0 dX7_takes_38 rfl rfl ?_
      refine j_iload_n C 1 dX7_takes_39 rfl rfl ?_
      refine j_bipush (v := (61 : Int32)) C dX7_takes_40 rfl ?_
      refine j_icmp_ne C 49 dX7_takes_42 rfl (fun c_28 => ?_) (fun c_28 => ?_)
      · have hF := (if_neg c_28).symm.trans hF
        refine j_iconst (v := (1 : Int32)) C dX7_takes_49 rfl ?_
        obtain ⟨o0_26, e_25, hF⟩ := glT hF
        refine j_putV C tyX7_ok nmX7 0 25 rfl rfl (Nat.le_of_ble_eq_true rfl) rfl in1_X7 (List.mem_cons_of_mem _ mw_15_3) rfl fd_X7_25 rfl rfl [(shX7, h0, o0_26)] (by rw [e_25]; rfl) dX7_takes_50 ?_
        refine j_iload_n C 1 dX7_takes_53 rfl rfl ?_
        refine j_bipush (v := (61 : Int32)) C dX7_takes_54 rfl ?_
        refine j_icmp_ne C 63 dX7_takes_56 rfl (fun c_27 => ?_) (fun c_27 => ?_)
        · have hF := (if_neg c_27).symm.trans hF
          refine j_iconst (v := (0 : Int32)) C dX7_takes_63 rfl ?_
          cases hF
          exact j_zret C rfl Rk dX7_takes_64
        · have hF := (if_pos c_27).symm.trans hF
          refine j_iconst (v := (1 : Int32)) C dX7_takes_59 rfl ?_
          refine j_goto C 64 dX7_takes_60 rfl ?_
          cases hF
          exact j_zret C rfl Rk dX7_takes_64
      · have hF := (if_pos c_28).symm.trans hF
        refine j_iconst (v := (0 : Int32)) C dX7_takes_45 rfl ?_
        refine j_goto C 50 dX7_takes_46 rfl ?_
        obtain ⟨o0_23, e_22, hF⟩ := glT hF
        refine j_putV C tyX7_ok nmX7 0 25 rfl rfl (Nat.le_of_ble_eq_true rfl) rfl in1_X7 (List.mem_cons_of_mem _ mw_15_3) rfl fd_X7_25 rfl rfl [(shX7, h0, o0_23)] (by rw [e_22]; rfl) dX7_takes_50 ?_
        refine j_iload_n C 1 dX7_takes_53 rfl rfl ?_
        refine j_bipush (v := (61 : Int32)) C dX7_takes_54 rfl ?_
        refine j_icmp_ne C 63 dX7_takes_56 rfl (fun c_24 => ?_) (fun c_24 => ?_)
        · have hF := (if_neg c_24).symm.trans hF
          refine j_iconst (v := (0 : Int32)) C dX7_takes_63 rfl ?_
          cases hF
          exact j_zret C rfl Rk dX7_takes_64
        · have hF := (if_pos c_24).symm.trans hF
          refine j_iconst (v := (1 : Int32)) C dX7_takes_59 rfl ?_
          refine j_goto C 64 dX7_takes_60 rfl ?_
          cases hF
          exact j_zret C rfl Rk dX7_takes_64
    · have hF := (if_neg c_13).symm.trans hF
      by_cases c_14 : (oV o0 25) = 2
      · have hF := (if_pos c_14).symm.trans hF
        refine j_tableIn (off := 61) C 65 dX7_takes_4 (by rw [c_14]; decide) (by rw [c_14]; decide) (by rw [c_14]; rfl) rfl ?_
        refine j_aload_n C 0 dX7_takes_65 rfl rfl ?_
        refine j_iload_n C 1 dX7_takes_66 rfl rfl ?_
        refine j_bipush (v := (44 : Int32)) C dX7_takes_67 rfl ?_
        refine j_icmp_ne C 76 dX7_takes_69 rfl (fun c_21 => ?_) (fun c_21 => ?_)
        · have hF := (if_neg c_21).symm.trans hF
          refine j_iconst (v := (2 : Int32)) C dX7_takes_76 rfl ?_
          obtain ⟨o0_19, e_18, hF⟩ := glT hF
          refine j_putV C tyX7_ok nmX7 0 25 rfl rfl (Nat.le_of_ble_eq_true rfl) rfl in1_X7 (List.mem_cons_of_mem _ mw_15_3) rfl fd_X7_25 rfl rfl [(shX7, h0, o0_19)] (by rw [e_18]; rfl) dX7_takes_77 ?_
          refine j_iload_n C 1 dX7_takes_80 rfl rfl ?_
          refine j_bipush (v := (44 : Int32)) C dX7_takes_81 rfl ?_
          refine j_icmp_ne C 90 dX7_takes_83 rfl (fun c_20 => ?_) (fun c_20 => ?_)
          · have hF := (if_neg c_20).symm.trans hF
            refine j_iconst (v := (0 : Int32)) C dX7_takes_90 rfl ?_
            cases hF
            exact j_zret C rfl Rk dX7_takes_91
          · have hF := (if_pos c_20).symm.trans hF
            refine j_iconst (v := (1 : Int32)) C dX7_takes_86 rfl ?_
            refine j_goto C 91 dX7_takes_87 rfl ?_
            cases hF
            exact j_zret C rfl Rk dX7_takes_91
        · have hF := (if_pos c_21).symm.trans hF
          refine j_iconst (v := (0 : Int32)) C dX7_takes_72 rfl ?_
          refine j_goto C 77 dX7_takes_73 rfl ?_
          obtain ⟨o0_16, e_15, hF⟩ := glT hF
          refine j_putV C tyX7_ok nmX7 0 25 rfl rfl (Nat.le_of_ble_eq_true rfl) rfl in1_X7 (List.mem_cons_of_mem _ mw_15_3) rfl fd_X7_25 rfl rfl [(shX7, h0, o0_16)] (by rw [e_15]; rfl) dX7_takes_77 ?_
          refine j_iload_n C 1 dX7_takes_80 rfl rfl ?_
          refine j_bipush (v := (44 : Int32)) C dX7_takes_81 rfl ?_
          refine j_icmp_ne C 90 dX7_takes_83 rfl (fun c_17 => ?_) (fun c_17 => ?_)
          · have hF := (if_neg c_17).symm.trans hF
            refine j_iconst (v := (0 : Int32)) C dX7_takes_90 rfl ?_
            cases hF
            exact j_zret C rfl Rk dX7_takes_91
          · have hF := (if_pos c_17).symm.trans hF
            refine j_iconst (v := (1 : Int32)) C dX7_takes_86 rfl ?_
            refine j_goto C 91 dX7_takes_87 rfl ?_
            cases hF
            exact j_zret C rfl Rk dX7_takes_91
      · have hF := (if_neg c_14).symm.trans hF
        refine j_tableOut C 92 dX7_takes_4 (by have q0 := ne_i c_12 (a := 0) rfl; have q1 := ne_i c_13 (a := 1) rfl; have q2 := ne_i c_14 (a := 2) rfl; omega) rfl ?_
        refine j_aload_n C 0 dX7_takes_92 rfl rfl ?_
        refine j_get (v := .ref (h0 19)) C 0 18 rfl rfl (Nat.le_of_ble_eq_true rfl) rfl rfl in1_X7 (List.mem_cons_of_mem _ mw_5_2) dX7_takes_93 ?_
        refine j_aload_n C 0 dX7_takes_96 rfl rfl ?_
        refine j_get (v := .int (oV o0 20)) C 0 20 rfl rfl (Nat.le_of_ble_eq_true rfl) rfl rfl in1_X7 (List.mem_cons_of_mem _ mw_15_1) dX7_takes_97 ?_
        refine j_iconst (v := (1 : Int32)) C dX7_takes_100 rfl ?_
        refine j_isub C dX7_takes_101 ?_
        obtain ⟨z_1, hF⟩ := gi hF
        refine j_iald C 0 18 rfl rfl z_1 dX7_takes_102 ?_
        obtain ⟨x2_2, e_3, hF⟩ := glT hF
        refine j_istore_n C [(2, .int x2_2), (0, .ref (h0 0)), (1, .int x1)] dX7_takes_103 rfl (Nat.le_of_ble_eq_true rfl) e_3 rfl ?_
        refine j_iload_n C 2 dX7_takes_104 rfl rfl ?_
        refine j_aload_n C 1 dX7_takes_105 rfl rfl ?_
        refine j_get (v := .ref (h0 23)) C 0 22 rfl rfl (Nat.le_of_ble_eq_true rfl) rfl rfl in1_X7 (List.mem_cons_of_mem _ mw_5_4) dX7_takes_106 ?_
        refine j_iload_n C 0 dX7_takes_109 rfl rfl ?_
        obtain ⟨z_4, hF⟩ := gi hF
        refine j_iald C 0 22 rfl rfl z_4 dX7_takes_110 ?_
        obtain ⟨r_5, k_6, hF⟩ := gb1 hF
        refine j_callSi C (os' := [(shX7, h0, o0)]) [.int (oA o0 22 x2_2.toNatClampNeg)] (kX7_closing g (oA o0 22 x2_2.toNatClampNeg) k_6) [] rfl rfl rfl rfl (wl_gS mw_16_2 mw_16_3 mw_1_5 mw_16_4) rfl 1 rfl hd_X7_closing ⟨Nat.le_of_ble_eq_true rfl, Nat.le_of_ble_eq_true rfl⟩ (Nat.le_of_ble_eq_true rfl) rfl dX7_takes_111 ?_
        refine j_icmp_eq C 119 dX7_takes_114 rfl (fun c_11 => ?_) (fun c_11 => ?_)
        · have hF := (if_pos c_11).symm.trans hF
          refine j_aload_n C 1 dX7_takes_119 rfl rfl ?_
          refine j_dup C rfl dX7_takes_120 ?_
          refine j_get (v := .int (oV o0 20)) C 0 20 rfl rfl (Nat.le_of_ble_eq_true rfl) rfl rfl in1_X7 (List.mem_cons_of_mem _ mw_15_1) dX7_takes_121 ?_
          refine j_iconst (v := (1 : Int32)) C dX7_takes_124 rfl ?_
          refine j_isub C dX7_takes_125 ?_
          obtain ⟨o0_8, e_7, hF⟩ := glT hF
          refine j_putV C tyX7_ok nmX7 0 20 rfl rfl (Nat.le_of_ble_eq_true rfl) rfl in1_X7 (List.mem_cons_of_mem _ mw_15_1) rfl fd_X7_20 rfl rfl [(shX7, h0, o0_8)] (by rw [e_7]; rfl) dX7_takes_126 ?_
          refine j_aload_n C 1 dX7_takes_129 rfl rfl ?_
          refine j_iconst (v := (3 : Int32)) C dX7_takes_130 rfl ?_
          refine j_iload_n C 0 dX7_takes_131 rfl rfl ?_
          refine j_imul C dX7_takes_132 ?_
          obtain ⟨o0_9, k_10, hF⟩ := gb1 hF
          refine j_callVv C (os' := [(shX7, h0, o0_9)]) [.int ((3 : Int32) * x2_2)] (kX7_treeIs g h0 ((3 : Int32) * x2_2) o0_8 k_10) [0] rfl rfl rfl rfl 0 rfl rfl (wl_gV mw_15_17 mw_15_18 mw_15_19 mw_1_5 mw_15_20) rfl 1 rfl hd_X7_treeIs ⟨Nat.le_of_ble_eq_true rfl, Nat.le_of_ble_eq_true rfl⟩ (Nat.le_of_ble_eq_true rfl) rfl dX7_takes_133 ?_
          refine j_iconst (v := (1 : Int32)) C dX7_takes_136 rfl ?_
          cases hF
          exact j_zret C rfl Rk dX7_takes_137
        · have hF := (if_neg c_11).symm.trans hF
          refine j_iconst (v := (0 : Int32)) C dX7_takes_117 rfl ?_
          cases hF
          exact j_zret C rfl Rk dX7_takes_118
/-! HeadsMeetModel.read -/
def LX7_read_22 (E41 : Ob → Option (Int32 × Ob)) : Nat → Int32 → Ob → Option (Int32 × Ob)
  | 0, _, _ => none
  | n + 1, x1, o0 =>
    if (8 : Int32) ≤ x1 then
      E41 o0
    else
      if inb x1 8 then
      lT (sA o0 24 x1.toNatClampNeg (0 : Int32)) fun o0_11 =>
      lT (x1 + (1 : Int32)) fun x1_12 =>
      LX7_read_22 E41 n x1_12 o0_11
      else none
def LX7_read_43 (E70 : Int32 → Ob → Option (Int32 × Ob)) : Nat → Int32 → Ob → Option (Int32 × Ob)
  | 0, _, _ => none
  | n + 1, x1, o0 =>
    if (oV o0 11) ≤ x1 then
      E70 x1 o0
    else
      if inb x1 80 then
      b2 (FX7_takes (oA o0 12 x1.toNatClampNeg) o0) fun r_17 o0_18 =>
      if r_17 = 0 then
        E70 x1 o0_18
      else
        lT (x1 + (1 : Int32)) fun x1_20 =>
        LX7_read_43 E70 n x1_20 o0_18
      else none
def BX7_read_70 (x1 : Int32) (o0 : Ob) : Option (Int32 × Ob) :=
  if x1 = (oV o0 11) then
    if x1 ≤ 0 then
      lT (sV o0 28 (0 : Int32)) fun o0_32 =>
      some (x1, o0_32)
    else
      if (oV o0 25) = (2 : Int32) then
        lT (sV o0 28 (1 : Int32)) fun o0_27 =>
        some (x1, o0_27)
      else
        lT (sV o0 28 (0 : Int32)) fun o0_29 =>
        some (x1, o0_29)
  else
    lT (sV o0 28 (0 : Int32)) fun o0_35 =>
    some (x1, o0_35)
def FX7_read  (o0 : Ob) : Option (Int32 × Ob) :=
  lT (sV o0 20 (0 : Int32)) fun o0_2 =>
  lT (sV o0_2 21 (0 : Int32)) fun o0_4 =>
  lT (sV o0_4 25 (0 : Int32)) fun o0_6 =>
  lT (sV o0_6 26 (0 : Int32)) fun o0_8 =>
  LX7_read_22 (fun o0_15 =>
   LX7_read_43 (fun x1_24 o0_25 =>
    BX7_read_70 x1_24 o0_25) fu (0 : Int32) o0_15) fu (0 : Int32) o0_8
set_option maxRecDepth 100000 in
set_option maxHeartbeats 4000000 in
theorem lX7_read_22 {g : Gl} {X : Cxt} (C : CxOk g X cX7_read RX7 (Cond.code yX7_read cX7_read 2 (some .int) :: wsL_law) 2 4 89) {r : Int32} {o0' : Ob} (h0 : Nat → Nat)  (E41 : Ob → Option (Int32 × Ob)) (Rk : RetOk g X [(shX7, h0, o0')] (some (.int r)) (some .int)) (hE41 : ∀ (o0 : Ob), E41 o0 = some (r, o0') → J g X [(shX7, h0, o0)] 41 [(0, .ref (h0 0))] []) : ∀ (n : Nat) (x1 : Int32) (o0 : Ob), LX7_read_22 E41 n x1 o0 = some (r, o0') → J g X [(shX7, h0, o0)] 22 [(0, .ref (h0 0)), (1, .int x1)] [] := by
  intro n
  induction n with
  | zero =>
    intro x1 o0 hF
    cases hF
  | succ n ih =>
    intro x1 o0 hF
    rw [LX7_read_22.eq_2] at hF
    refine j_iload_n C 1 dX7_read_22 rfl rfl ?_
    refine j_bipush (v := (8 : Int32)) C dX7_read_23 rfl ?_
    refine j_icmp_ge C 41 dX7_read_25 rfl (fun c_14 => ?_) (fun c_14 => ?_)
    · have hF := (if_pos c_14).symm.trans hF
      refine j_sub [(0, .ref (h0 0))] [0] rfl ?_
      exact hE41 _ hF
    · have hF := (if_neg c_14).symm.trans hF
      refine j_aload_n C 0 dX7_read_28 rfl rfl ?_
      refine j_get (v := .ref (h0 25)) C 0 24 rfl rfl (Nat.le_of_ble_eq_true rfl) rfl rfl in1_X7 (List.mem_cons_of_mem _ mw_5_6) dX7_read_29 ?_
      refine j_iload_n C 1 dX7_read_32 rfl rfl ?_
      refine j_iconst (v := (0 : Int32)) C dX7_read_33 rfl ?_
      obtain ⟨z_9, hF⟩ := gi hF
      obtain ⟨o0_11, e_10, hF⟩ := glT hF
      refine j_iast C 0 24 rfl rfl z_9 [(shX7, h0, o0_11)] (by rw [e_10]; rfl) dX7_read_34 ?_
      obtain ⟨x1_12, e_13, hF⟩ := glT hF
      refine j_iinc C 1 [(1, .int x1_12), (0, .ref (h0 0))] dX7_read_35 rfl e_13.symm (Nat.le_of_ble_eq_true rfl) rfl ?_
      refine j_goto C 22 dX7_read_38 rfl ?_
      refine j_sub [(0, .ref (h0 0)), (1, .int x1_12)] [1, 0] rfl ?_
      exact ih _ _ hF
set_option maxRecDepth 100000 in
set_option maxHeartbeats 4000000 in
theorem lX7_read_43 {g : Gl} {X : Cxt} (C : CxOk g X cX7_read RX7 (Cond.code yX7_read cX7_read 2 (some .int) :: wsL_law) 2 4 89) {r : Int32} {o0' : Ob} (h0 : Nat → Nat)  (E70 : Int32 → Ob → Option (Int32 × Ob)) (Rk : RetOk g X [(shX7, h0, o0')] (some (.int r)) (some .int)) (hE70 : ∀ (x1 : Int32) (o0 : Ob), E70 x1 o0 = some (r, o0') → J g X [(shX7, h0, o0)] 70 [(0, .ref (h0 0)), (1, .int x1)] []) : ∀ (n : Nat) (x1 : Int32) (o0 : Ob), LX7_read_43 E70 n x1 o0 = some (r, o0') → J g X [(shX7, h0, o0)] 43 [(0, .ref (h0 0)), (1, .int x1)] [] := by
  intro n
  induction n with
  | zero =>
    intro x1 o0 hF
    cases hF
  | succ n ih =>
    intro x1 o0 hF
    rw [LX7_read_43.eq_2] at hF
    refine j_iload_n C 1 dX7_read_43 rfl rfl ?_
    refine j_aload_n C 0 dX7_read_44 rfl rfl ?_
    refine j_get (v := .int (oV o0 11)) C 0 11 rfl rfl (Nat.le_of_ble_eq_true rfl) rfl rfl in1_X7 (List.mem_cons_of_mem _ mw_6_17) dX7_read_45 ?_
    refine j_icmp_ge C 70 dX7_read_48 rfl (fun c_23 => ?_) (fun c_23 => ?_)
    · have hF := (if_pos c_23).symm.trans hF
      exact hE70 _ _ hF
    · have hF := (if_neg c_23).symm.trans hF
      refine j_aload_n C 0 dX7_read_51 rfl rfl ?_
      refine j_aload_n C 0 dX7_read_52 rfl rfl ?_
      refine j_get (v := .ref (h0 13)) C 0 12 rfl rfl (Nat.le_of_ble_eq_true rfl) rfl rfl in1_X7 (List.mem_cons_of_mem _ mw_4_19) dX7_read_53 ?_
      refine j_iload_n C 1 dX7_read_56 rfl rfl ?_
      obtain ⟨z_16, hF⟩ := gi hF
      refine j_bald C 0 12 rfl rfl z_16 dX7_read_57 ?_
      obtain ⟨r_17, o0_18, k_19, hF⟩ := gb2 hF
      refine j_callVi C (os' := [(shX7, h0, o0_18)]) [.int (oA o0 12 x1.toNatClampNeg)] (kX7_takes g h0 (oA o0 12 x1.toNatClampNeg) o0 k_19) [0] rfl rfl rfl rfl 0 rfl rfl (wl_gV mw_15_6 mw_15_7 mw_15_8 mw_1_5 mw_15_9) rfl 1 rfl hd_X7_takes ⟨Nat.le_of_ble_eq_true rfl, Nat.le_of_ble_eq_true rfl⟩ (Nat.le_of_ble_eq_true rfl) rfl dX7_read_58 ?_
      refine j_if_eq C 70 dX7_read_61 rfl (fun c_22 => ?_) (fun c_22 => ?_)
      · have hF := (if_pos c_22).symm.trans hF
        exact hE70 _ _ hF
      · have hF := (if_neg c_22).symm.trans hF
        obtain ⟨x1_20, e_21, hF⟩ := glT hF
        refine j_iinc C 1 [(1, .int x1_20), (0, .ref (h0 0))] dX7_read_64 rfl e_21.symm (Nat.le_of_ble_eq_true rfl) rfl ?_
        refine j_goto C 43 dX7_read_67 rfl ?_
        refine j_sub [(0, .ref (h0 0)), (1, .int x1_20)] [1, 0] rfl ?_
        exact ih _ _ hF
set_option maxRecDepth 100000 in
set_option maxHeartbeats 4000000 in
theorem bX7_read_70 {g : Gl} {X : Cxt} (C : CxOk g X cX7_read RX7 (Cond.code yX7_read cX7_read 2 (some .int) :: wsL_law) 2 4 89) {r : Int32} {o0' : Ob} (h0 : Nat → Nat) (x1 : Int32) (o0 : Ob)  (Rk : RetOk g X [(shX7, h0, o0')] (some (.int r)) (some .int))  (hF : BX7_read_70  x1 o0 = some (r, o0')) : J g X [(shX7, h0, o0)] 70 [(0, .ref (h0 0)), (1, .int x1)] [] := by
  unfold BX7_read_70 at hF
  refine j_aload_n C 0 dX7_read_70 rfl rfl ?_
  refine j_iload_n C 1 dX7_read_71 rfl rfl ?_
  refine j_aload_n C 0 dX7_read_72 rfl rfl ?_
  refine j_get (v := .int (oV o0 11)) C 0 11 rfl rfl (Nat.le_of_ble_eq_true rfl) rfl rfl in1_X7 (List.mem_cons_of_mem _ mw_6_17) dX7_read_73 ?_
  refine j_icmp_ne C 95 dX7_read_76 rfl (fun c_36 => ?_) (fun c_36 => ?_)
  · have hF := (if_neg c_36).symm.trans hF
    refine j_iconst (v := (0 : Int32)) C dX7_read_95 rfl ?_
    obtain ⟨o0_35, e_34, hF⟩ := glT hF
    refine j_putV C tyX7_ok nmX7 0 28 rfl rfl (Nat.le_of_ble_eq_true rfl) rfl in1_X7 (List.mem_cons_of_mem _ mw_15_5) rfl fd_X7_28 rfl rfl [(shX7, h0, o0_35)] (by rw [e_34]; rfl) dX7_read_96 ?_
    refine j_iload_n C 1 dX7_read_99 rfl rfl ?_
    cases hF
    exact j_iret C Rk dX7_read_100
  · have hF := (if_pos c_36).symm.trans hF
    refine j_iload_n C 1 dX7_read_79 rfl rfl ?_
    refine j_if_le C 95 dX7_read_80 rfl (fun c_33 => ?_) (fun c_33 => ?_)
    · have hF := (if_pos c_33).symm.trans hF
      refine j_iconst (v := (0 : Int32)) C dX7_read_95 rfl ?_
      obtain ⟨o0_32, e_31, hF⟩ := glT hF
      refine j_putV C tyX7_ok nmX7 0 28 rfl rfl (Nat.le_of_ble_eq_true rfl) rfl in1_X7 (List.mem_cons_of_mem _ mw_15_5) rfl fd_X7_28 rfl rfl [(shX7, h0, o0_32)] (by rw [e_31]; rfl) dX7_read_96 ?_
      refine j_iload_n C 1 dX7_read_99 rfl rfl ?_
      cases hF
      exact j_iret C Rk dX7_read_100
    · have hF := (if_neg c_33).symm.trans hF
      refine j_aload_n C 0 dX7_read_83 rfl rfl ?_
      refine j_get (v := .int (oV o0 25)) C 0 25 rfl rfl (Nat.le_of_ble_eq_true rfl) rfl rfl in1_X7 (List.mem_cons_of_mem _ mw_15_3) dX7_read_84 ?_
      refine j_iconst (v := (2 : Int32)) C dX7_read_87 rfl ?_
      refine j_icmp_ne C 95 dX7_read_88 rfl (fun c_30 => ?_) (fun c_30 => ?_)
      · have hF := (if_neg c_30).symm.trans hF
        refine j_iconst (v := (0 : Int32)) C dX7_read_95 rfl ?_
        obtain ⟨o0_29, e_28, hF⟩ := glT hF
        refine j_putV C tyX7_ok nmX7 0 28 rfl rfl (Nat.le_of_ble_eq_true rfl) rfl in1_X7 (List.mem_cons_of_mem _ mw_15_5) rfl fd_X7_28 rfl rfl [(shX7, h0, o0_29)] (by rw [e_28]; rfl) dX7_read_96 ?_
        refine j_iload_n C 1 dX7_read_99 rfl rfl ?_
        cases hF
        exact j_iret C Rk dX7_read_100
      · have hF := (if_pos c_30).symm.trans hF
        refine j_iconst (v := (1 : Int32)) C dX7_read_91 rfl ?_
        refine j_goto C 96 dX7_read_92 rfl ?_
        obtain ⟨o0_27, e_26, hF⟩ := glT hF
        refine j_putV C tyX7_ok nmX7 0 28 rfl rfl (Nat.le_of_ble_eq_true rfl) rfl in1_X7 (List.mem_cons_of_mem _ mw_15_5) rfl fd_X7_28 rfl rfl [(shX7, h0, o0_27)] (by rw [e_26]; rfl) dX7_read_96 ?_
        refine j_iload_n C 1 dX7_read_99 rfl rfl ?_
        cases hF
        exact j_iret C Rk dX7_read_100
set_option maxRecDepth 100000 in
set_option maxHeartbeats 4000000 in
theorem kX7_read (g : Gl) (h0 : Nat → Nat)  (o0 : Ob) {r : Int32} {o0' : Ob} (hF : FX7_read o0 = some (r, o0')) : Ctr g yX7_read (Cond.code yX7_read cX7_read 2 (some .int) :: wsL_law) 4 89 [(shX7, h0, o0)] [(shX7, h0, o0')] [.ref (h0 0)] (some (.int r)) := by
  refine Ctr.of (cc := cX7_read) (maxL := 2) (ret := (some .int)) (by decide) rfl (Nat.le_of_ble_eq_true rfl) ?_
  intro X C Rk
  replace C : CxOk g X cX7_read RX7 (Cond.code yX7_read cX7_read 2 (some .int) :: wsL_law) 2 4 89 := C
  show J g X [(shX7, h0, o0)] 0 [(0, .ref (h0 0))] []
  unfold FX7_read at hF
  refine j_aload_n C 0 dX7_read_0 rfl rfl ?_
  refine j_iconst (v := (0 : Int32)) C dX7_read_1 rfl ?_
  obtain ⟨o0_2, e_1, hF⟩ := glT hF
  refine j_putV C tyX7_ok nmX7 0 20 rfl rfl (Nat.le_of_ble_eq_true rfl) rfl in1_X7 (List.mem_cons_of_mem _ mw_15_1) rfl fd_X7_20 rfl rfl [(shX7, h0, o0_2)] (by rw [e_1]; rfl) dX7_read_2 ?_
  refine j_aload_n C 0 dX7_read_5 rfl rfl ?_
  refine j_iconst (v := (0 : Int32)) C dX7_read_6 rfl ?_
  obtain ⟨o0_4, e_3, hF⟩ := glT hF
  refine j_putV C tyX7_ok nmX7 0 21 rfl rfl (Nat.le_of_ble_eq_true rfl) rfl in1_X7 (List.mem_cons_of_mem _ mw_15_2) rfl fd_X7_21 rfl rfl [(shX7, h0, o0_4)] (by rw [e_3]; rfl) dX7_read_7 ?_
  refine j_aload_n C 0 dX7_read_10 rfl rfl ?_
  refine j_iconst (v := (0 : Int32)) C dX7_read_11 rfl ?_
  obtain ⟨o0_6, e_5, hF⟩ := glT hF
  refine j_putV C tyX7_ok nmX7 0 25 rfl rfl (Nat.le_of_ble_eq_true rfl) rfl in1_X7 (List.mem_cons_of_mem _ mw_15_3) rfl fd_X7_25 rfl rfl [(shX7, h0, o0_6)] (by rw [e_5]; rfl) dX7_read_12 ?_
  refine j_aload_n C 0 dX7_read_15 rfl rfl ?_
  refine j_iconst (v := (0 : Int32)) C dX7_read_16 rfl ?_
  obtain ⟨o0_8, e_7, hF⟩ := glT hF
  refine j_putV C tyX7_ok nmX7 0 26 rfl rfl (Nat.le_of_ble_eq_true rfl) rfl in1_X7 (List.mem_cons_of_mem _ mw_15_4) rfl fd_X7_26 rfl rfl [(shX7, h0, o0_8)] (by rw [e_7]; rfl) dX7_read_17 ?_
  refine j_iconst (v := (0 : Int32)) C dX7_read_20 rfl ?_
  refine j_istore_n C [(1, .int (0 : Int32)), (0, .ref (h0 0))] dX7_read_21 rfl (Nat.le_of_ble_eq_true rfl) rfl rfl ?_
  refine j_sub [(0, .ref (h0 0)), (1, .int (0 : Int32))] [1, 0] rfl ?_
  refine lX7_read_22 C h0  _ Rk (fun o0_15 hF => ?_) _ _ _ hF
  refine j_iconst (v := (0 : Int32)) C dX7_read_41 rfl ?_
  refine j_istore_n C [(1, .int (0 : Int32)), (0, .ref (h0 0))] dX7_read_42 rfl (Nat.le_of_ble_eq_true rfl) rfl rfl ?_
  refine j_sub [(0, .ref (h0 0)), (1, .int (0 : Int32))] [1, 0] rfl ?_
  refine lX7_read_43 C h0  _ Rk (fun x1_24 o0_25 hF => ?_) _ _ _ hF
  exact bX7_read_70 C h0 _ _ Rk  hF
/-! HeadsMeetModel.fault -/
def FX7_fault  (o0 : Ob) : Option (Int32 × Ob) :=
  b2 (FX7_read o0) fun r_1 o0_2 =>
  some (r_1, o0_2)
set_option maxRecDepth 100000 in
set_option maxHeartbeats 4000000 in
theorem kX7_fault (g : Gl) (h0 : Nat → Nat)  (o0 : Ob) {r : Int32} {o0' : Ob} (hF : FX7_fault o0 = some (r, o0')) : Ctr g yX7_fault (Cond.code yX7_fault cX7_fault 1 (some .int) :: wsL_law) 5 110 [(shX7, h0, o0)] [(shX7, h0, o0')] [.ref (h0 0)] (some (.int r)) := by
  refine Ctr.of (cc := cX7_fault) (maxL := 1) (ret := (some .int)) (by decide) rfl (Nat.le_of_ble_eq_true rfl) ?_
  intro X C Rk
  replace C : CxOk g X cX7_fault RX7 (Cond.code yX7_fault cX7_fault 1 (some .int) :: wsL_law) 1 5 110 := C
  show J g X [(shX7, h0, o0)] 0 [(0, .ref (h0 0))] []
  unfold FX7_fault at hF
  refine j_aload_n C 0 dX7_fault_0 rfl rfl ?_
  obtain ⟨r_1, o0_2, k_3, hF⟩ := gb2 hF
  refine j_callVi C (os' := [(shX7, h0, o0_2)]) [] (kX7_read g h0 o0 k_3) [0] rfl rfl rfl rfl 0 rfl rfl (wl_gV mw_14_21 mw_14_22 mw_14_23 mw_1_5 mw_15_0) rfl 0 rfl hd_X7_read ⟨Nat.le_of_ble_eq_true rfl, Nat.le_of_ble_eq_true rfl⟩ (Nat.le_of_ble_eq_true rfl) rfl dX7_fault_1 ?_
  cases hF
  exact j_iret C Rk dX7_fault_4
/-! HeadsMeetModel.otherEnd -/
def LX7_otherEnd_2  : Nat → Int32 → Ob → Option (Int32 × Ob)
  | 0, _, _ => none
  | n + 1, x2, o0 =>
    if x2 < (540 : Int32) then
      some (x2, o0)
    else
      lT (x2 - (540 : Int32)) fun x3_1 =>
      if inb x3_1 16 then
      lT (sA o0 29 x3_1.toNatClampNeg (vp_nar .boolean (1 : Int32))) fun o0_5 =>
      if inb (x3_1 / (2 : Int32)) 8 then
      if (oA o0_5 24 (x3_1 / (2 : Int32)).toNatClampNeg) = (1 : Int32) then
        some ((900 : Int32) + (x3_1 / (2 : Int32)), o0_5)
      else
        if inb (x3_1 ^^^ (1 : Int32)) 16 then
        lT (sA o0_5 29 (x3_1 ^^^ (1 : Int32)).toNatClampNeg (vp_nar .boolean (1 : Int32))) fun o0_9 =>
        if inb ((540 : Int32) + (x3_1 ^^^ (1 : Int32))) 556 then
        lT (oA o0_9 23 ((540 : Int32) + (x3_1 ^^^ (1 : Int32))).toNatClampNeg) fun x2_11 =>
        LX7_otherEnd_2 n x2_11 o0_9
        else none
        else none
      else none
      else none
def FX7_otherEnd (x1 : Int32) (o0 : Ob) : Option (Int32 × Ob) :=
  LX7_otherEnd_2  fu x1 o0
set_option maxRecDepth 100000 in
set_option maxHeartbeats 4000000 in
theorem lX7_otherEnd_2 {g : Gl} {X : Cxt} (C : CxOk g X cX7_otherEnd RX7 (Cond.code yX7_otherEnd cX7_otherEnd 4 (some .int) :: wsL_law) 4 0 0) {r : Int32} {o0' : Ob} (h0 : Nat → Nat)   (Rk : RetOk g X [(shX7, h0, o0')] (some (.int r)) (some .int))  : ∀ (n : Nat) (x2 : Int32) (o0 : Ob), LX7_otherEnd_2  n x2 o0 = some (r, o0') → J g X [(shX7, h0, o0)] 2 [(0, .ref (h0 0)), (2, .int x2)] [] := by
  intro n
  induction n with
  | zero =>
    intro x2 o0 hF
    cases hF
  | succ n ih =>
    intro x2 o0 hF
    rw [LX7_otherEnd_2.eq_2] at hF
    refine j_iload_n C 1 dX7_otherEnd_2 rfl rfl ?_
    refine j_sipush (v := (540 : Int32)) C dX7_otherEnd_3 rfl ?_
    refine j_icmp_lt C 67 dX7_otherEnd_6 rfl (fun c_14 => ?_) (fun c_14 => ?_)
    · have hF := (if_pos c_14).symm.trans hF
      refine j_iload_n C 1 dX7_otherEnd_67 rfl rfl ?_
      cases hF
      exact j_iret C Rk dX7_otherEnd_68
    · have hF := (if_neg c_14).symm.trans hF
      refine j_iload_n C 1 dX7_otherEnd_9 rfl rfl ?_
      refine j_sipush (v := (540 : Int32)) C dX7_otherEnd_10 rfl ?_
      refine j_isub C dX7_otherEnd_13 ?_
      obtain ⟨x3_1, e_2, hF⟩ := glT hF
      refine j_istore_n C [(3, .int x3_1), (0, .ref (h0 0)), (2, .int x2)] dX7_otherEnd_14 rfl (Nat.le_of_ble_eq_true rfl) e_2 rfl ?_
      refine j_aload_n C 1 dX7_otherEnd_15 rfl rfl ?_
      refine j_get (v := .ref (h0 30)) C 0 29 rfl rfl (Nat.le_of_ble_eq_true rfl) rfl rfl in1_X7 (List.mem_cons_of_mem _ mw_5_7) dX7_otherEnd_16 ?_
      refine j_iload_n C 0 dX7_otherEnd_19 rfl rfl ?_
      refine j_iconst (v := (1 : Int32)) C dX7_otherEnd_20 rfl ?_
      obtain ⟨z_3, hF⟩ := gi hF
      obtain ⟨o0_5, e_4, hF⟩ := glT hF
      refine j_zast C 0 29 rfl rfl z_3 [(shX7, h0, o0_5)] (by rw [e_4]; rfl) dX7_otherEnd_21 ?_
      refine j_aload_n C 1 dX7_otherEnd_22 rfl rfl ?_
      refine j_get (v := .ref (h0 25)) C 0 24 rfl rfl (Nat.le_of_ble_eq_true rfl) rfl rfl in1_X7 (List.mem_cons_of_mem _ mw_5_6) dX7_otherEnd_23 ?_
      refine j_iload_n C 0 dX7_otherEnd_26 rfl rfl ?_
      refine j_iconst (v := (2 : Int32)) C dX7_otherEnd_27 rfl ?_
      refine j_idiv C (by decide) dX7_otherEnd_28 ?_
      obtain ⟨z_6, hF⟩ := gi hF
      refine j_iald C 0 24 rfl rfl z_6 dX7_otherEnd_29 ?_
      refine j_iconst (v := (1 : Int32)) C dX7_otherEnd_30 rfl ?_
      refine j_icmp_ne C 42 dX7_otherEnd_31 rfl (fun c_13 => ?_) (fun c_13 => ?_)
      · have hF := (if_neg c_13).symm.trans hF
        refine j_aload_n C 1 dX7_otherEnd_42 rfl rfl ?_
        refine j_get (v := .ref (h0 30)) C 0 29 rfl rfl (Nat.le_of_ble_eq_true rfl) rfl rfl in1_X7 (List.mem_cons_of_mem _ mw_5_7) dX7_otherEnd_43 ?_
        refine j_iload_n C 0 dX7_otherEnd_46 rfl rfl ?_
        refine j_iconst (v := (1 : Int32)) C dX7_otherEnd_47 rfl ?_
        refine j_ixor C dX7_otherEnd_48 ?_
        refine j_iconst (v := (1 : Int32)) C dX7_otherEnd_49 rfl ?_
        obtain ⟨z_7, hF⟩ := gi hF
        obtain ⟨o0_9, e_8, hF⟩ := glT hF
        refine j_zast C 0 29 rfl rfl z_7 [(shX7, h0, o0_9)] (by rw [e_8]; rfl) dX7_otherEnd_50 ?_
        refine j_aload_n C 1 dX7_otherEnd_51 rfl rfl ?_
        refine j_get (v := .ref (h0 24)) C 0 23 rfl rfl (Nat.le_of_ble_eq_true rfl) rfl rfl in1_X7 (List.mem_cons_of_mem _ mw_5_5) dX7_otherEnd_52 ?_
        refine j_sipush (v := (540 : Int32)) C dX7_otherEnd_55 rfl ?_
        refine j_iload_n C 0 dX7_otherEnd_58 rfl rfl ?_
        refine j_iconst (v := (1 : Int32)) C dX7_otherEnd_59 rfl ?_
        refine j_ixor C dX7_otherEnd_60 ?_
        refine j_iadd C dX7_otherEnd_61 ?_
        obtain ⟨z_10, hF⟩ := gi hF
        refine j_iald C 0 23 rfl rfl z_10 dX7_otherEnd_62 ?_
        obtain ⟨x2_11, e_12, hF⟩ := glT hF
        refine j_istore_n C [(2, .int x2_11), (3, .int x3_1), (0, .ref (h0 0))] dX7_otherEnd_63 rfl (Nat.le_of_ble_eq_true rfl) e_12 rfl ?_
        refine j_goto C 2 dX7_otherEnd_64 rfl ?_
        refine j_sub [(0, .ref (h0 0)), (2, .int x2_11)] [2, 0] rfl ?_
        exact ih _ _ hF
      · have hF := (if_pos c_13).symm.trans hF
        refine j_sipush (v := (900 : Int32)) C dX7_otherEnd_34 rfl ?_
        refine j_iload_n C 0 dX7_otherEnd_37 rfl rfl ?_
        refine j_iconst (v := (2 : Int32)) C dX7_otherEnd_38 rfl ?_
        refine j_idiv C (by decide) dX7_otherEnd_39 ?_
        refine j_iadd C dX7_otherEnd_40 ?_
        cases hF
        exact j_iret C Rk dX7_otherEnd_41
set_option maxRecDepth 100000 in
set_option maxHeartbeats 4000000 in
theorem kX7_otherEnd (g : Gl) (h0 : Nat → Nat) (x1 : Int32) (o0 : Ob) {r : Int32} {o0' : Ob} (hF : FX7_otherEnd x1 o0 = some (r, o0')) : Ctr g yX7_otherEnd (Cond.code yX7_otherEnd cX7_otherEnd 4 (some .int) :: wsL_law) 0 0 [(shX7, h0, o0)] [(shX7, h0, o0')] [.ref (h0 0), .int x1] (some (.int r)) := by
  refine Ctr.of (cc := cX7_otherEnd) (maxL := 4) (ret := (some .int)) (by decide) rfl (Nat.le_of_ble_eq_true rfl) ?_
  intro X C Rk
  replace C : CxOk g X cX7_otherEnd RX7 (Cond.code yX7_otherEnd cX7_otherEnd 4 (some .int) :: wsL_law) 4 0 0 := C
  show J g X [(shX7, h0, o0)] 0 [(0, .ref (h0 0)), (1, .int x1)] []
  unfold FX7_otherEnd at hF
  refine j_iload_n C 1 dX7_otherEnd_0 rfl rfl ?_
  refine j_istore_n C [(2, .int x1), (0, .ref (h0 0)), (1, .int x1)] dX7_otherEnd_1 rfl (Nat.le_of_ble_eq_true rfl) rfl rfl ?_
  refine j_sub [(0, .ref (h0 0)), (2, .int x1)] [1, 0] rfl ?_
  refine lX7_otherEnd_2 C h0  Rk  _ _ _ hF
/-! HeadsMeetModel.ring -/
def LX7_ring_2 (E47 : Ob → Option (Ob)) : Nat → Int32 → Ob → Option (Ob)
  | 0, _, _ => none
  | n + 1, x2, o0 =>
    if inb x2 16 then
    if (oA o0 29 x2.toNatClampNeg) = 0 then
      lT (sA o0 29 x2.toNatClampNeg (vp_nar .boolean (1 : Int32))) fun o0_3 =>
      if inb (x2 ^^^ (1 : Int32)) 16 then
      lT (sA o0_3 29 (x2 ^^^ (1 : Int32)).toNatClampNeg (vp_nar .boolean (1 : Int32))) fun o0_6 =>
      if inb ((540 : Int32) + (x2 ^^^ (1 : Int32))) 556 then
      lT ((oA o0_6 23 ((540 : Int32) + (x2 ^^^ (1 : Int32))).toNatClampNeg) - (540 : Int32)) fun x2_8 =>
      LX7_ring_2 E47 n x2_8 o0_6
      else none
      else none
    else
      E47 o0
    else none
def FX7_ring (x1 : Int32) (o0 : Ob) : Option (Ob) :=
  LX7_ring_2 (fun o0_11 =>
   lT (sA o0_11 3 (0 : Int32).toNatClampNeg ((oA o0_11 3 (0 : Int32).toNatClampNeg) + (1 : Int32))) fun o0_13 =>
   some o0_13) fu x1 o0
set_option maxRecDepth 100000 in
set_option maxHeartbeats 4000000 in
theorem lX7_ring_2 {g : Gl} {X : Cxt} (C : CxOk g X cX7_ring RX7 (Cond.code yX7_ring cX7_ring 3 none :: wsL_law) 3 0 0) {o0' : Ob} (h0 : Nat → Nat)  (E47 : Ob → Option (Ob)) (Rk : RetOk g X [(shX7, h0, o0')] none none) (hE47 : ∀ (o0 : Ob), E47 o0 = some o0' → J g X [(shX7, h0, o0)] 47 [(0, .ref (h0 0))] []) : ∀ (n : Nat) (x2 : Int32) (o0 : Ob), LX7_ring_2 E47 n x2 o0 = some o0' → J g X [(shX7, h0, o0)] 2 [(0, .ref (h0 0)), (2, .int x2)] [] := by
  intro n
  induction n with
  | zero =>
    intro x2 o0 hF
    cases hF
  | succ n ih =>
    intro x2 o0 hF
    rw [LX7_ring_2.eq_2] at hF
    refine j_aload_n C 0 dX7_ring_2 rfl rfl ?_
    refine j_get (v := .ref (h0 30)) C 0 29 rfl rfl (Nat.le_of_ble_eq_true rfl) rfl rfl in1_X7 (List.mem_cons_of_mem _ mw_5_7) dX7_ring_3 ?_
    refine j_iload_n C 1 dX7_ring_6 rfl rfl ?_
    obtain ⟨z_1, hF⟩ := gi hF
    refine j_zald C 0 29 rfl rfl z_1 dX7_ring_7 ?_
    refine j_if_ne C 47 dX7_ring_8 rfl (fun c_10 => ?_) (fun c_10 => ?_)
    · have hF := (if_neg c_10).symm.trans hF
      refine j_sub [(0, .ref (h0 0))] [0] rfl ?_
      exact hE47 _ hF
    · have hF := (if_pos c_10).symm.trans hF
      refine j_aload_n C 0 dX7_ring_11 rfl rfl ?_
      refine j_get (v := .ref (h0 30)) C 0 29 rfl rfl (Nat.le_of_ble_eq_true rfl) rfl rfl in1_X7 (List.mem_cons_of_mem _ mw_5_7) dX7_ring_12 ?_
      refine j_iload_n C 1 dX7_ring_15 rfl rfl ?_
      refine j_iconst (v := (1 : Int32)) C dX7_ring_16 rfl ?_
      obtain ⟨o0_3, e_2, hF⟩ := glT hF
      refine j_zast C 0 29 rfl rfl z_1 [(shX7, h0, o0_3)] (by rw [e_2]; rfl) dX7_ring_17 ?_
      refine j_aload_n C 0 dX7_ring_18 rfl rfl ?_
      refine j_get (v := .ref (h0 30)) C 0 29 rfl rfl (Nat.le_of_ble_eq_true rfl) rfl rfl in1_X7 (List.mem_cons_of_mem _ mw_5_7) dX7_ring_19 ?_
      refine j_iload_n C 1 dX7_ring_22 rfl rfl ?_
      refine j_iconst (v := (1 : Int32)) C dX7_ring_23 rfl ?_
      refine j_ixor C dX7_ring_24 ?_
      refine j_iconst (v := (1 : Int32)) C dX7_ring_25 rfl ?_
      obtain ⟨z_4, hF⟩ := gi hF
      obtain ⟨o0_6, e_5, hF⟩ := glT hF
      refine j_zast C 0 29 rfl rfl z_4 [(shX7, h0, o0_6)] (by rw [e_5]; rfl) dX7_ring_26 ?_
      refine j_aload_n C 0 dX7_ring_27 rfl rfl ?_
      refine j_get (v := .ref (h0 24)) C 0 23 rfl rfl (Nat.le_of_ble_eq_true rfl) rfl rfl in1_X7 (List.mem_cons_of_mem _ mw_5_5) dX7_ring_28 ?_
      refine j_sipush (v := (540 : Int32)) C dX7_ring_31 rfl ?_
      refine j_iload_n C 1 dX7_ring_34 rfl rfl ?_
      refine j_iconst (v := (1 : Int32)) C dX7_ring_35 rfl ?_
      refine j_ixor C dX7_ring_36 ?_
      refine j_iadd C dX7_ring_37 ?_
      obtain ⟨z_7, hF⟩ := gi hF
      refine j_iald C 0 23 rfl rfl z_7 dX7_ring_38 ?_
      refine j_sipush (v := (540 : Int32)) C dX7_ring_39 rfl ?_
      refine j_isub C dX7_ring_42 ?_
      obtain ⟨x2_8, e_9, hF⟩ := glT hF
      refine j_istore_n C [(2, .int x2_8), (0, .ref (h0 0))] dX7_ring_43 rfl (Nat.le_of_ble_eq_true rfl) e_9 rfl ?_
      refine j_goto C 2 dX7_ring_44 rfl ?_
      refine j_sub [(0, .ref (h0 0)), (2, .int x2_8)] [1, 0] rfl ?_
      exact ih _ _ hF
set_option maxRecDepth 100000 in
set_option maxHeartbeats 4000000 in
theorem kX7_ring (g : Gl) (h0 : Nat → Nat) (x1 : Int32) (o0 : Ob) {o0' : Ob} (hF : FX7_ring x1 o0 = some o0') : Ctr g yX7_ring (Cond.code yX7_ring cX7_ring 3 none :: wsL_law) 0 0 [(shX7, h0, o0)] [(shX7, h0, o0')] [.ref (h0 0), .int x1] none := by
  refine Ctr.of (cc := cX7_ring) (maxL := 3) (ret := none) (by decide) rfl (Nat.le_of_ble_eq_true rfl) ?_
  intro X C Rk
  replace C : CxOk g X cX7_ring RX7 (Cond.code yX7_ring cX7_ring 3 none :: wsL_law) 3 0 0 := C
  show J g X [(shX7, h0, o0)] 0 [(0, .ref (h0 0)), (1, .int x1)] []
  unfold FX7_ring at hF
  refine j_iload_n C 1 dX7_ring_0 rfl rfl ?_
  refine j_istore_n C [(2, .int x1), (0, .ref (h0 0)), (1, .int x1)] dX7_ring_1 rfl (Nat.le_of_ble_eq_true rfl) rfl rfl ?_
  refine j_sub [(0, .ref (h0 0)), (2, .int x1)] [1, 0] rfl ?_
  refine lX7_ring_2 C h0  _ Rk (fun o0_11 hF => ?_) _ _ _ hF
  refine j_aload_n C 0 dX7_ring_47 rfl rfl ?_
  refine j_get (v := .ref (h0 4)) C 0 3 rfl rfl (Nat.le_of_ble_eq_true rfl) rfl rfl in1_X7 (List.mem_cons_of_mem _ mw_4_13) dX7_ring_48 ?_
  refine j_iconst (v := (0 : Int32)) C dX7_ring_51 rfl ?_
  refine j_dup2 C rfl rfl dX7_ring_52 ?_
  refine j_iald C 0 3 rfl rfl (by decide) dX7_ring_53 ?_
  refine j_iconst (v := (1 : Int32)) C dX7_ring_54 rfl ?_
  refine j_iadd C dX7_ring_55 ?_
  obtain ⟨o0_13, e_12, hF⟩ := glT hF
  refine j_iast C 0 3 rfl rfl (by decide) [(shX7, h0, o0_13)] (by rw [e_12]; rfl) dX7_ring_56 ?_
  cases hF
  exact j_vret C Rk dX7_ring_57
/-! HeadsMeetModel.layNet -/
def LX7_layNet_11 (E30 : Ob → Option (Ob)) : Nat → Int32 → Ob → Option (Ob)
  | 0, _, _ => none
  | n + 1, x1, o0 =>
    if (16 : Int32) ≤ x1 then
      E30 o0
    else
      if inb x1 16 then
      lT (sA o0 29 x1.toNatClampNeg (vp_nar .boolean (0 : Int32))) fun o0_7 =>
      lT (x1 + (1 : Int32)) fun x1_8 =>
      LX7_layNet_11 E30 n x1_8 o0_7
      else none
def BX7_layNet_74 (E56 : Int32 → Ob → Option (Ob)) (E100 : Ob → Option (Ob)) (x1 : Int32) (x2 : Int32) (y0 : Int32) (y1 : Int32) (y2 : Int32) (o0 : Ob) : Option (Ob) :=
  if (y1 + y2) ≤ y0 then
    E100 o0
  else
    if inb x2 556 then
    b2 (FX7_otherEnd (oA o0 23 x2.toNatClampNeg) o0) fun r_20 o0_21 =>
    if inb x2 2160 then
    lT (sA o0_21 1 x2.toNatClampNeg r_20) fun o0_25 =>
    lT (x2 + (1 : Int32)) fun x2_26 =>
    E56 x2_26 o0_25
    else none
    else none
def LX7_layNet_56 (x1 : Int32) (E100 : Ob → Option (Ob)) : Nat → Int32 → Ob → Option (Ob)
  | 0, _, _ => none
  | n + 1, x2, o0 =>
    if inb x1 80 then
    if (oA o0 22 x1.toNatClampNeg) = 0 then
      BX7_layNet_74 (LX7_layNet_56 x1 E100 n) E100 x1 x2 x2 ((3 : Int32) * x1) (1 : Int32) o0
    else
      BX7_layNet_74 (LX7_layNet_56 x1 E100 n) E100 x1 x2 x2 ((3 : Int32) * x1) (3 : Int32) o0
    else none
def LX7_layNet_32 (E106 : Ob → Option (Ob)) : Nat → Int32 → Ob → Option (Ob)
  | 0, _, _ => none
  | n + 1, x1, o0 =>
    if (oV o0 21) ≤ x1 then
      E106 o0
    else
      if inb x1 80 then
      if inb x1 720 then
      lT (sA o0 0 x1.toNatClampNeg (oA o0 22 x1.toNatClampNeg)) fun o0_15 =>
      lT ((3 : Int32) * x1) fun x2_16 =>
      LX7_layNet_56 x1 (fun o0_30 =>
       lT (x1 + (1 : Int32)) fun x1_31 =>
       LX7_layNet_32 E106 n x1_31 o0_30) fu x2_16 o0_15
      else none
      else none
def LX7_layNet_108 (E161 : Ob → Option (Ob)) : Nat → Int32 → Ob → Option (Ob)
  | 0, _, _ => none
  | n + 1, x1, o0 =>
    if (8 : Int32) ≤ x1 then
      E161 o0
    else
      if inb x1 8 then
      if (oA o0 24 x1.toNatClampNeg) = (1 : Int32) then
        if inb ((2 : Int32) * x1) 16 then
        lT (sA o0 29 ((2 : Int32) * x1).toNatClampNeg (vp_nar .boolean (1 : Int32))) fun o0_38 =>
        if inb ((540 : Int32) + ((2 : Int32) * x1)) 556 then
        b2 (FX7_otherEnd (oA o0_38 23 ((540 : Int32) + ((2 : Int32) * x1)).toNatClampNeg) o0_38) fun r_40 o0_41 =>
        if inb x1 32 then
        lT (sA o0_41 2 x1.toNatClampNeg r_40) fun o0_45 =>
        lT (x1 + (1 : Int32)) fun x1_46 =>
        LX7_layNet_108 E161 n x1_46 o0_45
        else none
        else none
        else none
      else
        lT (x1 + (1 : Int32)) fun x1_48 =>
        LX7_layNet_108 E161 n x1_48 o0
      else none
def LX7_layNet_163  : Nat → Int32 → Ob → Option (Ob)
  | 0, _, _ => none
  | n + 1, x1, o0 =>
    if (16 : Int32) ≤ x1 then
      some o0
    else
      if inb (x1 / (2 : Int32)) 8 then
      if (oA o0 24 (x1 / (2 : Int32)).toNatClampNeg) = (2 : Int32) then
        if inb x1 16 then
        if (oA o0 29 x1.toNatClampNeg) = 0 then
          b1 (FX7_ring x1 o0) fun o0_55 =>
          lT (x1 + (1 : Int32)) fun x1_57 =>
          LX7_layNet_163 n x1_57 o0_55
        else
          lT (x1 + (1 : Int32)) fun x1_59 =>
          LX7_layNet_163 n x1_59 o0
        else none
      else
        lT (x1 + (1 : Int32)) fun x1_62 =>
        LX7_layNet_163 n x1_62 o0
      else none
def FX7_layNet  (o0 : Ob) : Option (Ob) :=
  lT (sV o0 4 (0 : Int32)) fun o0_2 =>
  b1 (FX7_empty o0_2) fun o0_3 =>
  LX7_layNet_11 (fun o0_11 =>
   LX7_layNet_32 (fun o0_34 =>
    LX7_layNet_108 (fun o0_52 =>
    LX7_layNet_163 fu (0 : Int32) o0_52) fu (0 : Int32) o0_34) fu (0 : Int32) o0_11) fu (0 : Int32) o0_3
set_option maxRecDepth 100000 in
set_option maxHeartbeats 4000000 in
theorem lX7_layNet_11 {g : Gl} {X : Cxt} (C : CxOk g X cX7_layNet RX7 (Cond.code yX7_layNet cX7_layNet 3 none :: wsL_law) 3 1 23) {o0' : Ob} (h0 : Nat → Nat)  (E30 : Ob → Option (Ob)) (Rk : RetOk g X [(shX7, h0, o0')] none none) (hE30 : ∀ (o0 : Ob), E30 o0 = some o0' → J g X [(shX7, h0, o0)] 30 [(0, .ref (h0 0))] []) : ∀ (n : Nat) (x1 : Int32) (o0 : Ob), LX7_layNet_11 E30 n x1 o0 = some o0' → J g X [(shX7, h0, o0)] 11 [(0, .ref (h0 0)), (1, .int x1)] [] := by
  intro n
  induction n with
  | zero =>
    intro x1 o0 hF
    cases hF
  | succ n ih =>
    intro x1 o0 hF
    rw [LX7_layNet_11.eq_2] at hF
    refine j_iload_n C 1 dX7_layNet_11 rfl rfl ?_
    refine j_bipush (v := (16 : Int32)) C dX7_layNet_12 rfl ?_
    refine j_icmp_ge C 30 dX7_layNet_14 rfl (fun c_10 => ?_) (fun c_10 => ?_)
    · have hF := (if_pos c_10).symm.trans hF
      refine j_sub [(0, .ref (h0 0))] [0] rfl ?_
      exact hE30 _ hF
    · have hF := (if_neg c_10).symm.trans hF
      refine j_aload_n C 0 dX7_layNet_17 rfl rfl ?_
      refine j_get (v := .ref (h0 30)) C 0 29 rfl rfl (Nat.le_of_ble_eq_true rfl) rfl rfl in1_X7 (List.mem_cons_of_mem _ mw_5_7) dX7_layNet_18 ?_
      refine j_iload_n C 1 dX7_layNet_21 rfl rfl ?_
      refine j_iconst (v := (0 : Int32)) C dX7_layNet_22 rfl ?_
      obtain ⟨z_5, hF⟩ := gi hF
      obtain ⟨o0_7, e_6, hF⟩ := glT hF
      refine j_zast C 0 29 rfl rfl z_5 [(shX7, h0, o0_7)] (by rw [e_6]; rfl) dX7_layNet_23 ?_
      obtain ⟨x1_8, e_9, hF⟩ := glT hF
      refine j_iinc C 1 [(1, .int x1_8), (0, .ref (h0 0))] dX7_layNet_24 rfl e_9.symm (Nat.le_of_ble_eq_true rfl) rfl ?_
      refine j_goto C 11 dX7_layNet_27 rfl ?_
      refine j_sub [(0, .ref (h0 0)), (1, .int x1_8)] [1, 0] rfl ?_
      exact ih _ _ hF
set_option maxRecDepth 100000 in
set_option maxHeartbeats 4000000 in
theorem bX7_layNet_74 {g : Gl} {X : Cxt} (C : CxOk g X cX7_layNet RX7 (Cond.code yX7_layNet cX7_layNet 3 none :: wsL_law) 3 1 23) {o0' : Ob} (h0 : Nat → Nat) (x1 : Int32) (x2 : Int32) (y0 : Int32) (y1 : Int32) (y2 : Int32) (o0 : Ob) (E56 : Int32 → Ob → Option (Ob)) (E100 : Ob → Option (Ob)) (Rk : RetOk g X [(shX7, h0, o0')] none none) (hE56 : ∀ (x2 : Int32) (o0 : Ob), E56 x2 o0 = some o0' → J g X [(shX7, h0, o0)] 56 [(0, .ref (h0 0)), (1, .int x1), (2, .int x2)] []) (hE100 : ∀ (o0 : Ob), E100 o0 = some o0' → J g X [(shX7, h0, o0)] 100 [(0, .ref (h0 0)), (1, .int x1)] []) (hF : BX7_layNet_74 E56 E100 x1 x2 y0 y1 y2 o0 = some o0') : J g X [(shX7, h0, o0)] 74 [(0, .ref (h0 0)), (1, .int x1), (2, .int x2)] [.int y2, .int y1, .int y0] := by
  unfold BX7_layNet_74 at hF
  refine j_iadd C dX7_layNet_74 ?_
  refine j_icmp_ge C 100 dX7_layNet_75 rfl (fun c_28 => ?_) (fun c_28 => ?_)
  · have hF := (if_pos c_28).symm.trans hF
    refine j_sub [(0, .ref (h0 0)), (1, .int x1)] [0, 1] rfl ?_
    exact hE100 _ hF
  · have hF := (if_neg c_28).symm.trans hF
    refine j_aload_n C 0 dX7_layNet_78 rfl rfl ?_
    refine j_get (v := .ref (h0 2)) C 0 1 rfl rfl (Nat.le_of_ble_eq_true rfl) rfl rfl in1_X7 (List.mem_cons_of_mem _ mw_4_11) dX7_layNet_79 ?_
    refine j_iload_n C 2 dX7_layNet_82 rfl rfl ?_
    refine j_aload_n C 0 dX7_layNet_83 rfl rfl ?_
    refine j_aload_n C 0 dX7_layNet_84 rfl rfl ?_
    refine j_get (v := .ref (h0 24)) C 0 23 rfl rfl (Nat.le_of_ble_eq_true rfl) rfl rfl in1_X7 (List.mem_cons_of_mem _ mw_5_5) dX7_layNet_85 ?_
    refine j_iload_n C 2 dX7_layNet_88 rfl rfl ?_
    obtain ⟨z_19, hF⟩ := gi hF
    refine j_iald C 0 23 rfl rfl z_19 dX7_layNet_89 ?_
    obtain ⟨r_20, o0_21, k_22, hF⟩ := gb2 hF
    refine j_callVi C (os' := [(shX7, h0, o0_21)]) [.int (oA o0 23 x2.toNatClampNeg)] (kX7_otherEnd g h0 (oA o0 23 x2.toNatClampNeg) o0 k_22) [0] rfl rfl rfl rfl 0 rfl rfl (wl_gV mw_18_13 mw_18_14 mw_18_15 mw_1_5 mw_18_16) rfl 1 rfl hd_X7_otherEnd ⟨Nat.le_of_ble_eq_true rfl, Nat.le_of_ble_eq_true rfl⟩ (Nat.le_of_ble_eq_true rfl) rfl dX7_layNet_90 ?_
    obtain ⟨z_23, hF⟩ := gi hF
    obtain ⟨o0_25, e_24, hF⟩ := glT hF
    refine j_iast C 0 1 rfl rfl z_23 [(shX7, h0, o0_25)] (by rw [e_24]; rfl) dX7_layNet_93 ?_
    obtain ⟨x2_26, e_27, hF⟩ := glT hF
    refine j_iinc C 2 [(2, .int x2_26), (0, .ref (h0 0)), (1, .int x1)] dX7_layNet_94 rfl e_27.symm (Nat.le_of_ble_eq_true rfl) rfl ?_
    refine j_goto C 56 dX7_layNet_97 rfl ?_
    refine j_sub [(0, .ref (h0 0)), (1, .int x1), (2, .int x2_26)] [1, 2, 0] rfl ?_
    exact hE56 _ _ hF
set_option maxRecDepth 100000 in
set_option maxHeartbeats 4000000 in
theorem lX7_layNet_56 {g : Gl} {X : Cxt} (C : CxOk g X cX7_layNet RX7 (Cond.code yX7_layNet cX7_layNet 3 none :: wsL_law) 3 1 23) {o0' : Ob} (h0 : Nat → Nat) (x1 : Int32) (E100 : Ob → Option (Ob)) (Rk : RetOk g X [(shX7, h0, o0')] none none) (hE100 : ∀ (o0 : Ob), E100 o0 = some o0' → J g X [(shX7, h0, o0)] 100 [(0, .ref (h0 0)), (1, .int x1)] []) : ∀ (n : Nat) (x2 : Int32) (o0 : Ob), LX7_layNet_56 x1 E100 n x2 o0 = some o0' → J g X [(shX7, h0, o0)] 56 [(0, .ref (h0 0)), (1, .int x1), (2, .int x2)] [] := by
  intro n
  induction n with
  | zero =>
    intro x2 o0 hF
    cases hF
  | succ n ih =>
    intro x2 o0 hF
    rw [LX7_layNet_56.eq_2] at hF
    refine j_iload_n C 2 dX7_layNet_56 rfl rfl ?_
    refine j_iconst (v := (3 : Int32)) C dX7_layNet_57 rfl ?_
    refine j_iload_n C 1 dX7_layNet_58 rfl rfl ?_
    refine j_imul C dX7_layNet_59 ?_
    refine j_aload_n C 0 dX7_layNet_60 rfl rfl ?_
    refine j_get (v := .ref (h0 23)) C 0 22 rfl rfl (Nat.le_of_ble_eq_true rfl) rfl rfl in1_X7 (List.mem_cons_of_mem _ mw_5_4) dX7_layNet_61 ?_
    refine j_iload_n C 1 dX7_layNet_64 rfl rfl ?_
    obtain ⟨z_18, hF⟩ := gi hF
    refine j_iald C 0 22 rfl rfl z_18 dX7_layNet_65 ?_
    refine j_if_ne C 73 dX7_layNet_66 rfl (fun c_29 => ?_) (fun c_29 => ?_)
    · have hF := (if_neg c_29).symm.trans hF
      refine j_iconst (v := (3 : Int32)) C dX7_layNet_73 rfl ?_
      exact bX7_layNet_74 C h0 _ _ _ _ _ _ _ _ Rk ih hE100 hF
    · have hF := (if_pos c_29).symm.trans hF
      refine j_iconst (v := (1 : Int32)) C dX7_layNet_69 rfl ?_
      refine j_goto C 74 dX7_layNet_70 rfl ?_
      exact bX7_layNet_74 C h0 _ _ _ _ _ _ _ _ Rk ih hE100 hF
set_option maxRecDepth 100000 in
set_option maxHeartbeats 4000000 in
theorem lX7_layNet_32 {g : Gl} {X : Cxt} (C : CxOk g X cX7_layNet RX7 (Cond.code yX7_layNet cX7_layNet 3 none :: wsL_law) 3 1 23) {o0' : Ob} (h0 : Nat → Nat)  (E106 : Ob → Option (Ob)) (Rk : RetOk g X [(shX7, h0, o0')] none none) (hE106 : ∀ (o0 : Ob), E106 o0 = some o0' → J g X [(shX7, h0, o0)] 106 [(0, .ref (h0 0))] []) : ∀ (n : Nat) (x1 : Int32) (o0 : Ob), LX7_layNet_32 E106 n x1 o0 = some o0' → J g X [(shX7, h0, o0)] 32 [(0, .ref (h0 0)), (1, .int x1)] [] := by
  intro n
  induction n with
  | zero =>
    intro x1 o0 hF
    cases hF
  | succ n ih =>
    intro x1 o0 hF
    rw [LX7_layNet_32.eq_2] at hF
    refine j_iload_n C 1 dX7_layNet_32 rfl rfl ?_
    refine j_aload_n C 0 dX7_layNet_33 rfl rfl ?_
    refine j_get (v := .int (oV o0 21)) C 0 21 rfl rfl (Nat.le_of_ble_eq_true rfl) rfl rfl in1_X7 (List.mem_cons_of_mem _ mw_15_2) dX7_layNet_34 ?_
    refine j_icmp_ge C 106 dX7_layNet_37 rfl (fun c_33 => ?_) (fun c_33 => ?_)
    · have hF := (if_pos c_33).symm.trans hF
      refine j_sub [(0, .ref (h0 0))] [0] rfl ?_
      exact hE106 _ hF
    · have hF := (if_neg c_33).symm.trans hF
      refine j_aload_n C 0 dX7_layNet_40 rfl rfl ?_
      refine j_get (v := .ref (h0 1)) C 0 0 rfl rfl (Nat.le_of_ble_eq_true rfl) rfl rfl in1_X7 (List.mem_cons_of_mem _ mw_4_10) dX7_layNet_41 ?_
      refine j_iload_n C 1 dX7_layNet_44 rfl rfl ?_
      refine j_aload_n C 0 dX7_layNet_45 rfl rfl ?_
      refine j_get (v := .ref (h0 23)) C 0 22 rfl rfl (Nat.le_of_ble_eq_true rfl) rfl rfl in1_X7 (List.mem_cons_of_mem _ mw_5_4) dX7_layNet_46 ?_
      refine j_iload_n C 1 dX7_layNet_49 rfl rfl ?_
      obtain ⟨z_12, hF⟩ := gi hF
      refine j_iald C 0 22 rfl rfl z_12 dX7_layNet_50 ?_
      obtain ⟨z_13, hF⟩ := gi hF
      obtain ⟨o0_15, e_14, hF⟩ := glT hF
      refine j_iast C 0 0 rfl rfl z_13 [(shX7, h0, o0_15)] (by rw [e_14]; rfl) dX7_layNet_51 ?_
      refine j_iconst (v := (3 : Int32)) C dX7_layNet_52 rfl ?_
      refine j_iload_n C 1 dX7_layNet_53 rfl rfl ?_
      refine j_imul C dX7_layNet_54 ?_
      obtain ⟨x2_16, e_17, hF⟩ := glT hF
      refine j_istore_n C [(2, .int x2_16), (0, .ref (h0 0)), (1, .int x1)] dX7_layNet_55 rfl (Nat.le_of_ble_eq_true rfl) e_17 rfl ?_
      refine j_sub [(0, .ref (h0 0)), (1, .int x1), (2, .int x2_16)] [1, 2, 0] rfl ?_
      refine lX7_layNet_56 C h0 x1 _ Rk (fun o0_30 hF => ?_) _ _ _ hF
      obtain ⟨x1_31, e_32, hF⟩ := glT hF
      refine j_iinc C 1 [(1, .int x1_31), (0, .ref (h0 0))] dX7_layNet_100 rfl e_32.symm (Nat.le_of_ble_eq_true rfl) rfl ?_
      refine j_goto C 32 dX7_layNet_103 rfl ?_
      refine j_sub [(0, .ref (h0 0)), (1, .int x1_31)] [1, 0] rfl ?_
      exact ih _ _ hF
set_option maxRecDepth 100000 in
set_option maxHeartbeats 4000000 in
theorem lX7_layNet_108 {g : Gl} {X : Cxt} (C : CxOk g X cX7_layNet RX7 (Cond.code yX7_layNet cX7_layNet 3 none :: wsL_law) 3 1 23) {o0' : Ob} (h0 : Nat → Nat)  (E161 : Ob → Option (Ob)) (Rk : RetOk g X [(shX7, h0, o0')] none none) (hE161 : ∀ (o0 : Ob), E161 o0 = some o0' → J g X [(shX7, h0, o0)] 161 [(0, .ref (h0 0))] []) : ∀ (n : Nat) (x1 : Int32) (o0 : Ob), LX7_layNet_108 E161 n x1 o0 = some o0' → J g X [(shX7, h0, o0)] 108 [(0, .ref (h0 0)), (1, .int x1)] [] := by
  intro n
  induction n with
  | zero =>
    intro x1 o0 hF
    cases hF
  | succ n ih =>
    intro x1 o0 hF
    rw [LX7_layNet_108.eq_2] at hF
    refine j_iload_n C 1 dX7_layNet_108 rfl rfl ?_
    refine j_bipush (v := (8 : Int32)) C dX7_layNet_109 rfl ?_
    refine j_icmp_ge C 161 dX7_layNet_111 rfl (fun c_51 => ?_) (fun c_51 => ?_)
    · have hF := (if_pos c_51).symm.trans hF
      refine j_sub [(0, .ref (h0 0))] [0] rfl ?_
      exact hE161 _ hF
    · have hF := (if_neg c_51).symm.trans hF
      refine j_aload_n C 0 dX7_layNet_114 rfl rfl ?_
      refine j_get (v := .ref (h0 25)) C 0 24 rfl rfl (Nat.le_of_ble_eq_true rfl) rfl rfl in1_X7 (List.mem_cons_of_mem _ mw_5_6) dX7_layNet_115 ?_
      refine j_iload_n C 1 dX7_layNet_118 rfl rfl ?_
      obtain ⟨z_35, hF⟩ := gi hF
      refine j_iald C 0 24 rfl rfl z_35 dX7_layNet_119 ?_
      refine j_iconst (v := (1 : Int32)) C dX7_layNet_120 rfl ?_
      refine j_icmp_ne C 155 dX7_layNet_121 rfl (fun c_50 => ?_) (fun c_50 => ?_)
      · have hF := (if_neg c_50).symm.trans hF
        obtain ⟨x1_48, e_49, hF⟩ := glT hF
        refine j_iinc C 1 [(1, .int x1_48), (0, .ref (h0 0))] dX7_layNet_155 rfl e_49.symm (Nat.le_of_ble_eq_true rfl) rfl ?_
        refine j_goto C 108 dX7_layNet_158 rfl ?_
        refine j_sub [(0, .ref (h0 0)), (1, .int x1_48)] [1, 0] rfl ?_
        exact ih _ _ hF
      · have hF := (if_pos c_50).symm.trans hF
        refine j_aload_n C 0 dX7_layNet_124 rfl rfl ?_
        refine j_get (v := .ref (h0 30)) C 0 29 rfl rfl (Nat.le_of_ble_eq_true rfl) rfl rfl in1_X7 (List.mem_cons_of_mem _ mw_5_7) dX7_layNet_125 ?_
        refine j_iconst (v := (2 : Int32)) C dX7_layNet_128 rfl ?_
        refine j_iload_n C 1 dX7_layNet_129 rfl rfl ?_
        refine j_imul C dX7_layNet_130 ?_
        refine j_iconst (v := (1 : Int32)) C dX7_layNet_131 rfl ?_
        obtain ⟨z_36, hF⟩ := gi hF
        obtain ⟨o0_38, e_37, hF⟩ := glT hF
        refine j_zast C 0 29 rfl rfl z_36 [(shX7, h0, o0_38)] (by rw [e_37]; rfl) dX7_layNet_132 ?_
        refine j_aload_n C 0 dX7_layNet_133 rfl rfl ?_
        refine j_get (v := .ref (h0 3)) C 0 2 rfl rfl (Nat.le_of_ble_eq_true rfl) rfl rfl in1_X7 (List.mem_cons_of_mem _ mw_4_12) dX7_layNet_134 ?_
        refine j_iload_n C 1 dX7_layNet_137 rfl rfl ?_
        refine j_aload_n C 0 dX7_layNet_138 rfl rfl ?_
        refine j_aload_n C 0 dX7_layNet_139 rfl rfl ?_
        refine j_get (v := .ref (h0 24)) C 0 23 rfl rfl (Nat.le_of_ble_eq_true rfl) rfl rfl in1_X7 (List.mem_cons_of_mem _ mw_5_5) dX7_layNet_140 ?_
        refine j_sipush (v := (540 : Int32)) C dX7_layNet_143 rfl ?_
        refine j_iconst (v := (2 : Int32)) C dX7_layNet_146 rfl ?_
        refine j_iload_n C 1 dX7_layNet_147 rfl rfl ?_
        refine j_imul C dX7_layNet_148 ?_
        refine j_iadd C dX7_layNet_149 ?_
        obtain ⟨z_39, hF⟩ := gi hF
        refine j_iald C 0 23 rfl rfl z_39 dX7_layNet_150 ?_
        obtain ⟨r_40, o0_41, k_42, hF⟩ := gb2 hF
        refine j_callVi C (os' := [(shX7, h0, o0_41)]) [.int (oA o0_38 23 ((540 : Int32) + ((2 : Int32) * x1)).toNatClampNeg)] (kX7_otherEnd g h0 (oA o0_38 23 ((540 : Int32) + ((2 : Int32) * x1)).toNatClampNeg) o0_38 k_42) [0] rfl rfl rfl rfl 0 rfl rfl (wl_gV mw_18_13 mw_18_14 mw_18_15 mw_1_5 mw_18_16) rfl 1 rfl hd_X7_otherEnd ⟨Nat.le_of_ble_eq_true rfl, Nat.le_of_ble_eq_true rfl⟩ (Nat.le_of_ble_eq_true rfl) rfl dX7_layNet_151 ?_
        obtain ⟨z_43, hF⟩ := gi hF
        obtain ⟨o0_45, e_44, hF⟩ := glT hF
        refine j_iast C 0 2 rfl rfl z_43 [(shX7, h0, o0_45)] (by rw [e_44]; rfl) dX7_layNet_154 ?_
        obtain ⟨x1_46, e_47, hF⟩ := glT hF
        refine j_iinc C 1 [(1, .int x1_46), (0, .ref (h0 0))] dX7_layNet_155 rfl e_47.symm (Nat.le_of_ble_eq_true rfl) rfl ?_
        refine j_goto C 108 dX7_layNet_158 rfl ?_
        refine j_sub [(0, .ref (h0 0)), (1, .int x1_46)] [1, 0] rfl ?_
        exact ih _ _ hF
set_option maxRecDepth 100000 in
set_option maxHeartbeats 4000000 in
theorem lX7_layNet_163 {g : Gl} {X : Cxt} (C : CxOk g X cX7_layNet RX7 (Cond.code yX7_layNet cX7_layNet 3 none :: wsL_law) 3 1 23) {o0' : Ob} (h0 : Nat → Nat)   (Rk : RetOk g X [(shX7, h0, o0')] none none)  : ∀ (n : Nat) (x1 : Int32) (o0 : Ob), LX7_layNet_163  n x1 o0 = some o0' → J g X [(shX7, h0, o0)] 163 [(0, .ref (h0 0)), (1, .int x1)] [] := by
  intro n
  induction n with
  | zero =>
    intro x1 o0 hF
    cases hF
  | succ n ih =>
    intro x1 o0 hF
    rw [LX7_layNet_163.eq_2] at hF
    refine j_iload_n C 1 dX7_layNet_163 rfl rfl ?_
    refine j_bipush (v := (16 : Int32)) C dX7_layNet_164 rfl ?_
    refine j_icmp_ge C 201 dX7_layNet_166 rfl (fun c_65 => ?_) (fun c_65 => ?_)
    · have hF := (if_pos c_65).symm.trans hF
      cases hF
      exact j_vret C Rk dX7_layNet_201
    · have hF := (if_neg c_65).symm.trans hF
      refine j_aload_n C 0 dX7_layNet_169 rfl rfl ?_
      refine j_get (v := .ref (h0 25)) C 0 24 rfl rfl (Nat.le_of_ble_eq_true rfl) rfl rfl in1_X7 (List.mem_cons_of_mem _ mw_5_6) dX7_layNet_170 ?_
      refine j_iload_n C 1 dX7_layNet_173 rfl rfl ?_
      refine j_iconst (v := (2 : Int32)) C dX7_layNet_174 rfl ?_
      refine j_idiv C (by decide) dX7_layNet_175 ?_
      obtain ⟨z_53, hF⟩ := gi hF
      refine j_iald C 0 24 rfl rfl z_53 dX7_layNet_176 ?_
      refine j_iconst (v := (2 : Int32)) C dX7_layNet_177 rfl ?_
      refine j_icmp_ne C 195 dX7_layNet_178 rfl (fun c_64 => ?_) (fun c_64 => ?_)
      · have hF := (if_neg c_64).symm.trans hF
        obtain ⟨x1_62, e_63, hF⟩ := glT hF
        refine j_iinc C 1 [(1, .int x1_62), (0, .ref (h0 0))] dX7_layNet_195 rfl e_63.symm (Nat.le_of_ble_eq_true rfl) rfl ?_
        refine j_goto C 163 dX7_layNet_198 rfl ?_
        refine j_sub [(0, .ref (h0 0)), (1, .int x1_62)] [1, 0] rfl ?_
        exact ih _ _ hF
      · have hF := (if_pos c_64).symm.trans hF
        refine j_aload_n C 0 dX7_layNet_181 rfl rfl ?_
        refine j_get (v := .ref (h0 30)) C 0 29 rfl rfl (Nat.le_of_ble_eq_true rfl) rfl rfl in1_X7 (List.mem_cons_of_mem _ mw_5_7) dX7_layNet_182 ?_
        refine j_iload_n C 1 dX7_layNet_185 rfl rfl ?_
        obtain ⟨z_54, hF⟩ := gi hF
        refine j_zald C 0 29 rfl rfl z_54 dX7_layNet_186 ?_
        refine j_if_ne C 195 dX7_layNet_187 rfl (fun c_61 => ?_) (fun c_61 => ?_)
        · have hF := (if_neg c_61).symm.trans hF
          obtain ⟨x1_59, e_60, hF⟩ := glT hF
          refine j_iinc C 1 [(1, .int x1_59), (0, .ref (h0 0))] dX7_layNet_195 rfl e_60.symm (Nat.le_of_ble_eq_true rfl) rfl ?_
          refine j_goto C 163 dX7_layNet_198 rfl ?_
          refine j_sub [(0, .ref (h0 0)), (1, .int x1_59)] [1, 0] rfl ?_
          exact ih _ _ hF
        · have hF := (if_pos c_61).symm.trans hF
          refine j_aload_n C 0 dX7_layNet_190 rfl rfl ?_
          refine j_iload_n C 1 dX7_layNet_191 rfl rfl ?_
          obtain ⟨o0_55, k_56, hF⟩ := gb1 hF
          refine j_callVv C (os' := [(shX7, h0, o0_55)]) [.int x1] (kX7_ring g h0 x1 o0 k_56) [0] rfl rfl rfl rfl 0 rfl rfl (wl_gV mw_18_17 mw_18_18 mw_18_19 mw_1_5 mw_18_20) rfl 1 rfl hd_X7_ring ⟨Nat.le_of_ble_eq_true rfl, Nat.le_of_ble_eq_true rfl⟩ (Nat.le_of_ble_eq_true rfl) rfl dX7_layNet_192 ?_
          obtain ⟨x1_57, e_58, hF⟩ := glT hF
          refine j_iinc C 1 [(1, .int x1_57), (0, .ref (h0 0))] dX7_layNet_195 rfl e_58.symm (Nat.le_of_ble_eq_true rfl) rfl ?_
          refine j_goto C 163 dX7_layNet_198 rfl ?_
          refine j_sub [(0, .ref (h0 0)), (1, .int x1_57)] [1, 0] rfl ?_
          exact ih _ _ hF
set_option maxRecDepth 100000 in
set_option maxHeartbeats 4000000 in
theorem kX7_layNet (g : Gl) (h0 : Nat → Nat)  (o0 : Ob) {o0' : Ob} (hF : FX7_layNet o0 = some o0') : Ctr g yX7_layNet (Cond.code yX7_layNet cX7_layNet 3 none :: wsL_law) 1 23 [(shX7, h0, o0)] [(shX7, h0, o0')] [.ref (h0 0)] none := by
  refine Ctr.of (cc := cX7_layNet) (maxL := 3) (ret := none) (by decide) rfl (Nat.le_of_ble_eq_true rfl) ?_
  intro X C Rk
  replace C : CxOk g X cX7_layNet RX7 (Cond.code yX7_layNet cX7_layNet 3 none :: wsL_law) 3 1 23 := C
  show J g X [(shX7, h0, o0)] 0 [(0, .ref (h0 0))] []
  unfold FX7_layNet at hF
  refine j_aload_n C 0 dX7_layNet_0 rfl rfl ?_
  refine j_iconst (v := (0 : Int32)) C dX7_layNet_1 rfl ?_
  obtain ⟨o0_2, e_1, hF⟩ := glT hF
  refine j_putV C tyX7_ok nmX7 0 4 rfl rfl (Nat.le_of_ble_eq_true rfl) rfl in1_X7 (List.mem_cons_of_mem _ mw_5_19) rfl fd_X7_4 rfl rfl [(shX7, h0, o0_2)] (by rw [e_1]; rfl) dX7_layNet_2 ?_
  refine j_aload_n C 0 dX7_layNet_5 rfl rfl ?_
  obtain ⟨o0_3, k_4, hF⟩ := gb1 hF
  refine j_callVv C (os' := [(shX7, h0, o0_3)]) [] (kX7_empty g h0 o0_2 k_4) [0] rfl rfl rfl rfl 0 rfl rfl (wl_gV mw_5_20 mw_5_21 mw_5_22 mw_1_5 mw_5_23) rfl 0 rfl hd_X7_empty ⟨Nat.le_of_ble_eq_true rfl, Nat.le_of_ble_eq_true rfl⟩ (Nat.le_of_ble_eq_true rfl) rfl dX7_layNet_6 ?_
  refine j_iconst (v := (0 : Int32)) C dX7_layNet_9 rfl ?_
  refine j_istore_n C [(1, .int (0 : Int32)), (0, .ref (h0 0))] dX7_layNet_10 rfl (Nat.le_of_ble_eq_true rfl) rfl rfl ?_
  refine j_sub [(0, .ref (h0 0)), (1, .int (0 : Int32))] [1, 0] rfl ?_
  refine lX7_layNet_11 C h0  _ Rk (fun o0_11 hF => ?_) _ _ _ hF
  refine j_iconst (v := (0 : Int32)) C dX7_layNet_30 rfl ?_
  refine j_istore_n C [(1, .int (0 : Int32)), (0, .ref (h0 0))] dX7_layNet_31 rfl (Nat.le_of_ble_eq_true rfl) rfl rfl ?_
  refine j_sub [(0, .ref (h0 0)), (1, .int (0 : Int32))] [1, 0] rfl ?_
  refine lX7_layNet_32 C h0  _ Rk (fun o0_34 hF => ?_) _ _ _ hF
  refine j_iconst (v := (0 : Int32)) C dX7_layNet_106 rfl ?_
  refine j_istore_n C [(1, .int (0 : Int32)), (0, .ref (h0 0))] dX7_layNet_107 rfl (Nat.le_of_ble_eq_true rfl) rfl rfl ?_
  refine j_sub [(0, .ref (h0 0)), (1, .int (0 : Int32))] [1, 0] rfl ?_
  refine lX7_layNet_108 C h0  _ Rk (fun o0_52 hF => ?_) _ _ _ hF
  refine j_iconst (v := (0 : Int32)) C dX7_layNet_161 rfl ?_
  refine j_istore_n C [(1, .int (0 : Int32)), (0, .ref (h0 0))] dX7_layNet_162 rfl (Nat.le_of_ble_eq_true rfl) rfl rfl ?_
  refine j_sub [(0, .ref (h0 0)), (1, .int (0 : Int32))] [1, 0] rfl ?_
  refine lX7_layNet_163 C h0  Rk  _ _ _ hF
/-! HeadsMeetModel.net -/
def LX7_net_30 (E48 : Ob → Option (Int32 × Ob)) : Nat → Int32 → Ob → Option (Int32 × Ob)
  | 0, _, _ => none
  | n + 1, x1, o0 =>
    if (4 : Int32) ≤ x1 then
      E48 o0
    else
      if inb x1 4 then
      lT (sA o0 6 x1.toNatClampNeg (0 : Int32)) fun o0_8 =>
      lT (x1 + (1 : Int32)) fun x1_9 =>
      LX7_net_30 E48 n x1_9 o0_8
      else none
def FX7_net  (o0 : Ob) : Option (Int32 × Ob) :=
  b2 (FX7_read o0) fun r_1 o0_2 =>
  if (oV o0_2 28) = 0 then
    some ((-103 : Int32), o0_2)
  else
    if (oV o0_2 21) ≤ (30 : Int32) then
      b1 (FX7_layNet o0_2) fun o0_4 =>
      LX7_net_30 (fun o0_12 =>
       lT (sV o0_12 5 ((oV o0_12 5) + (1 : Int32))) fun o0_14 =>
       lT (sV o0_14 7 (0 : Int32)) fun o0_16 =>
       lT (sV o0_16 11 (0 : Int32)) fun o0_18 =>
       some (oV o0_18 21, o0_18)) fu (0 : Int32) o0_4
    else
      some ((-103 : Int32), o0_2)
set_option maxRecDepth 100000 in
set_option maxHeartbeats 4000000 in
theorem lX7_net_30 {g : Gl} {X : Cxt} (C : CxOk g X cX7_net RX7 (Cond.code yX7_net cX7_net 2 (some .int) :: wsL_law) 2 5 110) {r : Int32} {o0' : Ob} (h0 : Nat → Nat)  (E48 : Ob → Option (Int32 × Ob)) (Rk : RetOk g X [(shX7, h0, o0')] (some (.int r)) (some .int)) (hE48 : ∀ (o0 : Ob), E48 o0 = some (r, o0') → J g X [(shX7, h0, o0)] 48 [(0, .ref (h0 0))] []) : ∀ (n : Nat) (x1 : Int32) (o0 : Ob), LX7_net_30 E48 n x1 o0 = some (r, o0') → J g X [(shX7, h0, o0)] 30 [(0, .ref (h0 0)), (1, .int x1)] [] := by
  intro n
  induction n with
  | zero =>
    intro x1 o0 hF
    cases hF
  | succ n ih =>
    intro x1 o0 hF
    rw [LX7_net_30.eq_2] at hF
    refine j_iload_n C 1 dX7_net_30 rfl rfl ?_
    refine j_iconst (v := (4 : Int32)) C dX7_net_31 rfl ?_
    refine j_icmp_ge C 48 dX7_net_32 rfl (fun c_11 => ?_) (fun c_11 => ?_)
    · have hF := (if_pos c_11).symm.trans hF
      refine j_sub [(0, .ref (h0 0))] [0] rfl ?_
      exact hE48 _ hF
    · have hF := (if_neg c_11).symm.trans hF
      refine j_aload_n C 0 dX7_net_35 rfl rfl ?_
      refine j_get (v := .ref (h0 7)) C 0 6 rfl rfl (Nat.le_of_ble_eq_true rfl) rfl rfl in1_X7 (List.mem_cons_of_mem _ mw_4_14) dX7_net_36 ?_
      refine j_iload_n C 1 dX7_net_39 rfl rfl ?_
      refine j_iconst (v := (0 : Int32)) C dX7_net_40 rfl ?_
      obtain ⟨z_6, hF⟩ := gi hF
      obtain ⟨o0_8, e_7, hF⟩ := glT hF
      refine j_iast C 0 6 rfl rfl z_6 [(shX7, h0, o0_8)] (by rw [e_7]; rfl) dX7_net_41 ?_
      obtain ⟨x1_9, e_10, hF⟩ := glT hF
      refine j_iinc C 1 [(1, .int x1_9), (0, .ref (h0 0))] dX7_net_42 rfl e_10.symm (Nat.le_of_ble_eq_true rfl) rfl ?_
      refine j_goto C 30 dX7_net_45 rfl ?_
      refine j_sub [(0, .ref (h0 0)), (1, .int x1_9)] [1, 0] rfl ?_
      exact ih _ _ hF
set_option maxRecDepth 100000 in
set_option maxHeartbeats 4000000 in
theorem kX7_net (g : Gl) (h0 : Nat → Nat)  (o0 : Ob) {r : Int32} {o0' : Ob} (hF : FX7_net o0 = some (r, o0')) : Ctr g yX7_net (Cond.code yX7_net cX7_net 2 (some .int) :: wsL_law) 5 110 [(shX7, h0, o0)] [(shX7, h0, o0')] [.ref (h0 0)] (some (.int r)) := by
  refine Ctr.of (cc := cX7_net) (maxL := 2) (ret := (some .int)) (by decide) rfl (Nat.le_of_ble_eq_true rfl) ?_
  intro X C Rk
  replace C : CxOk g X cX7_net RX7 (Cond.code yX7_net cX7_net 2 (some .int) :: wsL_law) 2 5 110 := C
  show J g X [(shX7, h0, o0)] 0 [(0, .ref (h0 0))] []
  unfold FX7_net at hF
  refine j_aload_n C 0 dX7_net_0 rfl rfl ?_
  obtain ⟨r_1, o0_2, k_3, hF⟩ := gb2 hF
  refine j_callVi C (os' := [(shX7, h0, o0_2)]) [] (kX7_read g h0 o0 k_3) [0] rfl rfl rfl rfl 0 rfl rfl (wl_gV mw_14_21 mw_14_22 mw_14_23 mw_1_5 mw_15_0) rfl 0 rfl hd_X7_read ⟨Nat.le_of_ble_eq_true rfl, Nat.le_of_ble_eq_true rfl⟩ (Nat.le_of_ble_eq_true rfl) rfl dX7_net_1 ?_
  refine j_pop C rfl dX7_net_4 ?_
  refine j_aload_n C 0 dX7_net_5 rfl rfl ?_
  refine j_get (v := .int (oV o0_2 28)) C 0 28 rfl rfl (Nat.le_of_ble_eq_true rfl) rfl rfl in1_X7 (List.mem_cons_of_mem _ mw_15_5) dX7_net_6 ?_
  refine j_if_eq C 21 dX7_net_9 rfl (fun c_20 => ?_) (fun c_20 => ?_)
  · have hF := (if_pos c_20).symm.trans hF
    refine j_bipush (v := (-103 : Int32)) C dX7_net_21 rfl ?_
    cases hF
    exact j_iret C Rk dX7_net_23
  · have hF := (if_neg c_20).symm.trans hF
    refine j_aload_n C 0 dX7_net_12 rfl rfl ?_
    refine j_get (v := .int (oV o0_2 21)) C 0 21 rfl rfl (Nat.le_of_ble_eq_true rfl) rfl rfl in1_X7 (List.mem_cons_of_mem _ mw_15_2) dX7_net_13 ?_
    refine j_bipush (v := (30 : Int32)) C dX7_net_16 rfl ?_
    refine j_icmp_le C 24 dX7_net_18 rfl (fun c_19 => ?_) (fun c_19 => ?_)
    · have hF := (if_pos c_19).symm.trans hF
      refine j_aload_n C 0 dX7_net_24 rfl rfl ?_
      obtain ⟨o0_4, k_5, hF⟩ := gb1 hF
      refine j_callVv C (os' := [(shX7, h0, o0_4)]) [] (kX7_layNet g h0 o0_2 k_5) [0] rfl rfl rfl rfl 0 rfl rfl (wl_gV mw_18_9 mw_18_10 mw_18_11 mw_1_5 mw_18_12) rfl 0 rfl hd_X7_layNet ⟨Nat.le_of_ble_eq_true rfl, Nat.le_of_ble_eq_true rfl⟩ (Nat.le_of_ble_eq_true rfl) rfl dX7_net_25 ?_
      refine j_iconst (v := (0 : Int32)) C dX7_net_28 rfl ?_
      refine j_istore_n C [(1, .int (0 : Int32)), (0, .ref (h0 0))] dX7_net_29 rfl (Nat.le_of_ble_eq_true rfl) rfl rfl ?_
      refine j_sub [(0, .ref (h0 0)), (1, .int (0 : Int32))] [1, 0] rfl ?_
      refine lX7_net_30 C h0  _ Rk (fun o0_12 hF => ?_) _ _ _ hF
      refine j_aload_n C 0 dX7_net_48 rfl rfl ?_
      refine j_dup C rfl dX7_net_49 ?_
      refine j_get (v := .int (oV o0_12 5)) C 0 5 rfl rfl (Nat.le_of_ble_eq_true rfl) rfl rfl in1_X7 (List.mem_cons_of_mem _ mw_18_7) dX7_net_50 ?_
      refine j_iconst (v := (1 : Int32)) C dX7_net_53 rfl ?_
      refine j_iadd C dX7_net_54 ?_
      obtain ⟨o0_14, e_13, hF⟩ := glT hF
      refine j_putV C tyX7_ok nmX7 0 5 rfl rfl (Nat.le_of_ble_eq_true rfl) rfl in1_X7 (List.mem_cons_of_mem _ mw_18_7) rfl fd_X7_5 rfl rfl [(shX7, h0, o0_14)] (by rw [e_13]; rfl) dX7_net_55 ?_
      refine j_aload_n C 0 dX7_net_58 rfl rfl ?_
      refine j_iconst (v := (0 : Int32)) C dX7_net_59 rfl ?_
      obtain ⟨o0_16, e_15, hF⟩ := glT hF
      refine j_putV C tyX7_ok nmX7 0 7 rfl rfl (Nat.le_of_ble_eq_true rfl) rfl in1_X7 (List.mem_cons_of_mem _ mw_18_8) rfl fd_X7_7 rfl rfl [(shX7, h0, o0_16)] (by rw [e_15]; rfl) dX7_net_60 ?_
      refine j_aload_n C 0 dX7_net_63 rfl rfl ?_
      refine j_iconst (v := (0 : Int32)) C dX7_net_64 rfl ?_
      obtain ⟨o0_18, e_17, hF⟩ := glT hF
      refine j_putV C tyX7_ok nmX7 0 11 rfl rfl (Nat.le_of_ble_eq_true rfl) rfl in1_X7 (List.mem_cons_of_mem _ mw_6_17) rfl fd_X7_11 rfl rfl [(shX7, h0, o0_18)] (by rw [e_17]; rfl) dX7_net_65 ?_
      refine j_aload_n C 0 dX7_net_68 rfl rfl ?_
      refine j_get (v := .int (oV o0_18 21)) C 0 21 rfl rfl (Nat.le_of_ble_eq_true rfl) rfl rfl in1_X7 (List.mem_cons_of_mem _ mw_15_2) dX7_net_69 ?_
      cases hF
      exact j_iret C Rk dX7_net_72
    · have hF := (if_neg c_19).symm.trans hF
      refine j_bipush (v := (-103 : Int32)) C dX7_net_21 rfl ?_
      cases hF
      exact j_iret C Rk dX7_net_23
/-! HeadsMeetModel.isNet -/
def FX7_isNet  (o0 : Ob) : Option (Int32) :=
  if (oV o0 5) ≤ 0 then
    some (0 : Int32)
  else
    some (1 : Int32)
set_option maxRecDepth 100000 in
set_option maxHeartbeats 4000000 in
theorem kX7_isNet (g : Gl) (h0 : Nat → Nat)  (o0 : Ob) {r : Int32} (hF : FX7_isNet o0 = some r) : Ctr g yX7_isNet (Cond.code yX7_isNet cX7_isNet 1 (some .boolean) :: wsL_law) 0 0 [(shX7, h0, o0)] [(shX7, h0, o0)] [.ref (h0 0)] (some (.int r)) := by
  refine Ctr.of (cc := cX7_isNet) (maxL := 1) (ret := (some .boolean)) (by decide) rfl (Nat.le_of_ble_eq_true rfl) ?_
  intro X C Rk
  replace C : CxOk g X cX7_isNet RX7 (Cond.code yX7_isNet cX7_isNet 1 (some .boolean) :: wsL_law) 1 0 0 := C
  show J g X [(shX7, h0, o0)] 0 [(0, .ref (h0 0))] []
  unfold FX7_isNet at hF
  refine j_aload_n C 0 dX7_isNet_0 rfl rfl ?_
  refine j_get (v := .int (oV o0 5)) C 0 5 rfl rfl (Nat.le_of_ble_eq_true rfl) rfl rfl in1_X7 (List.mem_cons_of_mem _ mw_18_7) dX7_isNet_1 ?_
  refine j_if_le C 11 dX7_isNet_4 rfl (fun c_1 => ?_) (fun c_1 => ?_)
  · have hF := (if_pos c_1).symm.trans hF
    refine j_iconst (v := (0 : Int32)) C dX7_isNet_11 rfl ?_
    cases hF
    exact j_zret C rfl Rk dX7_isNet_12
  · have hF := (if_neg c_1).symm.trans hF
    refine j_iconst (v := (1 : Int32)) C dX7_isNet_7 rfl ?_
    refine j_goto C 12 dX7_isNet_8 rfl ?_
    cases hF
    exact j_zret C rfl Rk dX7_isNet_12
/-! HeadsMeetModel.placeTold -/
def FX7_placeTold (x1 : Int32) (x2 : Int32) (o0 : Ob) : Option (Int32) :=
  if x2 ≤ 0 then
    b1 (FX7_at (((3 : Int32) * x1) + x2) o0) fun r_6 =>
    some r_6
  else
    b1 (FX7_kindOf x1 o0) fun r_1 =>
    if r_1 = 0 then
      some (-1 : Int32)
    else
      b1 (FX7_at (((3 : Int32) * x1) + x2) o0) fun r_3 =>
      some r_3
set_option maxRecDepth 100000 in
set_option maxHeartbeats 4000000 in
theorem kX7_placeTold (g : Gl) (h0 : Nat → Nat) (x1 : Int32) (x2 : Int32) (o0 : Ob) {r : Int32} (hF : FX7_placeTold x1 x2 o0 = some r) : Ctr g yX7_placeTold (Cond.code yX7_placeTold cX7_placeTold 3 (some .int) :: wsL_law) 1 21 [(shX7, h0, o0)] [(shX7, h0, o0)] [.ref (h0 0), .int x1, .int x2] (some (.int r)) := by
  refine Ctr.of (cc := cX7_placeTold) (maxL := 3) (ret := (some .int)) (by decide) rfl (Nat.le_of_ble_eq_true rfl) ?_
  intro X C Rk
  replace C : CxOk g X cX7_placeTold RX7 (Cond.code yX7_placeTold cX7_placeTold 3 (some .int) :: wsL_law) 3 1 21 := C
  show J g X [(shX7, h0, o0)] 0 [(0, .ref (h0 0)), (1, .int x1), (2, .int x2)] []
  unfold FX7_placeTold at hF
  refine j_iload_n C 2 dX7_placeTold_0 rfl rfl ?_
  refine j_if_le C 16 dX7_placeTold_1 rfl (fun c_8 => ?_) (fun c_8 => ?_)
  · have hF := (if_pos c_8).symm.trans hF
    refine j_aload_n C 0 dX7_placeTold_16 rfl rfl ?_
    refine j_iconst (v := (3 : Int32)) C dX7_placeTold_17 rfl ?_
    refine j_iload_n C 1 dX7_placeTold_18 rfl rfl ?_
    refine j_imul C dX7_placeTold_19 ?_
    refine j_iload_n C 2 dX7_placeTold_20 rfl rfl ?_
    refine j_iadd C dX7_placeTold_21 ?_
    obtain ⟨r_6, k_7, hF⟩ := gb1 hF
    refine j_callVi C (os' := [(shX7, h0, o0)]) [.int (((3 : Int32) * x1) + x2)] (kX7_at g h0 (((3 : Int32) * x1) + x2) o0 k_7) [0] rfl rfl rfl rfl 0 rfl rfl (wl_gV mw_24_21 mw_24_22 mw_24_23 mw_1_5 mw_25_0) rfl 1 rfl hd_X7_at ⟨Nat.le_of_ble_eq_true rfl, Nat.le_of_ble_eq_true rfl⟩ (Nat.le_of_ble_eq_true rfl) rfl dX7_placeTold_22 ?_
    cases hF
    exact j_iret C Rk dX7_placeTold_25
  · have hF := (if_neg c_8).symm.trans hF
    refine j_aload_n C 0 dX7_placeTold_4 rfl rfl ?_
    refine j_iload_n C 1 dX7_placeTold_5 rfl rfl ?_
    obtain ⟨r_1, k_2, hF⟩ := gb1 hF
    refine j_callVi C (os' := [(shX7, h0, o0)]) [.int x1] (kX7_kindOf g h0 x1 o0 k_2) [0] rfl rfl rfl rfl 0 rfl rfl (wl_gV mw_24_9 mw_24_10 mw_24_11 mw_1_5 mw_24_12) rfl 1 rfl hd_X7_kindOf ⟨Nat.le_of_ble_eq_true rfl, Nat.le_of_ble_eq_true rfl⟩ (Nat.le_of_ble_eq_true rfl) rfl dX7_placeTold_6 ?_
    refine j_if_ne C 16 dX7_placeTold_9 rfl (fun c_5 => ?_) (fun c_5 => ?_)
    · have hF := (if_neg c_5).symm.trans hF
      refine j_aload_n C 0 dX7_placeTold_16 rfl rfl ?_
      refine j_iconst (v := (3 : Int32)) C dX7_placeTold_17 rfl ?_
      refine j_iload_n C 1 dX7_placeTold_18 rfl rfl ?_
      refine j_imul C dX7_placeTold_19 ?_
      refine j_iload_n C 2 dX7_placeTold_20 rfl rfl ?_
      refine j_iadd C dX7_placeTold_21 ?_
      obtain ⟨r_3, k_4, hF⟩ := gb1 hF
      refine j_callVi C (os' := [(shX7, h0, o0)]) [.int (((3 : Int32) * x1) + x2)] (kX7_at g h0 (((3 : Int32) * x1) + x2) o0 k_4) [0] rfl rfl rfl rfl 0 rfl rfl (wl_gV mw_24_21 mw_24_22 mw_24_23 mw_1_5 mw_25_0) rfl 1 rfl hd_X7_at ⟨Nat.le_of_ble_eq_true rfl, Nat.le_of_ble_eq_true rfl⟩ (Nat.le_of_ble_eq_true rfl) rfl dX7_placeTold_22 ?_
      cases hF
      exact j_iret C Rk dX7_placeTold_25
    · have hF := (if_pos c_5).symm.trans hF
      refine j_iconst (v := (-1 : Int32)) C dX7_placeTold_12 rfl ?_
      refine j_goto C 25 dX7_placeTold_13 rfl ?_
      cases hF
      exact j_iret C Rk dX7_placeTold_25
/-! HeadsMeetModel.layEnding -/
def LX7_layEnding_13 (E31 : Ob → Option (Int32 × Ob)) : Nat → Int32 → Ob → Option (Int32 × Ob)
  | 0, _, _ => none
  | n + 1, x2, o0 =>
    if (4 : Int32) ≤ x2 then
      E31 o0
    else
      if inb x2 4 then
      lT (sA o0 30 x2.toNatClampNeg (0 : Int32)) fun o0_7 =>
      lT (x2 + (1 : Int32)) fun x2_8 =>
      LX7_layEnding_13 E31 n x2_8 o0_7
      else none
def LX7_layEnding_31 (E80 : Ob → Option (Int32 × Ob)) : Nat → Ob → Option (Int32 × Ob)
  | 0, _ => none
  | n + 1, o0 =>
    if (60 : Int32) ≤ (oA o0 30 (0 : Int32).toNatClampNeg) then
      E80 o0
    else
      b1 (FX7_meetingsNow o0) fun r_12 =>
      if r_12 ≤ 0 then
        E80 o0
      else
        b1 (FX7_meetingAt (0 : Int32) o0) fun r_14 =>
        b2 (FX7_meetNow r_14 o0) fun r_16 o0_17 =>
        if inb r_16 4 then
        lT (sA o0_17 30 r_16.toNatClampNeg ((oA o0_17 30 r_16.toNatClampNeg) + (1 : Int32))) fun o0_21 =>
        lT (sA o0_21 30 (0 : Int32).toNatClampNeg ((oA o0_21 30 (0 : Int32).toNatClampNeg) + (1 : Int32))) fun o0_23 =>
        LX7_layEnding_31 E80 n o0_23
        else none
def BX7_layEnding_80 (o0 : Ob) : Option (Int32 × Ob) :=
  b1 (FX7_meetingsNow o0) fun r_27 =>
  if r_27 = 0 then
    lT (sV o0 4 (0 : Int32)) fun o0_30 =>
    some ((1 : Int32), o0_30)
  else
    lT (sV o0 4 (0 : Int32)) fun o0_32 =>
    some ((0 : Int32), o0_32)
def FX7_layEnding (x1 : Int32) (o0 : Ob) : Option (Int32 × Ob) :=
  b1 (FX7_copy (2 : Int32) x1 o0) fun o0_1 =>
  lT (sV o0_1 4 (2 : Int32)) fun o0_4 =>
  LX7_layEnding_13 (fun o0_11 =>
   LX7_layEnding_31 (fun o0_26 =>
    BX7_layEnding_80 o0_26) fu o0_11) fu (0 : Int32) o0_4
set_option maxRecDepth 100000 in
set_option maxHeartbeats 4000000 in
theorem lX7_layEnding_13 {g : Gl} {X : Cxt} (C : CxOk g X cX7_layEnding RX7 (Cond.code yX7_layEnding cX7_layEnding 3 (some .boolean) :: wsL_law) 3 4 94) {r : Int32} {o0' : Ob} (h0 : Nat → Nat)  (E31 : Ob → Option (Int32 × Ob)) (Rk : RetOk g X [(shX7, h0, o0')] (some (.int r)) (some .boolean)) (hE31 : ∀ (o0 : Ob), E31 o0 = some (r, o0') → J g X [(shX7, h0, o0)] 31 [(0, .ref (h0 0))] []) : ∀ (n : Nat) (x2 : Int32) (o0 : Ob), LX7_layEnding_13 E31 n x2 o0 = some (r, o0') → J g X [(shX7, h0, o0)] 13 [(0, .ref (h0 0)), (2, .int x2)] [] := by
  intro n
  induction n with
  | zero =>
    intro x2 o0 hF
    cases hF
  | succ n ih =>
    intro x2 o0 hF
    rw [LX7_layEnding_13.eq_2] at hF
    refine j_iload_n C 1 dX7_layEnding_13 rfl rfl ?_
    refine j_iconst (v := (4 : Int32)) C dX7_layEnding_14 rfl ?_
    refine j_icmp_ge C 31 dX7_layEnding_15 rfl (fun c_10 => ?_) (fun c_10 => ?_)
    · have hF := (if_pos c_10).symm.trans hF
      refine j_sub [(0, .ref (h0 0))] [0] rfl ?_
      exact hE31 _ hF
    · have hF := (if_neg c_10).symm.trans hF
      refine j_aload_n C 0 dX7_layEnding_18 rfl rfl ?_
      refine j_get (v := .ref (h0 31)) C 0 30 rfl rfl (Nat.le_of_ble_eq_true rfl) rfl rfl in1_X7 (List.mem_cons_of_mem _ mw_5_8) dX7_layEnding_19 ?_
      refine j_iload_n C 1 dX7_layEnding_22 rfl rfl ?_
      refine j_iconst (v := (0 : Int32)) C dX7_layEnding_23 rfl ?_
      obtain ⟨z_5, hF⟩ := gi hF
      obtain ⟨o0_7, e_6, hF⟩ := glT hF
      refine j_iast C 0 30 rfl rfl z_5 [(shX7, h0, o0_7)] (by rw [e_6]; rfl) dX7_layEnding_24 ?_
      obtain ⟨x2_8, e_9, hF⟩ := glT hF
      refine j_iinc C 1 [(2, .int x2_8), (0, .ref (h0 0))] dX7_layEnding_25 rfl e_9.symm (Nat.le_of_ble_eq_true rfl) rfl ?_
      refine j_goto C 13 dX7_layEnding_28 rfl ?_
      refine j_sub [(0, .ref (h0 0)), (2, .int x2_8)] [1, 0] rfl ?_
      exact ih _ _ hF
set_option maxRecDepth 100000 in
set_option maxHeartbeats 4000000 in
theorem lX7_layEnding_31 {g : Gl} {X : Cxt} (C : CxOk g X cX7_layEnding RX7 (Cond.code yX7_layEnding cX7_layEnding 3 (some .boolean) :: wsL_law) 3 4 94) {r : Int32} {o0' : Ob} (h0 : Nat → Nat)  (E80 : Ob → Option (Int32 × Ob)) (Rk : RetOk g X [(shX7, h0, o0')] (some (.int r)) (some .boolean)) (hE80 : ∀ (o0 : Ob), E80 o0 = some (r, o0') → J g X [(shX7, h0, o0)] 80 [(0, .ref (h0 0))] []) : ∀ (n : Nat) (o0 : Ob), LX7_layEnding_31 E80 n o0 = some (r, o0') → J g X [(shX7, h0, o0)] 31 [(0, .ref (h0 0))] [] := by
  intro n
  induction n with
  | zero =>
    intro o0 hF
    cases hF
  | succ n ih =>
    intro o0 hF
    rw [LX7_layEnding_31.eq_2] at hF
    refine j_aload_n C 0 dX7_layEnding_31 rfl rfl ?_
    refine j_get (v := .ref (h0 31)) C 0 30 rfl rfl (Nat.le_of_ble_eq_true rfl) rfl rfl in1_X7 (List.mem_cons_of_mem _ mw_5_8) dX7_layEnding_32 ?_
    refine j_iconst (v := (0 : Int32)) C dX7_layEnding_35 rfl ?_
    refine j_iald C 0 30 rfl rfl (by decide) dX7_layEnding_36 ?_
    refine j_bipush (v := (60 : Int32)) C dX7_layEnding_37 rfl ?_
    refine j_icmp_ge C 80 dX7_layEnding_39 rfl (fun c_25 => ?_) (fun c_25 => ?_)
    · have hF := (if_pos c_25).symm.trans hF
      exact hE80 _ hF
    · have hF := (if_neg c_25).symm.trans hF
      refine j_aload_n C 0 dX7_layEnding_42 rfl rfl ?_
      obtain ⟨r_12, k_13, hF⟩ := gb1 hF
      refine j_callVi C (os' := [(shX7, h0, o0)]) [] (kX7_meetingsNow g h0 o0 k_13) [0] rfl rfl rfl rfl 0 rfl rfl (wl_gV mw_25_21 mw_25_22 mw_25_23 mw_1_5 mw_26_0) rfl 0 rfl hd_X7_meetingsNow ⟨Nat.le_of_ble_eq_true rfl, Nat.le_of_ble_eq_true rfl⟩ (Nat.le_of_ble_eq_true rfl) rfl dX7_layEnding_43 ?_
      refine j_if_le C 80 dX7_layEnding_46 rfl (fun c_24 => ?_) (fun c_24 => ?_)
      · have hF := (if_pos c_24).symm.trans hF
        exact hE80 _ hF
      · have hF := (if_neg c_24).symm.trans hF
        refine j_aload_n C 0 dX7_layEnding_49 rfl rfl ?_
        refine j_get (v := .ref (h0 31)) C 0 30 rfl rfl (Nat.le_of_ble_eq_true rfl) rfl rfl in1_X7 (List.mem_cons_of_mem _ mw_5_8) dX7_layEnding_50 ?_
        refine j_aload_n C 0 dX7_layEnding_53 rfl rfl ?_
        refine j_aload_n C 0 dX7_layEnding_54 rfl rfl ?_
        refine j_iconst (v := (0 : Int32)) C dX7_layEnding_55 rfl ?_
        obtain ⟨r_14, k_15, hF⟩ := gb1 hF
        refine j_callVi C (os' := [(shX7, h0, o0)]) [.int (0 : Int32)] (kX7_meetingAt g h0 (0 : Int32) o0 k_15) [0] rfl rfl rfl rfl 0 rfl rfl (wl_gV mw_26_5 mw_26_6 mw_26_7 mw_1_5 mw_26_8) rfl 1 rfl hd_X7_meetingAt ⟨Nat.le_of_ble_eq_true rfl, Nat.le_of_ble_eq_true rfl⟩ (Nat.le_of_ble_eq_true rfl) rfl dX7_layEnding_56 ?_
        obtain ⟨r_16, o0_17, k_18, hF⟩ := gb2 hF
        refine j_callVi C (os' := [(shX7, h0, o0_17)]) [.int r_14] (kX7_meetNow g h0 r_14 o0 k_18) [0] rfl rfl rfl rfl 0 rfl rfl (wl_gV mw_26_9 mw_26_10 mw_26_11 mw_1_5 mw_26_12) rfl 1 rfl hd_X7_meetNow ⟨Nat.le_of_ble_eq_true rfl, Nat.le_of_ble_eq_true rfl⟩ (Nat.le_of_ble_eq_true rfl) rfl dX7_layEnding_59 ?_
        refine j_dup2 C rfl rfl dX7_layEnding_62 ?_
        obtain ⟨z_19, hF⟩ := gi hF
        refine j_iald C 0 30 rfl rfl z_19 dX7_layEnding_63 ?_
        refine j_iconst (v := (1 : Int32)) C dX7_layEnding_64 rfl ?_
        refine j_iadd C dX7_layEnding_65 ?_
        obtain ⟨o0_21, e_20, hF⟩ := glT hF
        refine j_iast C 0 30 rfl rfl z_19 [(shX7, h0, o0_21)] (by rw [e_20]; rfl) dX7_layEnding_66 ?_
        refine j_aload_n C 0 dX7_layEnding_67 rfl rfl ?_
        refine j_get (v := .ref (h0 31)) C 0 30 rfl rfl (Nat.le_of_ble_eq_true rfl) rfl rfl in1_X7 (List.mem_cons_of_mem _ mw_5_8) dX7_layEnding_68 ?_
        refine j_iconst (v := (0 : Int32)) C dX7_layEnding_71 rfl ?_
        refine j_dup2 C rfl rfl dX7_layEnding_72 ?_
        refine j_iald C 0 30 rfl rfl (by decide) dX7_layEnding_73 ?_
        refine j_iconst (v := (1 : Int32)) C dX7_layEnding_74 rfl ?_
        refine j_iadd C dX7_layEnding_75 ?_
        obtain ⟨o0_23, e_22, hF⟩ := glT hF
        refine j_iast C 0 30 rfl rfl (by decide) [(shX7, h0, o0_23)] (by rw [e_22]; rfl) dX7_layEnding_76 ?_
        refine j_goto C 31 dX7_layEnding_77 rfl ?_
        exact ih _ hF
set_option maxRecDepth 100000 in
set_option maxHeartbeats 4000000 in
theorem bX7_layEnding_80 {g : Gl} {X : Cxt} (C : CxOk g X cX7_layEnding RX7 (Cond.code yX7_layEnding cX7_layEnding 3 (some .boolean) :: wsL_law) 3 4 94) {r : Int32} {o0' : Ob} (h0 : Nat → Nat) (o0 : Ob)  (Rk : RetOk g X [(shX7, h0, o0')] (some (.int r)) (some .boolean))  (hF : BX7_layEnding_80  o0 = some (r, o0')) : J g X [(shX7, h0, o0)] 80 [(0, .ref (h0 0))] [] := by
  unfold BX7_layEnding_80 at hF
  refine j_aload_n C 0 dX7_layEnding_80 rfl rfl ?_
  obtain ⟨r_27, k_28, hF⟩ := gb1 hF
  refine j_callVi C (os' := [(shX7, h0, o0)]) [] (kX7_meetingsNow g h0 o0 k_28) [0] rfl rfl rfl rfl 0 rfl rfl (wl_gV mw_25_21 mw_25_22 mw_25_23 mw_1_5 mw_26_0) rfl 0 rfl hd_X7_meetingsNow ⟨Nat.le_of_ble_eq_true rfl, Nat.le_of_ble_eq_true rfl⟩ (Nat.le_of_ble_eq_true rfl) rfl dX7_layEnding_81 ?_
  refine j_if_ne C 91 dX7_layEnding_84 rfl (fun c_33 => ?_) (fun c_33 => ?_)
  · have hF := (if_neg c_33).symm.trans hF
    refine j_iconst (v := (0 : Int32)) C dX7_layEnding_91 rfl ?_
    refine j_istore_n C [(2, .int (0 : Int32)), (0, .ref (h0 0))] dX7_layEnding_92 rfl (Nat.le_of_ble_eq_true rfl) rfl rfl ?_
    refine j_aload_n C 1 dX7_layEnding_93 rfl rfl ?_
    refine j_iconst (v := (0 : Int32)) C dX7_layEnding_94 rfl ?_
    obtain ⟨o0_32, e_31, hF⟩ := glT hF
    refine j_putV C tyX7_ok nmX7 0 4 rfl rfl (Nat.le_of_ble_eq_true rfl) rfl in1_X7 (List.mem_cons_of_mem _ mw_5_19) rfl fd_X7_4 rfl rfl [(shX7, h0, o0_32)] (by rw [e_31]; rfl) dX7_layEnding_95 ?_
    refine j_iload_n C 0 dX7_layEnding_98 rfl rfl ?_
    cases hF
    exact j_zret C rfl Rk dX7_layEnding_99
  · have hF := (if_pos c_33).symm.trans hF
    refine j_iconst (v := (1 : Int32)) C dX7_layEnding_87 rfl ?_
    refine j_goto C 92 dX7_layEnding_88 rfl ?_
    refine j_istore_n C [(2, .int (1 : Int32)), (0, .ref (h0 0))] dX7_layEnding_92 rfl (Nat.le_of_ble_eq_true rfl) rfl rfl ?_
    refine j_aload_n C 1 dX7_layEnding_93 rfl rfl ?_
    refine j_iconst (v := (0 : Int32)) C dX7_layEnding_94 rfl ?_
    obtain ⟨o0_30, e_29, hF⟩ := glT hF
    refine j_putV C tyX7_ok nmX7 0 4 rfl rfl (Nat.le_of_ble_eq_true rfl) rfl in1_X7 (List.mem_cons_of_mem _ mw_5_19) rfl fd_X7_4 rfl rfl [(shX7, h0, o0_30)] (by rw [e_29]; rfl) dX7_layEnding_95 ?_
    refine j_iload_n C 0 dX7_layEnding_98 rfl rfl ?_
    cases hF
    exact j_zret C rfl Rk dX7_layEnding_99
set_option maxRecDepth 100000 in
set_option maxHeartbeats 4000000 in
theorem kX7_layEnding (g : Gl) (h0 : Nat → Nat) (x1 : Int32) (o0 : Ob) {r : Int32} {o0' : Ob} (hF : FX7_layEnding x1 o0 = some (r, o0')) : Ctr g yX7_layEnding (Cond.code yX7_layEnding cX7_layEnding 3 (some .boolean) :: wsL_law) 4 94 [(shX7, h0, o0)] [(shX7, h0, o0')] [.ref (h0 0), .int x1] (some (.int r)) := by
  refine Ctr.of (cc := cX7_layEnding) (maxL := 3) (ret := (some .boolean)) (by decide) rfl (Nat.le_of_ble_eq_true rfl) ?_
  intro X C Rk
  replace C : CxOk g X cX7_layEnding RX7 (Cond.code yX7_layEnding cX7_layEnding 3 (some .boolean) :: wsL_law) 3 4 94 := C
  show J g X [(shX7, h0, o0)] 0 [(0, .ref (h0 0)), (1, .int x1)] []
  unfold FX7_layEnding at hF
  refine j_aload_n C 0 dX7_layEnding_0 rfl rfl ?_
  refine j_iconst (v := (2 : Int32)) C dX7_layEnding_1 rfl ?_
  refine j_iload_n C 1 dX7_layEnding_2 rfl rfl ?_
  obtain ⟨o0_1, k_2, hF⟩ := gb1 hF
  refine j_callVv C (os' := [(shX7, h0, o0_1)]) [.int (2 : Int32), .int x1] (kX7_copy g h0 (2 : Int32) x1 o0 k_2) [0] rfl rfl rfl rfl 0 rfl rfl (wl_gV mw_25_17 mw_25_18 mw_25_19 mw_1_5 mw_25_20) rfl 2 rfl hd_X7_copy ⟨Nat.le_of_ble_eq_true rfl, Nat.le_of_ble_eq_true rfl⟩ (Nat.le_of_ble_eq_true rfl) rfl dX7_layEnding_3 ?_
  refine j_aload_n C 0 dX7_layEnding_6 rfl rfl ?_
  refine j_iconst (v := (2 : Int32)) C dX7_layEnding_7 rfl ?_
  obtain ⟨o0_4, e_3, hF⟩ := glT hF
  refine j_putV C tyX7_ok nmX7 0 4 rfl rfl (Nat.le_of_ble_eq_true rfl) rfl in1_X7 (List.mem_cons_of_mem _ mw_5_19) rfl fd_X7_4 rfl rfl [(shX7, h0, o0_4)] (by rw [e_3]; rfl) dX7_layEnding_8 ?_
  refine j_iconst (v := (0 : Int32)) C dX7_layEnding_11 rfl ?_
  refine j_istore_n C [(2, .int (0 : Int32)), (0, .ref (h0 0)), (1, .int x1)] dX7_layEnding_12 rfl (Nat.le_of_ble_eq_true rfl) rfl rfl ?_
  refine j_sub [(0, .ref (h0 0)), (2, .int (0 : Int32))] [1, 0] rfl ?_
  refine lX7_layEnding_13 C h0  _ Rk (fun o0_11 hF => ?_) _ _ _ hF
  refine lX7_layEnding_31 C h0  _ Rk (fun o0_26 hF => ?_) _ _ hF
  exact bX7_layEnding_80 C h0 _ Rk  hF
/-! HeadsMeetModel.layMuch -/
def LX7_layMuch_31 (x1 : Int32) (x2 : Int32) (x3 : Int32) (x4 : Int32) (E70 : Ob → Option (Ob)) : Nat → Int32 → Ob → Option (Ob)
  | 0, _, _ => none
  | n + 1, x5, o0 =>
    if (4 : Int32) ≤ x5 then
      E70 o0
    else
      if x4 = 0 then
        if inb (((4 : Int32) * x3) + x5) 16 then
        lT (sA o0 40 (((4 : Int32) * x3) + x5).toNatClampNeg (-1 : Int32)) fun o0_18 =>
        lT (x5 + (1 : Int32)) fun x5_19 =>
        LX7_layMuch_31 x1 x2 x3 x4 E70 n x5_19 o0_18
        else none
      else
        if inb x5 4 then
        if inb (((4 : Int32) * x3) + x5) 16 then
        lT (sA o0 40 (((4 : Int32) * x3) + x5).toNatClampNeg (oA o0 30 x5.toNatClampNeg)) fun o0_13 =>
        lT (x5 + (1 : Int32)) fun x5_14 =>
        LX7_layMuch_31 x1 x2 x3 x4 E70 n x5_14 o0_13
        else none
        else none
def LX7_layMuch_9 (x1 : Int32) (x2 : Int32) (E76 : Ob → Option (Ob)) : Nat → Int32 → Ob → Option (Ob)
  | 0, _, _ => none
  | n + 1, x3, o0 =>
    if (4 : Int32) ≤ x3 then
      E76 o0
    else
      if inb x1 720 then
      lT (sA o0 0 x1.toNatClampNeg x3) fun o0_6 =>
      b2 (FX7_layEnding (0 : Int32) o0_6) fun r_7 o0_8 =>
      LX7_layMuch_31 x1 x2 x3 r_7 (fun o0_23 =>
       lT (x3 + (1 : Int32)) fun x3_24 =>
       LX7_layMuch_9 x1 x2 E76 n x3_24 o0_23) fu (0 : Int32) o0_8
      else none
def FX7_layMuch (x1 : Int32) (o0 : Ob) : Option (Ob) :=
  if inb x1 720 then
  lT (oA o0 0 x1.toNatClampNeg) fun x2_2 =>
  LX7_layMuch_9 x1 x2_2 (fun o0_27 =>
   if inb x1 720 then
   lT (sA o0_27 0 x1.toNatClampNeg x2_2) fun o0_30 =>
   some o0_30
   else none) fu (1 : Int32) o0
  else none
set_option maxRecDepth 100000 in
set_option maxHeartbeats 4000000 in
theorem lX7_layMuch_31 {g : Gl} {X : Cxt} (C : CxOk g X cX7_layMuch RX7 (Cond.code yX7_layMuch cX7_layMuch 6 none :: wsL_law) 6 5 116) {o0' : Ob} (h0 : Nat → Nat) (x1 : Int32) (x2 : Int32) (x3 : Int32) (x4 : Int32) (E70 : Ob → Option (Ob)) (Rk : RetOk g X [(shX7, h0, o0')] none none) (hE70 : ∀ (o0 : Ob), E70 o0 = some o0' → J g X [(shX7, h0, o0)] 70 [(0, .ref (h0 0)), (1, .int x1), (2, .int x2), (3, .int x3)] []) : ∀ (n : Nat) (x5 : Int32) (o0 : Ob), LX7_layMuch_31 x1 x2 x3 x4 E70 n x5 o0 = some o0' → J g X [(shX7, h0, o0)] 31 [(0, .ref (h0 0)), (1, .int x1), (2, .int x2), (3, .int x3), (4, .int x4), (5, .int x5)] [] := by
  intro n
  induction n with
  | zero =>
    intro x5 o0 hF
    cases hF
  | succ n ih =>
    intro x5 o0 hF
    rw [LX7_layMuch_31.eq_2] at hF
    refine j_iload C 5 dX7_layMuch_31 rfl ?_
    refine j_iconst (v := (4 : Int32)) C dX7_layMuch_33 rfl ?_
    refine j_icmp_ge C 70 dX7_layMuch_34 rfl (fun c_22 => ?_) (fun c_22 => ?_)
    · have hF := (if_pos c_22).symm.trans hF
      refine j_sub [(0, .ref (h0 0)), (1, .int x1), (2, .int x2), (3, .int x3)] [0, 1, 2, 3] rfl ?_
      exact hE70 _ hF
    · have hF := (if_neg c_22).symm.trans hF
      refine j_aload_n C 0 dX7_layMuch_37 rfl rfl ?_
      refine j_get (v := .ref (h0 41)) C 0 40 rfl rfl (Nat.le_of_ble_eq_true rfl) rfl rfl in1_X7 (List.mem_cons_of_mem _ mw_5_14) dX7_layMuch_38 ?_
      refine j_iconst (v := (4 : Int32)) C dX7_layMuch_41 rfl ?_
      refine j_iload_n C 3 dX7_layMuch_42 rfl rfl ?_
      refine j_imul C dX7_layMuch_43 ?_
      refine j_iload C 5 dX7_layMuch_44 rfl ?_
      refine j_iadd C dX7_layMuch_46 ?_
      refine j_iload C 4 dX7_layMuch_47 rfl ?_
      refine j_if_eq C 62 dX7_layMuch_49 rfl (fun c_21 => ?_) (fun c_21 => ?_)
      · have hF := (if_pos c_21).symm.trans hF
        refine j_iconst (v := (-1 : Int32)) C dX7_layMuch_62 rfl ?_
        obtain ⟨z_16, hF⟩ := gi hF
        obtain ⟨o0_18, e_17, hF⟩ := glT hF
        refine j_iast C 0 40 rfl rfl z_16 [(shX7, h0, o0_18)] (by rw [e_17]; rfl) dX7_layMuch_63 ?_
        obtain ⟨x5_19, e_20, hF⟩ := glT hF
        refine j_iinc C 5 [(5, .int x5_19), (0, .ref (h0 0)), (1, .int x1), (2, .int x2), (3, .int x3), (4, .int x4)] dX7_layMuch_64 rfl e_20.symm (Nat.le_of_ble_eq_true rfl) rfl ?_
        refine j_goto C 31 dX7_layMuch_67 rfl ?_
        refine j_sub [(0, .ref (h0 0)), (1, .int x1), (2, .int x2), (3, .int x3), (4, .int x4), (5, .int x5_19)] [1, 2, 3, 4, 5, 0] rfl ?_
        exact ih _ _ hF
      · have hF := (if_neg c_21).symm.trans hF
        refine j_aload_n C 0 dX7_layMuch_52 rfl rfl ?_
        refine j_get (v := .ref (h0 31)) C 0 30 rfl rfl (Nat.le_of_ble_eq_true rfl) rfl rfl in1_X7 (List.mem_cons_of_mem _ mw_5_8) dX7_layMuch_53 ?_
        refine j_iload C 5 dX7_layMuch_56 rfl ?_
        obtain ⟨z_10, hF⟩ := gi hF
        refine j_iald C 0 30 rfl rfl z_10 dX7_layMuch_58 ?_
        refine j_goto C 63 dX7_layMuch_59 rfl ?_
        obtain ⟨z_11, hF⟩ := gi hF
        obtain ⟨o0_13, e_12, hF⟩ := glT hF
        refine j_iast C 0 40 rfl rfl z_11 [(shX7, h0, o0_13)] (by rw [e_12]; rfl) dX7_layMuch_63 ?_
        obtain ⟨x5_14, e_15, hF⟩ := glT hF
        refine j_iinc C 5 [(5, .int x5_14), (0, .ref (h0 0)), (1, .int x1), (2, .int x2), (3, .int x3), (4, .int x4)] dX7_layMuch_64 rfl e_15.symm (Nat.le_of_ble_eq_true rfl) rfl ?_
        refine j_goto C 31 dX7_layMuch_67 rfl ?_
        refine j_sub [(0, .ref (h0 0)), (1, .int x1), (2, .int x2), (3, .int x3), (4, .int x4), (5, .int x5_14)] [1, 2, 3, 4, 5, 0] rfl ?_
        exact ih _ _ hF
set_option maxRecDepth 100000 in
set_option maxHeartbeats 4000000 in
theorem lX7_layMuch_9 {g : Gl} {X : Cxt} (C : CxOk g X cX7_layMuch RX7 (Cond.code yX7_layMuch cX7_layMuch 6 none :: wsL_law) 6 5 116) {o0' : Ob} (h0 : Nat → Nat) (x1 : Int32) (x2 : Int32) (E76 : Ob → Option (Ob)) (Rk : RetOk g X [(shX7, h0, o0')] none none) (hE76 : ∀ (o0 : Ob), E76 o0 = some o0' → J g X [(shX7, h0, o0)] 76 [(0, .ref (h0 0)), (1, .int x1), (2, .int x2)] []) : ∀ (n : Nat) (x3 : Int32) (o0 : Ob), LX7_layMuch_9 x1 x2 E76 n x3 o0 = some o0' → J g X [(shX7, h0, o0)] 9 [(0, .ref (h0 0)), (1, .int x1), (2, .int x2), (3, .int x3)] [] := by
  intro n
  induction n with
  | zero =>
    intro x3 o0 hF
    cases hF
  | succ n ih =>
    intro x3 o0 hF
    rw [LX7_layMuch_9.eq_2] at hF
    refine j_iload_n C 3 dX7_layMuch_9 rfl rfl ?_
    refine j_iconst (v := (4 : Int32)) C dX7_layMuch_10 rfl ?_
    refine j_icmp_ge C 76 dX7_layMuch_11 rfl (fun c_26 => ?_) (fun c_26 => ?_)
    · have hF := (if_pos c_26).symm.trans hF
      refine j_sub [(0, .ref (h0 0)), (1, .int x1), (2, .int x2)] [0, 1, 2] rfl ?_
      exact hE76 _ hF
    · have hF := (if_neg c_26).symm.trans hF
      refine j_aload_n C 0 dX7_layMuch_14 rfl rfl ?_
      refine j_get (v := .ref (h0 1)) C 0 0 rfl rfl (Nat.le_of_ble_eq_true rfl) rfl rfl in1_X7 (List.mem_cons_of_mem _ mw_4_10) dX7_layMuch_15 ?_
      refine j_iload_n C 1 dX7_layMuch_18 rfl rfl ?_
      refine j_iload_n C 3 dX7_layMuch_19 rfl rfl ?_
      obtain ⟨z_4, hF⟩ := gi hF
      obtain ⟨o0_6, e_5, hF⟩ := glT hF
      refine j_iast C 0 0 rfl rfl z_4 [(shX7, h0, o0_6)] (by rw [e_5]; rfl) dX7_layMuch_20 ?_
      refine j_aload_n C 0 dX7_layMuch_21 rfl rfl ?_
      refine j_iconst (v := (0 : Int32)) C dX7_layMuch_22 rfl ?_
      obtain ⟨r_7, o0_8, k_9, hF⟩ := gb2 hF
      refine j_callVi C (os' := [(shX7, h0, o0_8)]) [.int (0 : Int32)] (kX7_layEnding g h0 (0 : Int32) o0_6 k_9) [0] rfl rfl rfl rfl 0 rfl rfl (wl_gV mw_25_13 mw_25_14 mw_25_15 mw_1_5 mw_25_16) rfl 1 rfl hd_X7_layEnding ⟨Nat.le_of_ble_eq_true rfl, Nat.le_of_ble_eq_true rfl⟩ (Nat.le_of_ble_eq_true rfl) rfl dX7_layMuch_23 ?_
      refine j_istore C [(4, .int r_7), (0, .ref (h0 0)), (1, .int x1), (2, .int x2), (3, .int x3)] dX7_layMuch_26 (Nat.le_of_ble_eq_true rfl) rfl rfl ?_
      refine j_iconst (v := (0 : Int32)) C dX7_layMuch_28 rfl ?_
      refine j_istore C [(5, .int (0 : Int32)), (4, .int r_7), (0, .ref (h0 0)), (1, .int x1), (2, .int x2), (3, .int x3)] dX7_layMuch_29 (Nat.le_of_ble_eq_true rfl) rfl rfl ?_
      refine j_sub [(0, .ref (h0 0)), (1, .int x1), (2, .int x2), (3, .int x3), (4, .int r_7), (5, .int (0 : Int32))] [2, 3, 4, 5, 1, 0] rfl ?_
      refine lX7_layMuch_31 C h0 x1 x2 x3 r_7 _ Rk (fun o0_23 hF => ?_) _ _ _ hF
      obtain ⟨x3_24, e_25, hF⟩ := glT hF
      refine j_iinc C 3 [(3, .int x3_24), (0, .ref (h0 0)), (1, .int x1), (2, .int x2)] dX7_layMuch_70 rfl e_25.symm (Nat.le_of_ble_eq_true rfl) rfl ?_
      refine j_goto C 9 dX7_layMuch_73 rfl ?_
      refine j_sub [(0, .ref (h0 0)), (1, .int x1), (2, .int x2), (3, .int x3_24)] [1, 2, 3, 0] rfl ?_
      exact ih _ _ hF
set_option maxRecDepth 100000 in
set_option maxHeartbeats 4000000 in
theorem kX7_layMuch (g : Gl) (h0 : Nat → Nat) (x1 : Int32) (o0 : Ob) {o0' : Ob} (hF : FX7_layMuch x1 o0 = some o0') : Ctr g yX7_layMuch (Cond.code yX7_layMuch cX7_layMuch 6 none :: wsL_law) 5 116 [(shX7, h0, o0)] [(shX7, h0, o0')] [.ref (h0 0), .int x1] none := by
  refine Ctr.of (cc := cX7_layMuch) (maxL := 6) (ret := none) (by decide) rfl (Nat.le_of_ble_eq_true rfl) ?_
  intro X C Rk
  replace C : CxOk g X cX7_layMuch RX7 (Cond.code yX7_layMuch cX7_layMuch 6 none :: wsL_law) 6 5 116 := C
  show J g X [(shX7, h0, o0)] 0 [(0, .ref (h0 0)), (1, .int x1)] []
  unfold FX7_layMuch at hF
  refine j_aload_n C 0 dX7_layMuch_0 rfl rfl ?_
  refine j_get (v := .ref (h0 1)) C 0 0 rfl rfl (Nat.le_of_ble_eq_true rfl) rfl rfl in1_X7 (List.mem_cons_of_mem _ mw_4_10) dX7_layMuch_1 ?_
  refine j_iload_n C 1 dX7_layMuch_4 rfl rfl ?_
  obtain ⟨z_1, hF⟩ := gi hF
  refine j_iald C 0 0 rfl rfl z_1 dX7_layMuch_5 ?_
  obtain ⟨x2_2, e_3, hF⟩ := glT hF
  refine j_istore_n C [(2, .int x2_2), (0, .ref (h0 0)), (1, .int x1)] dX7_layMuch_6 rfl (Nat.le_of_ble_eq_true rfl) e_3 rfl ?_
  refine j_iconst (v := (1 : Int32)) C dX7_layMuch_7 rfl ?_
  refine j_istore_n C [(3, .int (1 : Int32)), (2, .int x2_2), (0, .ref (h0 0)), (1, .int x1)] dX7_layMuch_8 rfl (Nat.le_of_ble_eq_true rfl) rfl rfl ?_
  refine j_sub [(0, .ref (h0 0)), (1, .int x1), (2, .int x2_2), (3, .int (1 : Int32))] [2, 3, 1, 0] rfl ?_
  refine lX7_layMuch_9 C h0 x1 x2_2 _ Rk (fun o0_27 hF => ?_) _ _ _ hF
  refine j_aload_n C 0 dX7_layMuch_76 rfl rfl ?_
  refine j_get (v := .ref (h0 1)) C 0 0 rfl rfl (Nat.le_of_ble_eq_true rfl) rfl rfl in1_X7 (List.mem_cons_of_mem _ mw_4_10) dX7_layMuch_77 ?_
  refine j_iload_n C 1 dX7_layMuch_80 rfl rfl ?_
  refine j_iload_n C 2 dX7_layMuch_81 rfl rfl ?_
  obtain ⟨z_28, hF⟩ := gi hF
  obtain ⟨o0_30, e_29, hF⟩ := glT hF
  refine j_iast C 0 0 rfl rfl z_28 [(shX7, h0, o0_30)] (by rw [e_29]; rfl) dX7_layMuch_82 ?_
  cases hF
  exact j_vret C Rk dX7_layMuch_83
/-! HeadsMeetModel.kindsBy -/
def LX7_kindsBy_15 (x1 : Int32) (x2 : Int32) (x3 : Int32) (o0 : Ob) (E79 : Int32 → Option (Int32)) : Nat → Int32 → Int32 → Option (Int32)
  | 0, _, _ => none
  | n + 1, x4, x5 =>
    if (oV o0 7) ≤ x5 then
      E79 x4
    else
      if x4 = 0 then
        lT (x5 + (1 : Int32)) fun x5_11 =>
        LX7_kindsBy_15 x1 x2 x3 o0 E79 n (0 : Int32) x5_11
      else
        if inb x5 6 then
        if (oA o0 8 x5.toNatClampNeg) = x1 then
          if inb (((4 : Int32) * x3) + (oA o0 9 x5.toNatClampNeg)) 16 then
          if (oA o0 40 (((4 : Int32) * x3) + (oA o0 9 x5.toNatClampNeg)).toNatClampNeg) = (oA o0 10 x5.toNatClampNeg) then
            lT (x5 + (1 : Int32)) fun x5_3 =>
            LX7_kindsBy_15 x1 x2 x3 o0 E79 n (1 : Int32) x5_3
          else
            lT (x5 + (1 : Int32)) fun x5_5 =>
            LX7_kindsBy_15 x1 x2 x3 o0 E79 n (0 : Int32) x5_5
          else none
        else
          lT (x5 + (1 : Int32)) fun x5_8 =>
          LX7_kindsBy_15 x1 x2 x3 o0 E79 n (1 : Int32) x5_8
        else none
def LX7_kindsBy_4 (x1 : Int32) (o0 : Ob) : Nat → Int32 → Int32 → Option (Int32)
  | 0, _, _ => none
  | n + 1, x2, x3 =>
    if (4 : Int32) ≤ x3 then
      some x2
    else
      LX7_kindsBy_15 x1 x2 x3 o0 (fun x4_15 =>
       if x4_15 = 0 then
        lT (x2 ||| (0 : Int32)) fun x2_20 =>
        lT (x3 + (1 : Int32)) fun x3_22 =>
        LX7_kindsBy_4 x1 o0 n x2_20 x3_22
       else
        lT (x2 ||| ((1 : Int32) <<< (x3 &&& 31))) fun x2_16 =>
        lT (x3 + (1 : Int32)) fun x3_18 =>
        LX7_kindsBy_4 x1 o0 n x2_16 x3_18) fu (1 : Int32) (0 : Int32)
def FX7_kindsBy (x1 : Int32) (o0 : Ob) : Option (Int32) :=
  LX7_kindsBy_4 x1 o0 fu (0 : Int32) (1 : Int32)
set_option maxRecDepth 100000 in
set_option maxHeartbeats 4000000 in
theorem lX7_kindsBy_15 {g : Gl} {X : Cxt} (C : CxOk g X cX7_kindsBy RX7 (Cond.code yX7_kindsBy cX7_kindsBy 6 (some .int) :: wsL_law) 6 0 0) {r : Int32} (h0 : Nat → Nat) (x1 : Int32) (x2 : Int32) (x3 : Int32) (o0 : Ob) (E79 : Int32 → Option (Int32)) (Rk : RetOk g X [(shX7, h0, o0)] (some (.int r)) (some .int)) (hE79 : ∀ (x4 : Int32), E79 x4 = some r → J g X [(shX7, h0, o0)] 79 [(0, .ref (h0 0)), (1, .int x1), (2, .int x2), (3, .int x3), (4, .int x4)] []) : ∀ (n : Nat) (x4 : Int32) (x5 : Int32), LX7_kindsBy_15 x1 x2 x3 o0 E79 n x4 x5 = some r → J g X [(shX7, h0, o0)] 15 [(0, .ref (h0 0)), (1, .int x1), (2, .int x2), (3, .int x3), (4, .int x4), (5, .int x5)] [] := by
  intro n
  induction n with
  | zero =>
    intro x4 x5 hF
    cases hF
  | succ n ih =>
    intro x4 x5 hF
    rw [LX7_kindsBy_15.eq_2] at hF
    refine j_iload C 5 dX7_kindsBy_15 rfl ?_
    refine j_aload_n C 0 dX7_kindsBy_17 rfl rfl ?_
    refine j_get (v := .int (oV o0 7)) C 0 7 rfl rfl (Nat.le_of_ble_eq_true rfl) rfl rfl in1_X7 (List.mem_cons_of_mem _ mw_18_8) dX7_kindsBy_18 ?_
    refine j_icmp_ge C 79 dX7_kindsBy_21 rfl (fun c_14 => ?_) (fun c_14 => ?_)
    · have hF := (if_pos c_14).symm.trans hF
      refine j_sub [(0, .ref (h0 0)), (1, .int x1), (2, .int x2), (3, .int x3), (4, .int x4)] [0, 1, 2, 3, 4] rfl ?_
      exact hE79 _ hF
    · have hF := (if_neg c_14).symm.trans hF
      refine j_iload C 4 dX7_kindsBy_24 rfl ?_
      refine j_if_eq C 70 dX7_kindsBy_26 rfl (fun c_13 => ?_) (fun c_13 => ?_)
      · have hF := (if_pos c_13).symm.trans hF
        refine j_iconst (v := (0 : Int32)) C dX7_kindsBy_70 rfl ?_
        refine j_istore C [(4, .int (0 : Int32)), (0, .ref (h0 0)), (1, .int x1), (2, .int x2), (3, .int x3), (5, .int x5)] dX7_kindsBy_71 (Nat.le_of_ble_eq_true rfl) rfl rfl ?_
        obtain ⟨x5_11, e_12, hF⟩ := glT hF
        refine j_iinc C 5 [(5, .int x5_11), (4, .int (0 : Int32)), (0, .ref (h0 0)), (1, .int x1), (2, .int x2), (3, .int x3)] dX7_kindsBy_73 rfl e_12.symm (Nat.le_of_ble_eq_true rfl) rfl ?_
        refine j_goto C 15 dX7_kindsBy_76 rfl ?_
        refine j_sub [(0, .ref (h0 0)), (1, .int x1), (2, .int x2), (3, .int x3), (4, .int (0 : Int32)), (5, .int x5_11)] [2, 3, 4, 5, 1, 0] rfl ?_
        exact ih _ _ hF
      · have hF := (if_neg c_13).symm.trans hF
        refine j_aload_n C 0 dX7_kindsBy_29 rfl rfl ?_
        refine j_get (v := .ref (h0 9)) C 0 8 rfl rfl (Nat.le_of_ble_eq_true rfl) rfl rfl in1_X7 (List.mem_cons_of_mem _ mw_4_15) dX7_kindsBy_30 ?_
        refine j_iload C 5 dX7_kindsBy_33 rfl ?_
        obtain ⟨z_1, hF⟩ := gi hF
        refine j_iald C 0 8 rfl rfl z_1 dX7_kindsBy_35 ?_
        refine j_iload_n C 1 dX7_kindsBy_36 rfl rfl ?_
        refine j_icmp_ne C 66 dX7_kindsBy_37 rfl (fun c_10 => ?_) (fun c_10 => ?_)
        · have hF := (if_neg c_10).symm.trans hF
          refine j_iconst (v := (1 : Int32)) C dX7_kindsBy_66 rfl ?_
          refine j_goto C 71 dX7_kindsBy_67 rfl ?_
          refine j_istore C [(4, .int (1 : Int32)), (0, .ref (h0 0)), (1, .int x1), (2, .int x2), (3, .int x3), (5, .int x5)] dX7_kindsBy_71 (Nat.le_of_ble_eq_true rfl) rfl rfl ?_
          obtain ⟨x5_8, e_9, hF⟩ := glT hF
          refine j_iinc C 5 [(5, .int x5_8), (4, .int (1 : Int32)), (0, .ref (h0 0)), (1, .int x1), (2, .int x2), (3, .int x3)] dX7_kindsBy_73 rfl e_9.symm (Nat.le_of_ble_eq_true rfl) rfl ?_
          refine j_goto C 15 dX7_kindsBy_76 rfl ?_
          refine j_sub [(0, .ref (h0 0)), (1, .int x1), (2, .int x2), (3, .int x3), (4, .int (1 : Int32)), (5, .int x5_8)] [2, 3, 4, 5, 1, 0] rfl ?_
          exact ih _ _ hF
        · have hF := (if_pos c_10).symm.trans hF
          refine j_aload_n C 0 dX7_kindsBy_40 rfl rfl ?_
          refine j_get (v := .ref (h0 41)) C 0 40 rfl rfl (Nat.le_of_ble_eq_true rfl) rfl rfl in1_X7 (List.mem_cons_of_mem _ mw_5_14) dX7_kindsBy_41 ?_
          refine j_iconst (v := (4 : Int32)) C dX7_kindsBy_44 rfl ?_
          refine j_iload_n C 3 dX7_kindsBy_45 rfl rfl ?_
          refine j_imul C dX7_kindsBy_46 ?_
          refine j_aload_n C 0 dX7_kindsBy_47 rfl rfl ?_
          refine j_get (v := .ref (h0 10)) C 0 9 rfl rfl (Nat.le_of_ble_eq_true rfl) rfl rfl in1_X7 (List.mem_cons_of_mem _ mw_4_16) dX7_kindsBy_48 ?_
          refine j_iload C 5 dX7_kindsBy_51 rfl ?_
          refine j_iald C 0 9 rfl rfl z_1 dX7_kindsBy_53 ?_
          refine j_iadd C dX7_kindsBy_54 ?_
          obtain ⟨z_2, hF⟩ := gi hF
          refine j_iald C 0 40 rfl rfl z_2 dX7_kindsBy_55 ?_
          refine j_aload_n C 0 dX7_kindsBy_56 rfl rfl ?_
          refine j_get (v := .ref (h0 11)) C 0 10 rfl rfl (Nat.le_of_ble_eq_true rfl) rfl rfl in1_X7 (List.mem_cons_of_mem _ mw_4_17) dX7_kindsBy_57 ?_
          refine j_iload C 5 dX7_kindsBy_60 rfl ?_
          refine j_iald C 0 10 rfl rfl z_1 dX7_kindsBy_62 ?_
          refine j_icmp_ne C 70 dX7_kindsBy_63 rfl (fun c_7 => ?_) (fun c_7 => ?_)
          · have hF := (if_neg c_7).symm.trans hF
            refine j_iconst (v := (0 : Int32)) C dX7_kindsBy_70 rfl ?_
            refine j_istore C [(4, .int (0 : Int32)), (0, .ref (h0 0)), (1, .int x1), (2, .int x2), (3, .int x3), (5, .int x5)] dX7_kindsBy_71 (Nat.le_of_ble_eq_true rfl) rfl rfl ?_
            obtain ⟨x5_5, e_6, hF⟩ := glT hF
            refine j_iinc C 5 [(5, .int x5_5), (4, .int (0 : Int32)), (0, .ref (h0 0)), (1, .int x1), (2, .int x2), (3, .int x3)] dX7_kindsBy_73 rfl e_6.symm (Nat.le_of_ble_eq_true rfl) rfl ?_
            refine j_goto C 15 dX7_kindsBy_76 rfl ?_
            refine j_sub [(0, .ref (h0 0)), (1, .int x1), (2, .int x2), (3, .int x3), (4, .int (0 : Int32)), (5, .int x5_5)] [2, 3, 4, 5, 1, 0] rfl ?_
            exact ih _ _ hF
          · have hF := (if_pos c_7).symm.trans hF
            refine j_iconst (v := (1 : Int32)) C dX7_kindsBy_66 rfl ?_
            refine j_goto C 71 dX7_kindsBy_67 rfl ?_
            refine j_istore C [(4, .int (1 : Int32)), (0, .ref (h0 0)), (1, .int x1), (2, .int x2), (3, .int x3), (5, .int x5)] dX7_kindsBy_71 (Nat.le_of_ble_eq_true rfl) rfl rfl ?_
            obtain ⟨x5_3, e_4, hF⟩ := glT hF
            refine j_iinc C 5 [(5, .int x5_3), (4, .int (1 : Int32)), (0, .ref (h0 0)), (1, .int x1), (2, .int x2), (3, .int x3)] dX7_kindsBy_73 rfl e_4.symm (Nat.le_of_ble_eq_true rfl) rfl ?_
            refine j_goto C 15 dX7_kindsBy_76 rfl ?_
            refine j_sub [(0, .ref (h0 0)), (1, .int x1), (2, .int x2), (3, .int x3), (4, .int (1 : Int32)), (5, .int x5_3)] [2, 3, 4, 5, 1, 0] rfl ?_
            exact ih _ _ hF
set_option maxRecDepth 100000 in
set_option maxHeartbeats 4000000 in
theorem lX7_kindsBy_4 {g : Gl} {X : Cxt} (C : CxOk g X cX7_kindsBy RX7 (Cond.code yX7_kindsBy cX7_kindsBy 6 (some .int) :: wsL_law) 6 0 0) {r : Int32} (h0 : Nat → Nat) (x1 : Int32) (o0 : Ob)  (Rk : RetOk g X [(shX7, h0, o0)] (some (.int r)) (some .int))  : ∀ (n : Nat) (x2 : Int32) (x3 : Int32), LX7_kindsBy_4 x1 o0 n x2 x3 = some r → J g X [(shX7, h0, o0)] 4 [(0, .ref (h0 0)), (1, .int x1), (2, .int x2), (3, .int x3)] [] := by
  intro n
  induction n with
  | zero =>
    intro x2 x3 hF
    cases hF
  | succ n ih =>
    intro x2 x3 hF
    rw [LX7_kindsBy_4.eq_2] at hF
    refine j_iload_n C 3 dX7_kindsBy_4 rfl rfl ?_
    refine j_iconst (v := (4 : Int32)) C dX7_kindsBy_5 rfl ?_
    refine j_icmp_ge C 100 dX7_kindsBy_6 rfl (fun c_25 => ?_) (fun c_25 => ?_)
    · have hF := (if_pos c_25).symm.trans hF
      refine j_iload_n C 2 dX7_kindsBy_100 rfl rfl ?_
      cases hF
      exact j_iret C Rk dX7_kindsBy_101
    · have hF := (if_neg c_25).symm.trans hF
      refine j_iconst (v := (1 : Int32)) C dX7_kindsBy_9 rfl ?_
      refine j_istore C [(4, .int (1 : Int32)), (0, .ref (h0 0)), (1, .int x1), (2, .int x2), (3, .int x3)] dX7_kindsBy_10 (Nat.le_of_ble_eq_true rfl) rfl rfl ?_
      refine j_iconst (v := (0 : Int32)) C dX7_kindsBy_12 rfl ?_
      refine j_istore C [(5, .int (0 : Int32)), (4, .int (1 : Int32)), (0, .ref (h0 0)), (1, .int x1), (2, .int x2), (3, .int x3)] dX7_kindsBy_13 (Nat.le_of_ble_eq_true rfl) rfl rfl ?_
      refine j_sub [(0, .ref (h0 0)), (1, .int x1), (2, .int x2), (3, .int x3), (4, .int (1 : Int32)), (5, .int (0 : Int32))] [2, 3, 4, 5, 1, 0] rfl ?_
      refine lX7_kindsBy_15 C h0 x1 x2 x3 o0 _ Rk (fun x4_15 hF => ?_) _ _ _ hF
      refine j_iload_n C 2 dX7_kindsBy_79 rfl rfl ?_
      refine j_iload C 4 dX7_kindsBy_80 rfl ?_
      refine j_if_eq C 91 dX7_kindsBy_82 rfl (fun c_24 => ?_) (fun c_24 => ?_)
      · have hF := (if_pos c_24).symm.trans hF
        refine j_iconst (v := (0 : Int32)) C dX7_kindsBy_91 rfl ?_
        refine j_ior C dX7_kindsBy_92 ?_
        obtain ⟨x2_20, e_21, hF⟩ := glT hF
        refine j_istore_n C [(2, .int x2_20), (0, .ref (h0 0)), (1, .int x1), (3, .int x3), (4, .int x4_15)] dX7_kindsBy_93 rfl (Nat.le_of_ble_eq_true rfl) e_21 rfl ?_
        obtain ⟨x3_22, e_23, hF⟩ := glT hF
        refine j_iinc C 3 [(3, .int x3_22), (2, .int x2_20), (0, .ref (h0 0)), (1, .int x1), (4, .int x4_15)] dX7_kindsBy_94 rfl e_23.symm (Nat.le_of_ble_eq_true rfl) rfl ?_
        refine j_goto C 4 dX7_kindsBy_97 rfl ?_
        refine j_sub [(0, .ref (h0 0)), (1, .int x1), (2, .int x2_20), (3, .int x3_22)] [2, 3, 1, 0] rfl ?_
        exact ih _ _ hF
      · have hF := (if_neg c_24).symm.trans hF
        refine j_iconst (v := (1 : Int32)) C dX7_kindsBy_85 rfl ?_
        refine j_iload_n C 3 dX7_kindsBy_86 rfl rfl ?_
        refine j_ishl C dX7_kindsBy_87 ?_
        refine j_goto C 92 dX7_kindsBy_88 rfl ?_
        refine j_ior C dX7_kindsBy_92 ?_
        obtain ⟨x2_16, e_17, hF⟩ := glT hF
        refine j_istore_n C [(2, .int x2_16), (0, .ref (h0 0)), (1, .int x1), (3, .int x3), (4, .int x4_15)] dX7_kindsBy_93 rfl (Nat.le_of_ble_eq_true rfl) e_17 rfl ?_
        obtain ⟨x3_18, e_19, hF⟩ := glT hF
        refine j_iinc C 3 [(3, .int x3_18), (2, .int x2_16), (0, .ref (h0 0)), (1, .int x1), (4, .int x4_15)] dX7_kindsBy_94 rfl e_19.symm (Nat.le_of_ble_eq_true rfl) rfl ?_
        refine j_goto C 4 dX7_kindsBy_97 rfl ?_
        refine j_sub [(0, .ref (h0 0)), (1, .int x1), (2, .int x2_16), (3, .int x3_18)] [2, 3, 1, 0] rfl ?_
        exact ih _ _ hF
set_option maxRecDepth 100000 in
set_option maxHeartbeats 4000000 in
theorem kX7_kindsBy (g : Gl) (h0 : Nat → Nat) (x1 : Int32) (o0 : Ob) {r : Int32} (hF : FX7_kindsBy x1 o0 = some r) : Ctr g yX7_kindsBy (Cond.code yX7_kindsBy cX7_kindsBy 6 (some .int) :: wsL_law) 0 0 [(shX7, h0, o0)] [(shX7, h0, o0)] [.ref (h0 0), .int x1] (some (.int r)) := by
  refine Ctr.of (cc := cX7_kindsBy) (maxL := 6) (ret := (some .int)) (by decide) rfl (Nat.le_of_ble_eq_true rfl) ?_
  intro X C Rk
  replace C : CxOk g X cX7_kindsBy RX7 (Cond.code yX7_kindsBy cX7_kindsBy 6 (some .int) :: wsL_law) 6 0 0 := C
  show J g X [(shX7, h0, o0)] 0 [(0, .ref (h0 0)), (1, .int x1)] []
  unfold FX7_kindsBy at hF
  refine j_iconst (v := (0 : Int32)) C dX7_kindsBy_0 rfl ?_
  refine j_istore_n C [(2, .int (0 : Int32)), (0, .ref (h0 0)), (1, .int x1)] dX7_kindsBy_1 rfl (Nat.le_of_ble_eq_true rfl) rfl rfl ?_
  refine j_iconst (v := (1 : Int32)) C dX7_kindsBy_2 rfl ?_
  refine j_istore_n C [(3, .int (1 : Int32)), (2, .int (0 : Int32)), (0, .ref (h0 0)), (1, .int x1)] dX7_kindsBy_3 rfl (Nat.le_of_ble_eq_true rfl) rfl rfl ?_
  refine j_sub [(0, .ref (h0 0)), (1, .int x1), (2, .int (0 : Int32)), (3, .int (1 : Int32))] [2, 3, 1, 0] rfl ?_
  refine lX7_kindsBy_4 C h0 x1 o0 Rk  _ _ _ hF
/-! HeadsMeetModel.kindsOf -/
def FX7_kindsOf (x1 : Int32) (o0 : Ob) : Option (Int32 × Ob) :=
  b1 (FX7_layMuch x1 o0) fun o0_1 =>
  b1 (FX7_kindsBy x1 o0_1) fun r_3 =>
  some (r_3, o0_1)
set_option maxRecDepth 100000 in
set_option maxHeartbeats 4000000 in
theorem kX7_kindsOf (g : Gl) (h0 : Nat → Nat) (x1 : Int32) (o0 : Ob) {r : Int32} {o0' : Ob} (hF : FX7_kindsOf x1 o0 = some (r, o0')) : Ctr g yX7_kindsOf (Cond.code yX7_kindsOf cX7_kindsOf 2 (some .int) :: wsL_law) 6 141 [(shX7, h0, o0)] [(shX7, h0, o0')] [.ref (h0 0), .int x1] (some (.int r)) := by
  refine Ctr.of (cc := cX7_kindsOf) (maxL := 2) (ret := (some .int)) (by decide) rfl (Nat.le_of_ble_eq_true rfl) ?_
  intro X C Rk
  replace C : CxOk g X cX7_kindsOf RX7 (Cond.code yX7_kindsOf cX7_kindsOf 2 (some .int) :: wsL_law) 2 6 141 := C
  show J g X [(shX7, h0, o0)] 0 [(0, .ref (h0 0)), (1, .int x1)] []
  unfold FX7_kindsOf at hF
  refine j_aload_n C 0 dX7_kindsOf_0 rfl rfl ?_
  refine j_iload_n C 1 dX7_kindsOf_1 rfl rfl ?_
  obtain ⟨o0_1, k_2, hF⟩ := gb1 hF
  refine j_callVv C (os' := [(shX7, h0, o0_1)]) [.int x1] (kX7_layMuch g h0 x1 o0 k_2) [0] rfl rfl rfl rfl 0 rfl rfl (wl_gV mw_25_9 mw_25_10 mw_25_11 mw_1_5 mw_25_12) rfl 1 rfl hd_X7_layMuch ⟨Nat.le_of_ble_eq_true rfl, Nat.le_of_ble_eq_true rfl⟩ (Nat.le_of_ble_eq_true rfl) rfl dX7_kindsOf_2 ?_
  refine j_aload_n C 0 dX7_kindsOf_5 rfl rfl ?_
  refine j_iload_n C 1 dX7_kindsOf_6 rfl rfl ?_
  obtain ⟨r_3, k_4, hF⟩ := gb1 hF
  refine j_callVi C (os' := [(shX7, h0, o0_1)]) [.int x1] (kX7_kindsBy g h0 x1 o0_1 k_4) [0] rfl rfl rfl rfl 0 rfl rfl (wl_gV mw_28_8 mw_28_9 mw_28_10 mw_1_5 mw_28_11) rfl 1 rfl hd_X7_kindsBy ⟨Nat.le_of_ble_eq_true rfl, Nat.le_of_ble_eq_true rfl⟩ (Nat.le_of_ble_eq_true rfl) rfl dX7_kindsOf_7 ?_
  cases hF
  exact j_iret C Rk dX7_kindsOf_10
/-! HeadsMeetModel.worstBy -/
def BX7_worstBy_43 (E17 : Int32 → Int32 → Option (Int32)) (x1 : Int32) (x2 : Int32) (x3 : Int32) (x4 : Int32) (x5 : Int32) (x6 : Int32) (y0 : Int32) (o0 : Ob) : Option (Int32) :=
  if y0 = 0 then
    lT (x5 + (0 : Int32)) fun x5_12 =>
    lT (x6 + (1 : Int32)) fun x6_14 =>
    E17 x5_12 x6_14
  else
    if inb (((4 : Int32) * x4) + x2) 16 then
    if inb (((4 : Int32) * x6) + x2) 16 then
    if (oA o0 40 (((4 : Int32) * x4) + x2).toNatClampNeg) = (oA o0 40 (((4 : Int32) * x6) + x2).toNatClampNeg) then
      lT (x5 + (1 : Int32)) fun x5_3 =>
      lT (x6 + (1 : Int32)) fun x6_5 =>
      E17 x5_3 x6_5
    else
      lT (x5 + (0 : Int32)) fun x5_7 =>
      lT (x6 + (1 : Int32)) fun x6_9 =>
      E17 x5_7 x6_9
    else none
    else none
def LX7_worstBy_17 (x1 : Int32) (x2 : Int32) (x3 : Int32) (x4 : Int32) (o0 : Ob) (E91 : Int32 → Option (Int32)) : Nat → Int32 → Int32 → Option (Int32)
  | 0, _, _ => none
  | n + 1, x5, x6 =>
    if (4 : Int32) ≤ x6 then
      E91 x5
    else
      if (((x1 >>> (x4 &&& 31)) &&& (x1 >>> (x6 &&& 31))) &&& (1 : Int32)) = (1 : Int32) then
        BX7_worstBy_43 (LX7_worstBy_17 x1 x2 x3 x4 o0 E91 n) x1 x2 x3 x4 x5 x6 (1 : Int32) o0
      else
        BX7_worstBy_43 (LX7_worstBy_17 x1 x2 x3 x4 o0 E91 n) x1 x2 x3 x4 x5 x6 (0 : Int32) o0
def LX7_worstBy_5 (x1 : Int32) (x2 : Int32) (o0 : Ob) : Nat → Int32 → Int32 → Option (Int32)
  | 0, _, _ => none
  | n + 1, x3, x4 =>
    if (4 : Int32) ≤ x4 then
      some x3
    else
      LX7_worstBy_17 x1 x2 x3 x4 o0 (fun x5_19 =>
       if x5_19 ≤ x3 then
        lT (x4 + (1 : Int32)) fun x4_22 =>
        LX7_worstBy_5 x1 x2 o0 n x3 x4_22
       else
        lT (x4 + (1 : Int32)) fun x4_20 =>
        LX7_worstBy_5 x1 x2 o0 n x5_19 x4_20) fu (0 : Int32) (1 : Int32)
def FX7_worstBy (x1 : Int32) (x2 : Int32) (o0 : Ob) : Option (Int32) :=
  LX7_worstBy_5 x1 x2 o0 fu (0 : Int32) (1 : Int32)
set_option maxRecDepth 100000 in
set_option maxHeartbeats 4000000 in
theorem bX7_worstBy_43 {g : Gl} {X : Cxt} (C : CxOk g X cX7_worstBy RX7 (Cond.code yX7_worstBy cX7_worstBy 8 (some .int) :: wsL_law) 8 0 0) {r : Int32} (h0 : Nat → Nat) (x1 : Int32) (x2 : Int32) (x3 : Int32) (x4 : Int32) (x5 : Int32) (x6 : Int32) (y0 : Int32) (o0 : Ob) (E17 : Int32 → Int32 → Option (Int32)) (Rk : RetOk g X [(shX7, h0, o0)] (some (.int r)) (some .int)) (hE17 : ∀ (x5 : Int32) (x6 : Int32), E17 x5 x6 = some r → J g X [(shX7, h0, o0)] 17 [(0, .ref (h0 0)), (1, .int x1), (2, .int x2), (3, .int x3), (4, .int x4), (5, .int x5), (6, .int x6)] []) (hF : BX7_worstBy_43 E17 x1 x2 x3 x4 x5 x6 y0 o0 = some r) : J g X [(shX7, h0, o0)] 43 [(0, .ref (h0 0)), (1, .int x1), (2, .int x2), (3, .int x3), (4, .int x4), (5, .int x5), (6, .int x6)] [.int y0] := by
  unfold BX7_worstBy_43 at hF
  refine j_istore C [(7, .int y0), (0, .ref (h0 0)), (1, .int x1), (2, .int x2), (3, .int x3), (4, .int x4), (5, .int x5), (6, .int x6)] dX7_worstBy_43 (Nat.le_of_ble_eq_true rfl) rfl rfl ?_
  refine j_iload C 6 dX7_worstBy_45 rfl ?_
  refine j_iload C 0 dX7_worstBy_47 rfl ?_
  refine j_if_eq C 81 dX7_worstBy_49 rfl (fun c_16 => ?_) (fun c_16 => ?_)
  · have hF := (if_pos c_16).symm.trans hF
    refine j_iconst (v := (0 : Int32)) C dX7_worstBy_81 rfl ?_
    refine j_iadd C dX7_worstBy_82 ?_
    obtain ⟨x5_12, e_13, hF⟩ := glT hF
    refine j_istore C [(5, .int x5_12), (7, .int y0), (0, .ref (h0 0)), (1, .int x1), (2, .int x2), (3, .int x3), (4, .int x4), (6, .int x6)] dX7_worstBy_83 (Nat.le_of_ble_eq_true rfl) e_13 rfl ?_
    obtain ⟨x6_14, e_15, hF⟩ := glT hF
    refine j_iinc C 7 [(6, .int x6_14), (5, .int x5_12), (7, .int y0), (0, .ref (h0 0)), (1, .int x1), (2, .int x2), (3, .int x3), (4, .int x4)] dX7_worstBy_85 rfl e_15.symm (Nat.le_of_ble_eq_true rfl) rfl ?_
    refine j_goto C 17 dX7_worstBy_88 rfl ?_
    refine j_sub [(0, .ref (h0 0)), (1, .int x1), (2, .int x2), (3, .int x3), (4, .int x4), (5, .int x5_12), (6, .int x6_14)] [3, 4, 5, 6, 7, 1, 0] rfl ?_
    exact hE17 _ _ hF
  · have hF := (if_neg c_16).symm.trans hF
    refine j_aload_n C 1 dX7_worstBy_52 rfl rfl ?_
    refine j_get (v := .ref (h0 41)) C 0 40 rfl rfl (Nat.le_of_ble_eq_true rfl) rfl rfl in1_X7 (List.mem_cons_of_mem _ mw_5_14) dX7_worstBy_53 ?_
    refine j_iconst (v := (4 : Int32)) C dX7_worstBy_56 rfl ?_
    refine j_iload C 5 dX7_worstBy_57 rfl ?_
    refine j_imul C dX7_worstBy_59 ?_
    refine j_iload_n C 3 dX7_worstBy_60 rfl rfl ?_
    refine j_iadd C dX7_worstBy_61 ?_
    obtain ⟨z_1, hF⟩ := gi hF
    refine j_iald C 0 40 rfl rfl z_1 dX7_worstBy_62 ?_
    refine j_aload_n C 1 dX7_worstBy_63 rfl rfl ?_
    refine j_get (v := .ref (h0 41)) C 0 40 rfl rfl (Nat.le_of_ble_eq_true rfl) rfl rfl in1_X7 (List.mem_cons_of_mem _ mw_5_14) dX7_worstBy_64 ?_
    refine j_iconst (v := (4 : Int32)) C dX7_worstBy_67 rfl ?_
    refine j_iload C 7 dX7_worstBy_68 rfl ?_
    refine j_imul C dX7_worstBy_70 ?_
    refine j_iload_n C 3 dX7_worstBy_71 rfl rfl ?_
    refine j_iadd C dX7_worstBy_72 ?_
    obtain ⟨z_2, hF⟩ := gi hF
    refine j_iald C 0 40 rfl rfl z_2 dX7_worstBy_73 ?_
    refine j_icmp_ne C 81 dX7_worstBy_74 rfl (fun c_11 => ?_) (fun c_11 => ?_)
    · have hF := (if_neg c_11).symm.trans hF
      refine j_iconst (v := (0 : Int32)) C dX7_worstBy_81 rfl ?_
      refine j_iadd C dX7_worstBy_82 ?_
      obtain ⟨x5_7, e_8, hF⟩ := glT hF
      refine j_istore C [(5, .int x5_7), (7, .int y0), (0, .ref (h0 0)), (1, .int x1), (2, .int x2), (3, .int x3), (4, .int x4), (6, .int x6)] dX7_worstBy_83 (Nat.le_of_ble_eq_true rfl) e_8 rfl ?_
      obtain ⟨x6_9, e_10, hF⟩ := glT hF
      refine j_iinc C 7 [(6, .int x6_9), (5, .int x5_7), (7, .int y0), (0, .ref (h0 0)), (1, .int x1), (2, .int x2), (3, .int x3), (4, .int x4)] dX7_worstBy_85 rfl e_10.symm (Nat.le_of_ble_eq_true rfl) rfl ?_
      refine j_goto C 17 dX7_worstBy_88 rfl ?_
      refine j_sub [(0, .ref (h0 0)), (1, .int x1), (2, .int x2), (3, .int x3), (4, .int x4), (5, .int x5_7), (6, .int x6_9)] [3, 4, 5, 6, 7, 1, 0] rfl ?_
      exact hE17 _ _ hF
    · have hF := (if_pos c_11).symm.trans hF
      refine j_iconst (v := (1 : Int32)) C dX7_worstBy_77 rfl ?_
      refine j_goto C 82 dX7_worstBy_78 rfl ?_
      refine j_iadd C dX7_worstBy_82 ?_
      obtain ⟨x5_3, e_4, hF⟩ := glT hF
      refine j_istore C [(5, .int x5_3), (7, .int y0), (0, .ref (h0 0)), (1, .int x1), (2, .int x2), (3, .int x3), (4, .int x4), (6, .int x6)] dX7_worstBy_83 (Nat.le_of_ble_eq_true rfl) e_4 rfl ?_
      obtain ⟨x6_5, e_6, hF⟩ := glT hF
      refine j_iinc C 7 [(6, .int x6_5), (5, .int x5_3), (7, .int y0), (0, .ref (h0 0)), (1, .int x1), (2, .int x2), (3, .int x3), (4, .int x4)] dX7_worstBy_85 rfl e_6.symm (Nat.le_of_ble_eq_true rfl) rfl ?_
      refine j_goto C 17 dX7_worstBy_88 rfl ?_
      refine j_sub [(0, .ref (h0 0)), (1, .int x1), (2, .int x2), (3, .int x3), (4, .int x4), (5, .int x5_3), (6, .int x6_5)] [3, 4, 5, 6, 7, 1, 0] rfl ?_
      exact hE17 _ _ hF
set_option maxRecDepth 100000 in
set_option maxHeartbeats 4000000 in
theorem lX7_worstBy_17 {g : Gl} {X : Cxt} (C : CxOk g X cX7_worstBy RX7 (Cond.code yX7_worstBy cX7_worstBy 8 (some .int) :: wsL_law) 8 0 0) {r : Int32} (h0 : Nat → Nat) (x1 : Int32) (x2 : Int32) (x3 : Int32) (x4 : Int32) (o0 : Ob) (E91 : Int32 → Option (Int32)) (Rk : RetOk g X [(shX7, h0, o0)] (some (.int r)) (some .int)) (hE91 : ∀ (x5 : Int32), E91 x5 = some r → J g X [(shX7, h0, o0)] 91 [(0, .ref (h0 0)), (1, .int x1), (2, .int x2), (3, .int x3), (4, .int x4), (5, .int x5)] []) : ∀ (n : Nat) (x5 : Int32) (x6 : Int32), LX7_worstBy_17 x1 x2 x3 x4 o0 E91 n x5 x6 = some r → J g X [(shX7, h0, o0)] 17 [(0, .ref (h0 0)), (1, .int x1), (2, .int x2), (3, .int x3), (4, .int x4), (5, .int x5), (6, .int x6)] [] := by
  intro n
  induction n with
  | zero =>
    intro x5 x6 hF
    cases hF
  | succ n ih =>
    intro x5 x6 hF
    rw [LX7_worstBy_17.eq_2] at hF
    refine j_iload C 6 dX7_worstBy_17 rfl ?_
    refine j_iconst (v := (4 : Int32)) C dX7_worstBy_19 rfl ?_
    refine j_icmp_ge C 91 dX7_worstBy_20 rfl (fun c_18 => ?_) (fun c_18 => ?_)
    · have hF := (if_pos c_18).symm.trans hF
      refine j_sub [(0, .ref (h0 0)), (1, .int x1), (2, .int x2), (3, .int x3), (4, .int x4), (5, .int x5)] [0, 1, 2, 3, 4, 5] rfl ?_
      exact hE91 _ hF
    · have hF := (if_neg c_18).symm.trans hF
      refine j_iload_n C 1 dX7_worstBy_23 rfl rfl ?_
      refine j_iload C 4 dX7_worstBy_24 rfl ?_
      refine j_ishr C dX7_worstBy_26 ?_
      refine j_iload_n C 1 dX7_worstBy_27 rfl rfl ?_
      refine j_iload C 6 dX7_worstBy_28 rfl ?_
      refine j_ishr C dX7_worstBy_30 ?_
      refine j_iand C dX7_worstBy_31 ?_
      refine j_iconst (v := (1 : Int32)) C dX7_worstBy_32 rfl ?_
      refine j_iand C dX7_worstBy_33 ?_
      refine j_iconst (v := (1 : Int32)) C dX7_worstBy_34 rfl ?_
      refine j_icmp_ne C 42 dX7_worstBy_35 rfl (fun c_17 => ?_) (fun c_17 => ?_)
      · have hF := (if_neg c_17).symm.trans hF
        refine j_iconst (v := (0 : Int32)) C dX7_worstBy_42 rfl ?_
        exact bX7_worstBy_43 C h0 _ _ _ _ _ _ _ _ _ Rk ih hF
      · have hF := (if_pos c_17).symm.trans hF
        refine j_iconst (v := (1 : Int32)) C dX7_worstBy_38 rfl ?_
        refine j_goto C 43 dX7_worstBy_39 rfl ?_
        exact bX7_worstBy_43 C h0 _ _ _ _ _ _ _ _ _ Rk ih hF
set_option maxRecDepth 100000 in
set_option maxHeartbeats 4000000 in
theorem lX7_worstBy_5 {g : Gl} {X : Cxt} (C : CxOk g X cX7_worstBy RX7 (Cond.code yX7_worstBy cX7_worstBy 8 (some .int) :: wsL_law) 8 0 0) {r : Int32} (h0 : Nat → Nat) (x1 : Int32) (x2 : Int32) (o0 : Ob)  (Rk : RetOk g X [(shX7, h0, o0)] (some (.int r)) (some .int))  : ∀ (n : Nat) (x3 : Int32) (x4 : Int32), LX7_worstBy_5 x1 x2 o0 n x3 x4 = some r → J g X [(shX7, h0, o0)] 5 [(0, .ref (h0 0)), (1, .int x1), (2, .int x2), (3, .int x3), (4, .int x4)] [] := by
  intro n
  induction n with
  | zero =>
    intro x3 x4 hF
    cases hF
  | succ n ih =>
    intro x3 x4 hF
    rw [LX7_worstBy_5.eq_2] at hF
    refine j_iload C 4 dX7_worstBy_5 rfl ?_
    refine j_iconst (v := (4 : Int32)) C dX7_worstBy_7 rfl ?_
    refine j_icmp_ge C 110 dX7_worstBy_8 rfl (fun c_25 => ?_) (fun c_25 => ?_)
    · have hF := (if_pos c_25).symm.trans hF
      refine j_iload_n C 3 dX7_worstBy_110 rfl rfl ?_
      cases hF
      exact j_iret C Rk dX7_worstBy_111
    · have hF := (if_neg c_25).symm.trans hF
      refine j_iconst (v := (0 : Int32)) C dX7_worstBy_11 rfl ?_
      refine j_istore C [(5, .int (0 : Int32)), (0, .ref (h0 0)), (1, .int x1), (2, .int x2), (3, .int x3), (4, .int x4)] dX7_worstBy_12 (Nat.le_of_ble_eq_true rfl) rfl rfl ?_
      refine j_iconst (v := (1 : Int32)) C dX7_worstBy_14 rfl ?_
      refine j_istore C [(6, .int (1 : Int32)), (5, .int (0 : Int32)), (0, .ref (h0 0)), (1, .int x1), (2, .int x2), (3, .int x3), (4, .int x4)] dX7_worstBy_15 (Nat.le_of_ble_eq_true rfl) rfl rfl ?_
      refine j_sub [(0, .ref (h0 0)), (1, .int x1), (2, .int x2), (3, .int x3), (4, .int x4), (5, .int (0 : Int32)), (6, .int (1 : Int32))] [2, 3, 4, 5, 6, 1, 0] rfl ?_
      refine lX7_worstBy_17 C h0 x1 x2 x3 x4 o0 _ Rk (fun x5_19 hF => ?_) _ _ _ hF
      refine j_iload C 5 dX7_worstBy_91 rfl ?_
      refine j_iload_n C 3 dX7_worstBy_93 rfl rfl ?_
      refine j_icmp_le C 102 dX7_worstBy_94 rfl (fun c_24 => ?_) (fun c_24 => ?_)
      · have hF := (if_pos c_24).symm.trans hF
        refine j_iload_n C 3 dX7_worstBy_102 rfl rfl ?_
        refine j_istore_n C [(3, .int x3), (0, .ref (h0 0)), (1, .int x1), (2, .int x2), (4, .int x4), (5, .int x5_19)] dX7_worstBy_103 rfl (Nat.le_of_ble_eq_true rfl) rfl rfl ?_
        obtain ⟨x4_22, e_23, hF⟩ := glT hF
        refine j_iinc C 4 [(4, .int x4_22), (3, .int x3), (0, .ref (h0 0)), (1, .int x1), (2, .int x2), (5, .int x5_19)] dX7_worstBy_104 rfl e_23.symm (Nat.le_of_ble_eq_true rfl) rfl ?_
        refine j_goto C 5 dX7_worstBy_107 rfl ?_
        refine j_sub [(0, .ref (h0 0)), (1, .int x1), (2, .int x2), (3, .int x3), (4, .int x4_22)] [2, 3, 4, 1, 0] rfl ?_
        exact ih _ _ hF
      · have hF := (if_neg c_24).symm.trans hF
        refine j_iload C 5 dX7_worstBy_97 rfl ?_
        refine j_goto C 103 dX7_worstBy_99 rfl ?_
        refine j_istore_n C [(3, .int x5_19), (0, .ref (h0 0)), (1, .int x1), (2, .int x2), (4, .int x4), (5, .int x5_19)] dX7_worstBy_103 rfl (Nat.le_of_ble_eq_true rfl) rfl rfl ?_
        obtain ⟨x4_20, e_21, hF⟩ := glT hF
        refine j_iinc C 4 [(4, .int x4_20), (3, .int x5_19), (0, .ref (h0 0)), (1, .int x1), (2, .int x2), (5, .int x5_19)] dX7_worstBy_104 rfl e_21.symm (Nat.le_of_ble_eq_true rfl) rfl ?_
        refine j_goto C 5 dX7_worstBy_107 rfl ?_
        refine j_sub [(0, .ref (h0 0)), (1, .int x1), (2, .int x2), (3, .int x5_19), (4, .int x4_20)] [2, 3, 4, 1, 0] rfl ?_
        exact ih _ _ hF
set_option maxRecDepth 100000 in
set_option maxHeartbeats 4000000 in
theorem kX7_worstBy (g : Gl) (h0 : Nat → Nat) (x1 : Int32) (x2 : Int32) (o0 : Ob) {r : Int32} (hF : FX7_worstBy x1 x2 o0 = some r) : Ctr g yX7_worstBy (Cond.code yX7_worstBy cX7_worstBy 8 (some .int) :: wsL_law) 0 0 [(shX7, h0, o0)] [(shX7, h0, o0)] [.ref (h0 0), .int x1, .int x2] (some (.int r)) := by
  refine Ctr.of (cc := cX7_worstBy) (maxL := 8) (ret := (some .int)) (by decide) rfl (Nat.le_of_ble_eq_true rfl) ?_
  intro X C Rk
  replace C : CxOk g X cX7_worstBy RX7 (Cond.code yX7_worstBy cX7_worstBy 8 (some .int) :: wsL_law) 8 0 0 := C
  show J g X [(shX7, h0, o0)] 0 [(0, .ref (h0 0)), (1, .int x1), (2, .int x2)] []
  unfold FX7_worstBy at hF
  refine j_iconst (v := (0 : Int32)) C dX7_worstBy_0 rfl ?_
  refine j_istore_n C [(3, .int (0 : Int32)), (0, .ref (h0 0)), (1, .int x1), (2, .int x2)] dX7_worstBy_1 rfl (Nat.le_of_ble_eq_true rfl) rfl rfl ?_
  refine j_iconst (v := (1 : Int32)) C dX7_worstBy_2 rfl ?_
  refine j_istore C [(4, .int (1 : Int32)), (3, .int (0 : Int32)), (0, .ref (h0 0)), (1, .int x1), (2, .int x2)] dX7_worstBy_3 (Nat.le_of_ble_eq_true rfl) rfl rfl ?_
  refine j_sub [(0, .ref (h0 0)), (1, .int x1), (2, .int x2), (3, .int (0 : Int32)), (4, .int (1 : Int32))] [2, 3, 4, 1, 0] rfl ?_
  refine lX7_worstBy_5 C h0 x1 x2 o0 Rk  _ _ _ hF
/-! HeadsMeetModel.askOf -/
def LX7_askOf_21 (x2 : Int32) (o0 : Ob) : Nat → Int32 → Int32 → Int32 → Option (Int32 × Ob)
  | 0, _, _, _ => none
  | n + 1, x3, x4, x5 =>
    if (4 : Int32) ≤ x5 then
      some (x3, o0)
    else
      if x2 = 0 then
        some (x3, o0)
      else
        b1 (FX7_worstBy x2 x5 o0) fun r_5 =>
        if x4 ≤ r_5 then
          if x4 ≤ r_5 then
            lT (x5 + (1 : Int32)) fun x5_14 =>
            LX7_askOf_21 x2 o0 n x3 x4 x5_14
          else
            lT (x5 + (1 : Int32)) fun x5_12 =>
            LX7_askOf_21 x2 o0 n x3 r_5 x5_12
        else
          if x4 ≤ r_5 then
            lT (x5 + (1 : Int32)) fun x5_9 =>
            LX7_askOf_21 x2 o0 n x5 x4 x5_9
          else
            lT (x5 + (1 : Int32)) fun x5_7 =>
            LX7_askOf_21 x2 o0 n x5 r_5 x5_7
def FX7_askOf (x1 : Int32) (o0 : Ob) : Option (Int32 × Ob) :=
  b1 (FX7_layMuch x1 o0) fun o0_1 =>
  b1 (FX7_kindsBy x1 o0_1) fun r_3 =>
  LX7_askOf_21 r_3 o0_1 fu (-1 : Int32) (268435456 : Int32) (0 : Int32)
set_option maxRecDepth 100000 in
set_option maxHeartbeats 4000000 in
theorem lX7_askOf_21 {g : Gl} {X : Cxt} (C : CxOk g X cX7_askOf RX7 (Cond.code yX7_askOf cX7_askOf 7 (some .int) :: wsL_law) 7 6 141) {r : Int32} {o0' : Ob} (h0 : Nat → Nat) (x2 : Int32) (o0 : Ob)  (Rk : RetOk g X [(shX7, h0, o0')] (some (.int r)) (some .int))  : ∀ (n : Nat) (x3 : Int32) (x4 : Int32) (x5 : Int32), LX7_askOf_21 x2 o0 n x3 x4 x5 = some (r, o0') → J g X [(shX7, h0, o0)] 21 [(0, .ref (h0 0)), (2, .int x2), (3, .int x3), (4, .int x4), (5, .int x5)] [] := by
  intro n
  induction n with
  | zero =>
    intro x3 x4 x5 hF
    cases hF
  | succ n ih =>
    intro x3 x4 x5 hF
    rw [LX7_askOf_21.eq_2] at hF
    refine j_iload C 4 dX7_askOf_21 rfl ?_
    refine j_iconst (v := (4 : Int32)) C dX7_askOf_23 rfl ?_
    refine j_icmp_ge C 76 dX7_askOf_24 rfl (fun c_19 => ?_) (fun c_19 => ?_)
    · have hF := (if_pos c_19).symm.trans hF
      refine j_iload_n C 2 dX7_askOf_76 rfl rfl ?_
      cases hF
      exact j_iret C Rk dX7_askOf_77
    · have hF := (if_neg c_19).symm.trans hF
      refine j_iload_n C 1 dX7_askOf_27 rfl rfl ?_
      refine j_if_eq C 76 dX7_askOf_28 rfl (fun c_18 => ?_) (fun c_18 => ?_)
      · have hF := (if_pos c_18).symm.trans hF
        refine j_iload_n C 2 dX7_askOf_76 rfl rfl ?_
        cases hF
        exact j_iret C Rk dX7_askOf_77
      · have hF := (if_neg c_18).symm.trans hF
        refine j_aload_n C 0 dX7_askOf_31 rfl rfl ?_
        refine j_iload_n C 1 dX7_askOf_32 rfl rfl ?_
        refine j_iload C 4 dX7_askOf_33 rfl ?_
        obtain ⟨r_5, k_6, hF⟩ := gb1 hF
        refine j_callVi C (os' := [(shX7, h0, o0)]) [.int x2, .int x5] (kX7_worstBy g h0 x2 x5 o0 k_6) [0] rfl rfl rfl rfl 0 rfl rfl (wl_gV mw_28_17 mw_28_18 mw_28_19 mw_1_5 mw_28_20) rfl 2 rfl hd_X7_worstBy ⟨Nat.le_of_ble_eq_true rfl, Nat.le_of_ble_eq_true rfl⟩ (Nat.le_of_ble_eq_true rfl) rfl dX7_askOf_35 ?_
        refine j_istore C [(6, .int r_5), (0, .ref (h0 0)), (2, .int x2), (3, .int x3), (4, .int x4), (5, .int x5)] dX7_askOf_38 (Nat.le_of_ble_eq_true rfl) rfl rfl ?_
        refine j_iload C 0 dX7_askOf_40 rfl ?_
        refine j_iload C 4 dX7_askOf_42 rfl ?_
        refine j_icmp_ge C 52 dX7_askOf_44 rfl (fun c_17 => ?_) (fun c_17 => ?_)
        · have hF := (if_pos c_17).symm.trans hF
          refine j_iload_n C 3 dX7_askOf_52 rfl rfl ?_
          refine j_istore_n C [(3, .int x3), (6, .int r_5), (0, .ref (h0 0)), (2, .int x2), (4, .int x4), (5, .int x5)] dX7_askOf_53 rfl (Nat.le_of_ble_eq_true rfl) rfl rfl ?_
          refine j_iload C 1 dX7_askOf_54 rfl ?_
          refine j_iload C 4 dX7_askOf_56 rfl ?_
          refine j_icmp_ge C 66 dX7_askOf_58 rfl (fun c_16 => ?_) (fun c_16 => ?_)
          · have hF := (if_pos c_16).symm.trans hF
            refine j_iload C 4 dX7_askOf_66 rfl ?_
            refine j_istore C [(4, .int x4), (3, .int x3), (6, .int r_5), (0, .ref (h0 0)), (2, .int x2), (5, .int x5)] dX7_askOf_68 (Nat.le_of_ble_eq_true rfl) rfl rfl ?_
            obtain ⟨x5_14, e_15, hF⟩ := glT hF
            refine j_iinc C 5 [(5, .int x5_14), (4, .int x4), (3, .int x3), (6, .int r_5), (0, .ref (h0 0)), (2, .int x2)] dX7_askOf_70 rfl e_15.symm (Nat.le_of_ble_eq_true rfl) rfl ?_
            refine j_goto C 21 dX7_askOf_73 rfl ?_
            refine j_sub [(0, .ref (h0 0)), (2, .int x2), (3, .int x3), (4, .int x4), (5, .int x5_14)] [4, 5, 2, 1, 0] rfl ?_
            exact ih _ _ _ hF
          · have hF := (if_neg c_16).symm.trans hF
            refine j_iload C 1 dX7_askOf_61 rfl ?_
            refine j_goto C 68 dX7_askOf_63 rfl ?_
            refine j_istore C [(4, .int r_5), (3, .int x3), (6, .int r_5), (0, .ref (h0 0)), (2, .int x2), (5, .int x5)] dX7_askOf_68 (Nat.le_of_ble_eq_true rfl) rfl rfl ?_
            obtain ⟨x5_12, e_13, hF⟩ := glT hF
            refine j_iinc C 5 [(5, .int x5_12), (4, .int r_5), (3, .int x3), (6, .int r_5), (0, .ref (h0 0)), (2, .int x2)] dX7_askOf_70 rfl e_13.symm (Nat.le_of_ble_eq_true rfl) rfl ?_
            refine j_goto C 21 dX7_askOf_73 rfl ?_
            refine j_sub [(0, .ref (h0 0)), (2, .int x2), (3, .int x3), (4, .int r_5), (5, .int x5_12)] [4, 5, 2, 1, 0] rfl ?_
            exact ih _ _ _ hF
        · have hF := (if_neg c_17).symm.trans hF
          refine j_iload C 5 dX7_askOf_47 rfl ?_
          refine j_goto C 53 dX7_askOf_49 rfl ?_
          refine j_istore_n C [(3, .int x5), (6, .int r_5), (0, .ref (h0 0)), (2, .int x2), (4, .int x4), (5, .int x5)] dX7_askOf_53 rfl (Nat.le_of_ble_eq_true rfl) rfl rfl ?_
          refine j_iload C 1 dX7_askOf_54 rfl ?_
          refine j_iload C 4 dX7_askOf_56 rfl ?_
          refine j_icmp_ge C 66 dX7_askOf_58 rfl (fun c_11 => ?_) (fun c_11 => ?_)
          · have hF := (if_pos c_11).symm.trans hF
            refine j_iload C 4 dX7_askOf_66 rfl ?_
            refine j_istore C [(4, .int x4), (3, .int x5), (6, .int r_5), (0, .ref (h0 0)), (2, .int x2), (5, .int x5)] dX7_askOf_68 (Nat.le_of_ble_eq_true rfl) rfl rfl ?_
            obtain ⟨x5_9, e_10, hF⟩ := glT hF
            refine j_iinc C 5 [(5, .int x5_9), (4, .int x4), (3, .int x5), (6, .int r_5), (0, .ref (h0 0)), (2, .int x2)] dX7_askOf_70 rfl e_10.symm (Nat.le_of_ble_eq_true rfl) rfl ?_
            refine j_goto C 21 dX7_askOf_73 rfl ?_
            refine j_sub [(0, .ref (h0 0)), (2, .int x2), (3, .int x5), (4, .int x4), (5, .int x5_9)] [4, 5, 2, 1, 0] rfl ?_
            exact ih _ _ _ hF
          · have hF := (if_neg c_11).symm.trans hF
            refine j_iload C 1 dX7_askOf_61 rfl ?_
            refine j_goto C 68 dX7_askOf_63 rfl ?_
            refine j_istore C [(4, .int r_5), (3, .int x5), (6, .int r_5), (0, .ref (h0 0)), (2, .int x2), (5, .int x5)] dX7_askOf_68 (Nat.le_of_ble_eq_true rfl) rfl rfl ?_
            obtain ⟨x5_7, e_8, hF⟩ := glT hF
            refine j_iinc C 5 [(5, .int x5_7), (4, .int r_5), (3, .int x5), (6, .int r_5), (0, .ref (h0 0)), (2, .int x2)] dX7_askOf_70 rfl e_8.symm (Nat.le_of_ble_eq_true rfl) rfl ?_
            refine j_goto C 21 dX7_askOf_73 rfl ?_
            refine j_sub [(0, .ref (h0 0)), (2, .int x2), (3, .int x5), (4, .int r_5), (5, .int x5_7)] [4, 5, 2, 1, 0] rfl ?_
            exact ih _ _ _ hF
set_option maxRecDepth 100000 in
set_option maxHeartbeats 4000000 in
theorem kX7_askOf (g : Gl) (h0 : Nat → Nat) (x1 : Int32) (o0 : Ob) {r : Int32} {o0' : Ob} (hF : FX7_askOf x1 o0 = some (r, o0')) : Ctr g yX7_askOf (Cond.code yX7_askOf cX7_askOf 7 (some .int) :: wsL_law) 6 141 [(shX7, h0, o0)] [(shX7, h0, o0')] [.ref (h0 0), .int x1] (some (.int r)) := by
  refine Ctr.of (cc := cX7_askOf) (maxL := 7) (ret := (some .int)) (by decide) rfl (Nat.le_of_ble_eq_true rfl) ?_
  intro X C Rk
  replace C : CxOk g X cX7_askOf RX7 (Cond.code yX7_askOf cX7_askOf 7 (some .int) :: wsL_law) 7 6 141 := C
  show J g X [(shX7, h0, o0)] 0 [(0, .ref (h0 0)), (1, .int x1)] []
  unfold FX7_askOf at hF
  refine j_aload_n C 0 dX7_askOf_0 rfl rfl ?_
  refine j_iload_n C 1 dX7_askOf_1 rfl rfl ?_
  obtain ⟨o0_1, k_2, hF⟩ := gb1 hF
  refine j_callVv C (os' := [(shX7, h0, o0_1)]) [.int x1] (kX7_layMuch g h0 x1 o0 k_2) [0] rfl rfl rfl rfl 0 rfl rfl (wl_gV mw_25_9 mw_25_10 mw_25_11 mw_1_5 mw_25_12) rfl 1 rfl hd_X7_layMuch ⟨Nat.le_of_ble_eq_true rfl, Nat.le_of_ble_eq_true rfl⟩ (Nat.le_of_ble_eq_true rfl) rfl dX7_askOf_2 ?_
  refine j_aload_n C 0 dX7_askOf_5 rfl rfl ?_
  refine j_iload_n C 1 dX7_askOf_6 rfl rfl ?_
  obtain ⟨r_3, k_4, hF⟩ := gb1 hF
  refine j_callVi C (os' := [(shX7, h0, o0_1)]) [.int x1] (kX7_kindsBy g h0 x1 o0_1 k_4) [0] rfl rfl rfl rfl 0 rfl rfl (wl_gV mw_28_8 mw_28_9 mw_28_10 mw_1_5 mw_28_11) rfl 1 rfl hd_X7_kindsBy ⟨Nat.le_of_ble_eq_true rfl, Nat.le_of_ble_eq_true rfl⟩ (Nat.le_of_ble_eq_true rfl) rfl dX7_askOf_7 ?_
  refine j_istore_n C [(2, .int r_3), (0, .ref (h0 0)), (1, .int x1)] dX7_askOf_10 rfl (Nat.le_of_ble_eq_true rfl) rfl rfl ?_
  refine j_iconst (v := (-1 : Int32)) C dX7_askOf_11 rfl ?_
  refine j_istore_n C [(3, .int (-1 : Int32)), (2, .int r_3), (0, .ref (h0 0)), (1, .int x1)] dX7_askOf_12 rfl (Nat.le_of_ble_eq_true rfl) rfl rfl ?_
  refine j_ldcw (v := (268435456 : Int32)) C (List.mem_cons_of_mem _ mw_28_16) dX7_askOf_13 ?_
  refine j_istore C [(4, .int (268435456 : Int32)), (3, .int (-1 : Int32)), (2, .int r_3), (0, .ref (h0 0)), (1, .int x1)] dX7_askOf_16 (Nat.le_of_ble_eq_true rfl) rfl rfl ?_
  refine j_iconst (v := (0 : Int32)) C dX7_askOf_18 rfl ?_
  refine j_istore C [(5, .int (0 : Int32)), (4, .int (268435456 : Int32)), (3, .int (-1 : Int32)), (2, .int r_3), (0, .ref (h0 0)), (1, .int x1)] dX7_askOf_19 (Nat.le_of_ble_eq_true rfl) rfl rfl ?_
  refine j_sub [(0, .ref (h0 0)), (2, .int r_3), (3, .int (-1 : Int32)), (4, .int (268435456 : Int32)), (5, .int (0 : Int32))] [4, 3, 2, 1, 0] rfl ?_
  refine lX7_askOf_21 C h0 r_3 o0_1 Rk  _ _ _ _ hF
/-! HeadsMeetModel.nodeNow -/
def BX7_nodeNow_46 (x1 : Int32) (x2 : Int32) (o0 : Ob) : Option (Int32 × Ob) :=
  b1 (FX7_placeTold x1 (x2 - (1 : Int32)) o0) fun r_21 =>
  some (r_21, o0)
def FX7_nodeNow (x1 : Int32) (x2 : Int32) (o0 : Ob) : Option (Int32 × Ob) :=
  if x2 = 0 then
    b1 (FX7_kindOf x1 o0) fun r_23 =>
    some (r_23, o0)
  else
    if x2 = 1 then
      BX7_nodeNow_46 x1 x2 o0
    else
      if x2 = 2 then
        BX7_nodeNow_46 x1 x2 o0
      else
        if x2 = 3 then
          BX7_nodeNow_46 x1 x2 o0
        else
          if x2 = 4 then
            b1 (FX7_meets x1 o0) fun r_19 =>
            some (r_19, o0)
          else
            if x2 = 5 then
              b1 (FX7_kindOf x1 o0) fun r_13 =>
              if r_13 = 0 then
                some ((-1 : Int32), o0)
              else
                b2 (FX7_kindsOf x1 o0) fun r_15 o0_16 =>
                some (r_15, o0_16)
            else
              b1 (FX7_kindOf x1 o0) fun r_1 =>
              if r_1 = 0 then
                some ((-1 : Int32), o0)
              else
                b2 (FX7_askOf x1 o0) fun r_3 o0_4 =>
                some (r_3, o0_4)
set_option maxRecDepth 100000 in
set_option maxHeartbeats 4000000 in
theorem bX7_nodeNow_46 {g : Gl} {X : Cxt} (C : CxOk g X cX7_nodeNow RX7 (Cond.code yX7_nodeNow cX7_nodeNow 3 (some .int) :: wsL_law) 3 7 167) {r : Int32} {o0' : Ob} (h0 : Nat → Nat) (x1 : Int32) (x2 : Int32) (o0 : Ob)  (Rk : RetOk g X [(shX7, h0, o0')] (some (.int r)) (some .int))  (hF : BX7_nodeNow_46  x1 x2 o0 = some (r, o0')) : J g X [(shX7, h0, o0)] 46 [(0, .ref (h0 0)), (1, .int x1), (2, .int x2)] [] := by
  unfold BX7_nodeNow_46 at hF
  refine j_aload_n C 0 dX7_nodeNow_46 rfl rfl ?_
  refine j_iload_n C 1 dX7_nodeNow_47 rfl rfl ?_
  refine j_iload_n C 2 dX7_nodeNow_48 rfl rfl ?_
  refine j_iconst (v := (1 : Int32)) C dX7_nodeNow_49 rfl ?_
  refine j_isub C dX7_nodeNow_50 ?_
  obtain ⟨r_21, k_22, hF⟩ := gb1 hF
  refine j_callVi C (os' := [(shX7, h0, o0)]) [.int x1, .int (x2 - (1 : Int32))] (kX7_placeTold g h0 x1 (x2 - (1 : Int32)) o0 k_22) [0] rfl rfl rfl rfl 0 rfl rfl (wl_gV mw_24_17 mw_24_18 mw_24_19 mw_1_5 mw_24_20) rfl 2 rfl hd_X7_placeTold ⟨Nat.le_of_ble_eq_true rfl, Nat.le_of_ble_eq_true rfl⟩ (Nat.le_of_ble_eq_true rfl) rfl dX7_nodeNow_51 ?_
  cases hF
  exact j_iret C Rk dX7_nodeNow_54
set_option maxRecDepth 100000 in
set_option maxHeartbeats 4000000 in
theorem kX7_nodeNow (g : Gl) (h0 : Nat → Nat) (x1 : Int32) (x2 : Int32) (o0 : Ob) {r : Int32} {o0' : Ob} (hF : FX7_nodeNow x1 x2 o0 = some (r, o0')) : Ctr g yX7_nodeNow (Cond.code yX7_nodeNow cX7_nodeNow 3 (some .int) :: wsL_law) 7 167 [(shX7, h0, o0)] [(shX7, h0, o0')] [.ref (h0 0), .int x1, .int x2] (some (.int r)) := by
  refine Ctr.of (cc := cX7_nodeNow) (maxL := 3) (ret := (some .int)) (by decide) rfl (Nat.le_of_ble_eq_true rfl) ?_
  intro X C Rk
  replace C : CxOk g X cX7_nodeNow RX7 (Cond.code yX7_nodeNow cX7_nodeNow 3 (some .int) :: wsL_law) 3 7 167 := C
  show J g X [(shX7, h0, o0)] 0 [(0, .ref (h0 0)), (1, .int x1), (2, .int x2)] []
  unfold FX7_nodeNow at hF
  refine j_iload_n C 2 dX7_nodeNow_0 rfl rfl ?_
  by_cases c_7 : x2 = 0
  · have hF := (if_pos c_7).symm.trans hF
    refine j_tableIn (off := 39) C 40 dX7_nodeNow_1 (by rw [c_7]; decide) (by rw [c_7]; decide) (by rw [c_7]; rfl) rfl ?_
    refine j_aload_n C 0 dX7_nodeNow_40 rfl rfl ?_
    refine j_iload_n C 1 dX7_nodeNow_41 rfl rfl ?_
    obtain ⟨r_23, k_24, hF⟩ := gb1 hF
    refine j_callVi C (os' := [(shX7, h0, o0)]) [.int x1] (kX7_kindOf g h0 x1 o0 k_24) [0] rfl rfl rfl rfl 0 rfl rfl (wl_gV mw_24_9 mw_24_10 mw_24_11 mw_1_5 mw_24_12) rfl 1 rfl hd_X7_kindOf ⟨Nat.le_of_ble_eq_true rfl, Nat.le_of_ble_eq_true rfl⟩ (Nat.le_of_ble_eq_true rfl) rfl dX7_nodeNow_42 ?_
    cases hF
    exact j_iret C Rk dX7_nodeNow_45
  · have hF := (if_neg c_7).symm.trans hF
    by_cases c_8 : x2 = 1
    · have hF := (if_pos c_8).symm.trans hF
      refine j_tableIn (off := 45) C 46 dX7_nodeNow_1 (by rw [c_8]; decide) (by rw [c_8]; decide) (by rw [c_8]; rfl) rfl ?_
      exact bX7_nodeNow_46 C h0 _ _ _ Rk  hF
    · have hF := (if_neg c_8).symm.trans hF
      by_cases c_9 : x2 = 2
      · have hF := (if_pos c_9).symm.trans hF
        refine j_tableIn (off := 45) C 46 dX7_nodeNow_1 (by rw [c_9]; decide) (by rw [c_9]; decide) (by rw [c_9]; rfl) rfl ?_
        exact bX7_nodeNow_46 C h0 _ _ _ Rk  hF
      · have hF := (if_neg c_9).symm.trans hF
        by_cases c_10 : x2 = 3
        · have hF := (if_pos c_10).symm.trans hF
          refine j_tableIn (off := 45) C 46 dX7_nodeNow_1 (by rw [c_10]; decide) (by rw [c_10]; decide) (by rw [c_10]; rfl) rfl ?_
          exact bX7_nodeNow_46 C h0 _ _ _ Rk  hF
        · have hF := (if_neg c_10).symm.trans hF
          by_cases c_11 : x2 = 4
          · have hF := (if_pos c_11).symm.trans hF
            refine j_tableIn (off := 54) C 55 dX7_nodeNow_1 (by rw [c_11]; decide) (by rw [c_11]; decide) (by rw [c_11]; rfl) rfl ?_
            refine j_aload_n C 0 dX7_nodeNow_55 rfl rfl ?_
            refine j_iload_n C 1 dX7_nodeNow_56 rfl rfl ?_
            obtain ⟨r_19, k_20, hF⟩ := gb1 hF
            refine j_callVi C (os' := [(shX7, h0, o0)]) [.int x1] (kX7_meets g h0 x1 o0 k_20) [0] rfl rfl rfl rfl 0 rfl rfl (wl_gV mw_25_1 mw_25_2 mw_25_3 mw_1_5 mw_25_4) rfl 1 rfl hd_X7_meets ⟨Nat.le_of_ble_eq_true rfl, Nat.le_of_ble_eq_true rfl⟩ (Nat.le_of_ble_eq_true rfl) rfl dX7_nodeNow_57 ?_
            cases hF
            exact j_iret C Rk dX7_nodeNow_60
          · have hF := (if_neg c_11).symm.trans hF
            by_cases c_12 : x2 = 5
            · have hF := (if_pos c_12).symm.trans hF
              refine j_tableIn (off := 60) C 61 dX7_nodeNow_1 (by rw [c_12]; decide) (by rw [c_12]; decide) (by rw [c_12]; rfl) rfl ?_
              refine j_aload_n C 0 dX7_nodeNow_61 rfl rfl ?_
              refine j_iload_n C 1 dX7_nodeNow_62 rfl rfl ?_
              obtain ⟨r_13, k_14, hF⟩ := gb1 hF
              refine j_callVi C (os' := [(shX7, h0, o0)]) [.int x1] (kX7_kindOf g h0 x1 o0 k_14) [0] rfl rfl rfl rfl 0 rfl rfl (wl_gV mw_24_9 mw_24_10 mw_24_11 mw_1_5 mw_24_12) rfl 1 rfl hd_X7_kindOf ⟨Nat.le_of_ble_eq_true rfl, Nat.le_of_ble_eq_true rfl⟩ (Nat.le_of_ble_eq_true rfl) rfl dX7_nodeNow_63 ?_
              refine j_if_ne C 73 dX7_nodeNow_66 rfl (fun c_18 => ?_) (fun c_18 => ?_)
              · have hF := (if_neg c_18).symm.trans hF
                refine j_aload_n C 0 dX7_nodeNow_73 rfl rfl ?_
                refine j_iload_n C 1 dX7_nodeNow_74 rfl rfl ?_
                obtain ⟨r_15, o0_16, k_17, hF⟩ := gb2 hF
                refine j_callVi C (os' := [(shX7, h0, o0_16)]) [.int x1] (kX7_kindsOf g h0 x1 o0 k_17) [0] rfl rfl rfl rfl 0 rfl rfl (wl_gV mw_25_5 mw_25_6 mw_25_7 mw_1_5 mw_25_8) rfl 1 rfl hd_X7_kindsOf ⟨Nat.le_of_ble_eq_true rfl, Nat.le_of_ble_eq_true rfl⟩ (Nat.le_of_ble_eq_true rfl) rfl dX7_nodeNow_75 ?_
                cases hF
                exact j_iret C Rk dX7_nodeNow_78
              · have hF := (if_pos c_18).symm.trans hF
                refine j_iconst (v := (-1 : Int32)) C dX7_nodeNow_69 rfl ?_
                refine j_goto C 78 dX7_nodeNow_70 rfl ?_
                cases hF
                exact j_iret C Rk dX7_nodeNow_78
            · have hF := (if_neg c_12).symm.trans hF
              refine j_tableOut C 79 dX7_nodeNow_1 (by have q0 := ne_i c_7 (a := 0) rfl; have q1 := ne_i c_8 (a := 1) rfl; have q2 := ne_i c_9 (a := 2) rfl; have q3 := ne_i c_10 (a := 3) rfl; have q4 := ne_i c_11 (a := 4) rfl; have q5 := ne_i c_12 (a := 5) rfl; omega) rfl ?_
              refine j_aload_n C 0 dX7_nodeNow_79 rfl rfl ?_
              refine j_iload_n C 1 dX7_nodeNow_80 rfl rfl ?_
              obtain ⟨r_1, k_2, hF⟩ := gb1 hF
              refine j_callVi C (os' := [(shX7, h0, o0)]) [.int x1] (kX7_kindOf g h0 x1 o0 k_2) [0] rfl rfl rfl rfl 0 rfl rfl (wl_gV mw_24_9 mw_24_10 mw_24_11 mw_1_5 mw_24_12) rfl 1 rfl hd_X7_kindOf ⟨Nat.le_of_ble_eq_true rfl, Nat.le_of_ble_eq_true rfl⟩ (Nat.le_of_ble_eq_true rfl) rfl dX7_nodeNow_81 ?_
              refine j_if_ne C 91 dX7_nodeNow_84 rfl (fun c_6 => ?_) (fun c_6 => ?_)
              · have hF := (if_neg c_6).symm.trans hF
                refine j_aload_n C 0 dX7_nodeNow_91 rfl rfl ?_
                refine j_iload_n C 1 dX7_nodeNow_92 rfl rfl ?_
                obtain ⟨r_3, o0_4, k_5, hF⟩ := gb2 hF
                refine j_callVi C (os' := [(shX7, h0, o0_4)]) [.int x1] (kX7_askOf g h0 x1 o0 k_5) [0] rfl rfl rfl rfl 0 rfl rfl (wl_gV mw_28_12 mw_28_13 mw_28_14 mw_1_5 mw_28_15) rfl 1 rfl hd_X7_askOf ⟨Nat.le_of_ble_eq_true rfl, Nat.le_of_ble_eq_true rfl⟩ (Nat.le_of_ble_eq_true rfl) rfl dX7_nodeNow_93 ?_
                cases hF
                exact j_iret C Rk dX7_nodeNow_96
              · have hF := (if_pos c_6).symm.trans hF
                refine j_iconst (v := (-1 : Int32)) C dX7_nodeNow_87 rfl ?_
                refine j_goto C 96 dX7_nodeNow_88 rfl ?_
                cases hF
                exact j_iret C Rk dX7_nodeNow_96
/-! HeadsMeetModel.node -/
def FX7_node (x1 : Int32) (x2 : Int32) (o0 : Ob) : Option (Int32 × Ob) :=
  lT (sV o0 4 (0 : Int32)) fun o0_2 =>
  b1 (FX7_isThere x1 o0_2) fun r_3 =>
  if r_3 = 0 then
    some ((-101 : Int32), o0_2)
  else
    b1 (FX7_within x2 (0 : Int32) (6 : Int32)) fun r_5 =>
    if r_5 = 0 then
      some ((-102 : Int32), o0_2)
    else
      b2 (FX7_nodeNow x1 x2 o0_2) fun r_7 o0_8 =>
      some (r_7, o0_8)
set_option maxRecDepth 100000 in
set_option maxHeartbeats 4000000 in
theorem kX7_node (g : Gl) (h0 : Nat → Nat) (x1 : Int32) (x2 : Int32) (o0 : Ob) {r : Int32} {o0' : Ob} (hF : FX7_node x1 x2 o0 = some (r, o0')) : Ctr g yX7_node (Cond.code yX7_node cX7_node 3 (some .int) :: wsL_law) 8 189 [(shX7, h0, o0)] [(shX7, h0, o0')] [.ref (h0 0), .int x1, .int x2] (some (.int r)) := by
  refine Ctr.of (cc := cX7_node) (maxL := 3) (ret := (some .int)) (by decide) rfl (Nat.le_of_ble_eq_true rfl) ?_
  intro X C Rk
  replace C : CxOk g X cX7_node RX7 (Cond.code yX7_node cX7_node 3 (some .int) :: wsL_law) 3 8 189 := C
  show J g X [(shX7, h0, o0)] 0 [(0, .ref (h0 0)), (1, .int x1), (2, .int x2)] []
  unfold FX7_node at hF
  refine j_aload_n C 0 dX7_node_0 rfl rfl ?_
  refine j_iconst (v := (0 : Int32)) C dX7_node_1 rfl ?_
  obtain ⟨o0_2, e_1, hF⟩ := glT hF
  refine j_putV C tyX7_ok nmX7 0 4 rfl rfl (Nat.le_of_ble_eq_true rfl) rfl in1_X7 (List.mem_cons_of_mem _ mw_5_19) rfl fd_X7_4 rfl rfl [(shX7, h0, o0_2)] (by rw [e_1]; rfl) dX7_node_2 ?_
  refine j_aload_n C 0 dX7_node_5 rfl rfl ?_
  refine j_iload_n C 1 dX7_node_6 rfl rfl ?_
  obtain ⟨r_3, k_4, hF⟩ := gb1 hF
  refine j_callVi C (os' := [(shX7, h0, o0_2)]) [.int x1] (kX7_isThere g h0 x1 o0_2 k_4) [0] rfl rfl rfl rfl 0 rfl rfl (wl_gV mw_24_5 mw_24_6 mw_24_7 mw_1_5 mw_24_8) rfl 1 rfl hd_X7_isThere ⟨Nat.le_of_ble_eq_true rfl, Nat.le_of_ble_eq_true rfl⟩ (Nat.le_of_ble_eq_true rfl) rfl dX7_node_7 ?_
  refine j_if_ne C 18 dX7_node_10 rfl (fun c_11 => ?_) (fun c_11 => ?_)
  · have hF := (if_neg c_11).symm.trans hF
    refine j_iload_n C 2 dX7_node_18 rfl rfl ?_
    refine j_iconst (v := (0 : Int32)) C dX7_node_19 rfl ?_
    refine j_bipush (v := (6 : Int32)) C dX7_node_20 rfl ?_
    obtain ⟨r_5, k_6, hF⟩ := gb1 hF
    refine j_callSi C (os' := [(shX7, h0, o0_2)]) [.int x2, .int (0 : Int32), .int (6 : Int32)] (kX7_within g x2 (0 : Int32) (6 : Int32) k_6) [] rfl rfl rfl rfl (wl_gS mw_6_18 mw_6_19 mw_1_5 mw_6_20) rfl 3 rfl hd_X7_within ⟨Nat.le_of_ble_eq_true rfl, Nat.le_of_ble_eq_true rfl⟩ (Nat.le_of_ble_eq_true rfl) rfl dX7_node_22 ?_
    refine j_if_eq C 37 dX7_node_25 rfl (fun c_10 => ?_) (fun c_10 => ?_)
    · have hF := (if_pos c_10).symm.trans hF
      refine j_bipush (v := (-102 : Int32)) C dX7_node_37 rfl ?_
      cases hF
      exact j_iret C Rk dX7_node_39
    · have hF := (if_neg c_10).symm.trans hF
      refine j_aload_n C 0 dX7_node_28 rfl rfl ?_
      refine j_iload_n C 1 dX7_node_29 rfl rfl ?_
      refine j_iload_n C 2 dX7_node_30 rfl rfl ?_
      obtain ⟨r_7, o0_8, k_9, hF⟩ := gb2 hF
      refine j_callVi C (os' := [(shX7, h0, o0_8)]) [.int x1, .int x2] (kX7_nodeNow g h0 x1 x2 o0_2 k_9) [0] rfl rfl rfl rfl 0 rfl rfl (wl_gV mw_24_13 mw_24_14 mw_24_15 mw_1_5 mw_24_16) rfl 2 rfl hd_X7_nodeNow ⟨Nat.le_of_ble_eq_true rfl, Nat.le_of_ble_eq_true rfl⟩ (Nat.le_of_ble_eq_true rfl) rfl dX7_node_31 ?_
      refine j_goto C 39 dX7_node_34 rfl ?_
      cases hF
      exact j_iret C Rk dX7_node_39
  · have hF := (if_pos c_11).symm.trans hF
    refine j_bipush (v := (-101 : Int32)) C dX7_node_13 rfl ?_
    refine j_goto C 39 dX7_node_15 rfl ?_
    cases hF
    exact j_iret C Rk dX7_node_39
/-! HeadsMeetModel.as -/
def BX7_as_76 (x1 : Int32) (o0 : Ob) : Option (Int32 × Ob) :=
  if (1 : Int32) = 0 then
    some ((-1 : Int32), o0)
  else
    some (x1, o0)
def BX7_as_66 (x1 : Int32) (x2 : Int32) (x3 : Int32) (o0 : Ob) : Option (Int32 × Ob) :=
  if x2 = (4 : Int32) then
    if x3 = (3 : Int32) then
      BX7_as_76 x1 o0
    else
      if (0 : Int32) = 0 then
        some ((-1 : Int32), o0)
      else
        some (x1, o0)
  else
    if (0 : Int32) = 0 then
      some ((-1 : Int32), o0)
    else
      some (x1, o0)
def BX7_as_47 (x1 : Int32) (x2 : Int32) (x3 : Int32) (o0 : Ob) : Option (Int32 × Ob) :=
  if x2 = (2 : Int32) then
    if x3 = 0 then
      if x2 = (3 : Int32) then
        if (1 : Int32) < x3 then
          BX7_as_76 x1 o0
        else
          BX7_as_66 x1 x2 x3 o0
      else
        BX7_as_66 x1 x2 x3 o0
    else
      BX7_as_76 x1 o0
  else
    if x2 = (3 : Int32) then
      if (1 : Int32) < x3 then
        BX7_as_76 x1 o0
      else
        BX7_as_66 x1 x2 x3 o0
    else
      BX7_as_66 x1 x2 x3 o0
def FX7_as (x1 : Int32) (x2 : Int32) (o0 : Ob) : Option (Int32 × Ob) :=
  lT (sV o0 4 (0 : Int32)) fun o0_2 =>
  b1 (FX7_isThere x1 o0_2) fun r_3 =>
  if r_3 = 0 then
    some ((-101 : Int32), o0_2)
  else
    b1 (FX7_within x2 (0 : Int32) (4 : Int32)) fun r_5 =>
    if r_5 = 0 then
      some ((-102 : Int32), o0_2)
    else
      b1 (FX7_kindOf x1 o0_2) fun r_7 =>
      if x2 = 0 then
        BX7_as_76 x1 o0_2
      else
        if x2 = (1 : Int32) then
          if r_7 = 0 then
            BX7_as_76 x1 o0_2
          else
            BX7_as_47 x1 x2 r_7 o0_2
        else
          BX7_as_47 x1 x2 r_7 o0_2
set_option maxRecDepth 100000 in
set_option maxHeartbeats 4000000 in
theorem bX7_as_76 {g : Gl} {X : Cxt} (C : CxOk g X cX7_as RX7 (Cond.code yX7_as cX7_as 5 (some .int) :: wsL_law) 5 2 43) {r : Int32} {o0' : Ob} (h0 : Nat → Nat) (x1 : Int32) (o0 : Ob)  (Rk : RetOk g X [(shX7, h0, o0')] (some (.int r)) (some .int))  (hF : BX7_as_76  x1 o0 = some (r, o0')) : J g X [(shX7, h0, o0)] 76 [(1, .int x1)] [] := by
  unfold BX7_as_76 at hF
  refine j_iconst (v := (1 : Int32)) C dX7_as_76 rfl ?_
  refine j_goto C 81 dX7_as_77 rfl ?_
  refine j_istore C [(4, .int (1 : Int32)), (1, .int x1)] dX7_as_81 (Nat.le_of_ble_eq_true rfl) rfl rfl ?_
  refine j_iload C 0 dX7_as_83 rfl ?_
  refine j_if_eq C 92 dX7_as_85 rfl (fun c_9 => ?_) (fun c_9 => ?_)
  · have hF := (if_pos c_9).symm.trans hF
    refine j_iconst (v := (-1 : Int32)) C dX7_as_92 rfl ?_
    cases hF
    exact j_iret C Rk dX7_as_93
  · have hF := (if_neg c_9).symm.trans hF
    refine j_iload_n C 1 dX7_as_88 rfl rfl ?_
    refine j_goto C 93 dX7_as_89 rfl ?_
    cases hF
    exact j_iret C Rk dX7_as_93
set_option maxRecDepth 100000 in
set_option maxHeartbeats 4000000 in
theorem bX7_as_66 {g : Gl} {X : Cxt} (C : CxOk g X cX7_as RX7 (Cond.code yX7_as cX7_as 5 (some .int) :: wsL_law) 5 2 43) {r : Int32} {o0' : Ob} (h0 : Nat → Nat) (x1 : Int32) (x2 : Int32) (x3 : Int32) (o0 : Ob)  (Rk : RetOk g X [(shX7, h0, o0')] (some (.int r)) (some .int))  (hF : BX7_as_66  x1 x2 x3 o0 = some (r, o0')) : J g X [(shX7, h0, o0)] 66 [(1, .int x1), (2, .int x2), (3, .int x3)] [] := by
  unfold BX7_as_66 at hF
  refine j_iload_n C 1 dX7_as_66 rfl rfl ?_
  refine j_iconst (v := (4 : Int32)) C dX7_as_67 rfl ?_
  refine j_icmp_ne C 80 dX7_as_68 rfl (fun c_13 => ?_) (fun c_13 => ?_)
  · have hF := (if_neg c_13).symm.trans hF
    refine j_iconst (v := (0 : Int32)) C dX7_as_80 rfl ?_
    refine j_istore C [(4, .int (0 : Int32)), (1, .int x1), (2, .int x2), (3, .int x3)] dX7_as_81 (Nat.le_of_ble_eq_true rfl) rfl rfl ?_
    refine j_iload C 0 dX7_as_83 rfl ?_
    refine j_if_eq C 92 dX7_as_85 rfl (fun c_12 => ?_) (fun c_12 => ?_)
    · have hF := (if_pos c_12).symm.trans hF
      refine j_iconst (v := (-1 : Int32)) C dX7_as_92 rfl ?_
      cases hF
      exact j_iret C Rk dX7_as_93
    · have hF := (if_neg c_12).symm.trans hF
      refine j_iload_n C 1 dX7_as_88 rfl rfl ?_
      refine j_goto C 93 dX7_as_89 rfl ?_
      cases hF
      exact j_iret C Rk dX7_as_93
  · have hF := (if_pos c_13).symm.trans hF
    refine j_iload_n C 2 dX7_as_71 rfl rfl ?_
    refine j_iconst (v := (3 : Int32)) C dX7_as_72 rfl ?_
    refine j_icmp_ne C 80 dX7_as_73 rfl (fun c_11 => ?_) (fun c_11 => ?_)
    · have hF := (if_neg c_11).symm.trans hF
      refine j_iconst (v := (0 : Int32)) C dX7_as_80 rfl ?_
      refine j_istore C [(4, .int (0 : Int32)), (1, .int x1), (2, .int x2), (3, .int x3)] dX7_as_81 (Nat.le_of_ble_eq_true rfl) rfl rfl ?_
      refine j_iload C 0 dX7_as_83 rfl ?_
      refine j_if_eq C 92 dX7_as_85 rfl (fun c_10 => ?_) (fun c_10 => ?_)
      · have hF := (if_pos c_10).symm.trans hF
        refine j_iconst (v := (-1 : Int32)) C dX7_as_92 rfl ?_
        cases hF
        exact j_iret C Rk dX7_as_93
      · have hF := (if_neg c_10).symm.trans hF
        refine j_iload_n C 1 dX7_as_88 rfl rfl ?_
        refine j_goto C 93 dX7_as_89 rfl ?_
        cases hF
        exact j_iret C Rk dX7_as_93
    · have hF := (if_pos c_11).symm.trans hF
      refine j_sub [(1, .int x1)] [0] rfl ?_
      exact bX7_as_76 C h0 _ _ Rk  hF
set_option maxRecDepth 100000 in
set_option maxHeartbeats 4000000 in
theorem bX7_as_47 {g : Gl} {X : Cxt} (C : CxOk g X cX7_as RX7 (Cond.code yX7_as cX7_as 5 (some .int) :: wsL_law) 5 2 43) {r : Int32} {o0' : Ob} (h0 : Nat → Nat) (x1 : Int32) (x2 : Int32) (x3 : Int32) (o0 : Ob)  (Rk : RetOk g X [(shX7, h0, o0')] (some (.int r)) (some .int))  (hF : BX7_as_47  x1 x2 x3 o0 = some (r, o0')) : J g X [(shX7, h0, o0)] 47 [(1, .int x1), (2, .int x2), (3, .int x3)] [] := by
  unfold BX7_as_47 at hF
  refine j_iload_n C 1 dX7_as_47 rfl rfl ?_
  refine j_iconst (v := (2 : Int32)) C dX7_as_48 rfl ?_
  refine j_icmp_ne C 56 dX7_as_49 rfl (fun c_19 => ?_) (fun c_19 => ?_)
  · have hF := (if_neg c_19).symm.trans hF
    refine j_iload_n C 1 dX7_as_56 rfl rfl ?_
    refine j_iconst (v := (3 : Int32)) C dX7_as_57 rfl ?_
    refine j_icmp_ne C 66 dX7_as_58 rfl (fun c_18 => ?_) (fun c_18 => ?_)
    · have hF := (if_neg c_18).symm.trans hF
      exact bX7_as_66 C h0 _ _ _ _ Rk  hF
    · have hF := (if_pos c_18).symm.trans hF
      refine j_iload_n C 2 dX7_as_61 rfl rfl ?_
      refine j_iconst (v := (1 : Int32)) C dX7_as_62 rfl ?_
      refine j_icmp_gt C 76 dX7_as_63 rfl (fun c_17 => ?_) (fun c_17 => ?_)
      · have hF := (if_pos c_17).symm.trans hF
        refine j_sub [(1, .int x1)] [0] rfl ?_
        exact bX7_as_76 C h0 _ _ Rk  hF
      · have hF := (if_neg c_17).symm.trans hF
        exact bX7_as_66 C h0 _ _ _ _ Rk  hF
  · have hF := (if_pos c_19).symm.trans hF
    refine j_iload_n C 2 dX7_as_52 rfl rfl ?_
    refine j_if_ne C 76 dX7_as_53 rfl (fun c_16 => ?_) (fun c_16 => ?_)
    · have hF := (if_neg c_16).symm.trans hF
      refine j_sub [(1, .int x1)] [0] rfl ?_
      exact bX7_as_76 C h0 _ _ Rk  hF
    · have hF := (if_pos c_16).symm.trans hF
      refine j_iload_n C 1 dX7_as_56 rfl rfl ?_
      refine j_iconst (v := (3 : Int32)) C dX7_as_57 rfl ?_
      refine j_icmp_ne C 66 dX7_as_58 rfl (fun c_15 => ?_) (fun c_15 => ?_)
      · have hF := (if_neg c_15).symm.trans hF
        exact bX7_as_66 C h0 _ _ _ _ Rk  hF
      · have hF := (if_pos c_15).symm.trans hF
        refine j_iload_n C 2 dX7_as_61 rfl rfl ?_
        refine j_iconst (v := (1 : Int32)) C dX7_as_62 rfl ?_
        refine j_icmp_gt C 76 dX7_as_63 rfl (fun c_14 => ?_) (fun c_14 => ?_)
        · have hF := (if_pos c_14).symm.trans hF
          refine j_sub [(1, .int x1)] [0] rfl ?_
          exact bX7_as_76 C h0 _ _ Rk  hF
        · have hF := (if_neg c_14).symm.trans hF
          exact bX7_as_66 C h0 _ _ _ _ Rk  hF
set_option maxRecDepth 100000 in
set_option maxHeartbeats 4000000 in
theorem kX7_as (g : Gl) (h0 : Nat → Nat) (x1 : Int32) (x2 : Int32) (o0 : Ob) {r : Int32} {o0' : Ob} (hF : FX7_as x1 x2 o0 = some (r, o0')) : Ctr g yX7_as (Cond.code yX7_as cX7_as 5 (some .int) :: wsL_law) 2 43 [(shX7, h0, o0)] [(shX7, h0, o0')] [.ref (h0 0), .int x1, .int x2] (some (.int r)) := by
  refine Ctr.of (cc := cX7_as) (maxL := 5) (ret := (some .int)) (by decide) rfl (Nat.le_of_ble_eq_true rfl) ?_
  intro X C Rk
  replace C : CxOk g X cX7_as RX7 (Cond.code yX7_as cX7_as 5 (some .int) :: wsL_law) 5 2 43 := C
  show J g X [(shX7, h0, o0)] 0 [(0, .ref (h0 0)), (1, .int x1), (2, .int x2)] []
  unfold FX7_as at hF
  refine j_aload_n C 0 dX7_as_0 rfl rfl ?_
  refine j_iconst (v := (0 : Int32)) C dX7_as_1 rfl ?_
  obtain ⟨o0_2, e_1, hF⟩ := glT hF
  refine j_putV C tyX7_ok nmX7 0 4 rfl rfl (Nat.le_of_ble_eq_true rfl) rfl in1_X7 (List.mem_cons_of_mem _ mw_5_19) rfl fd_X7_4 rfl rfl [(shX7, h0, o0_2)] (by rw [e_1]; rfl) dX7_as_2 ?_
  refine j_aload_n C 0 dX7_as_5 rfl rfl ?_
  refine j_iload_n C 1 dX7_as_6 rfl rfl ?_
  obtain ⟨r_3, k_4, hF⟩ := gb1 hF
  refine j_callVi C (os' := [(shX7, h0, o0_2)]) [.int x1] (kX7_isThere g h0 x1 o0_2 k_4) [0] rfl rfl rfl rfl 0 rfl rfl (wl_gV mw_24_5 mw_24_6 mw_24_7 mw_1_5 mw_24_8) rfl 1 rfl hd_X7_isThere ⟨Nat.le_of_ble_eq_true rfl, Nat.le_of_ble_eq_true rfl⟩ (Nat.le_of_ble_eq_true rfl) rfl dX7_as_7 ?_
  refine j_if_ne C 16 dX7_as_10 rfl (fun c_24 => ?_) (fun c_24 => ?_)
  · have hF := (if_neg c_24).symm.trans hF
    refine j_iload_n C 2 dX7_as_16 rfl rfl ?_
    refine j_iconst (v := (0 : Int32)) C dX7_as_17 rfl ?_
    refine j_iconst (v := (4 : Int32)) C dX7_as_18 rfl ?_
    obtain ⟨r_5, k_6, hF⟩ := gb1 hF
    refine j_callSi C (os' := [(shX7, h0, o0_2)]) [.int x2, .int (0 : Int32), .int (4 : Int32)] (kX7_within g x2 (0 : Int32) (4 : Int32) k_6) [] rfl rfl rfl rfl (wl_gS mw_6_18 mw_6_19 mw_1_5 mw_6_20) rfl 3 rfl hd_X7_within ⟨Nat.le_of_ble_eq_true rfl, Nat.le_of_ble_eq_true rfl⟩ (Nat.le_of_ble_eq_true rfl) rfl dX7_as_19 ?_
    refine j_if_ne C 28 dX7_as_22 rfl (fun c_23 => ?_) (fun c_23 => ?_)
    · have hF := (if_neg c_23).symm.trans hF
      refine j_aload_n C 0 dX7_as_28 rfl rfl ?_
      refine j_iload_n C 1 dX7_as_29 rfl rfl ?_
      obtain ⟨r_7, k_8, hF⟩ := gb1 hF
      refine j_callVi C (os' := [(shX7, h0, o0_2)]) [.int x1] (kX7_kindOf g h0 x1 o0_2 k_8) [0] rfl rfl rfl rfl 0 rfl rfl (wl_gV mw_24_9 mw_24_10 mw_24_11 mw_1_5 mw_24_12) rfl 1 rfl hd_X7_kindOf ⟨Nat.le_of_ble_eq_true rfl, Nat.le_of_ble_eq_true rfl⟩ (Nat.le_of_ble_eq_true rfl) rfl dX7_as_30 ?_
      refine j_istore_n C [(3, .int r_7), (0, .ref (h0 0)), (1, .int x1), (2, .int x2)] dX7_as_33 rfl (Nat.le_of_ble_eq_true rfl) rfl rfl ?_
      refine j_iload_n C 3 dX7_as_34 rfl rfl ?_
      refine j_if_eq C 76 dX7_as_35 rfl (fun c_22 => ?_) (fun c_22 => ?_)
      · have hF := (if_pos c_22).symm.trans hF
        refine j_sub [(1, .int x1)] [2] rfl ?_
        exact bX7_as_76 C h0 _ _ Rk  hF
      · have hF := (if_neg c_22).symm.trans hF
        refine j_iload_n C 3 dX7_as_38 rfl rfl ?_
        refine j_iconst (v := (1 : Int32)) C dX7_as_39 rfl ?_
        refine j_icmp_ne C 47 dX7_as_40 rfl (fun c_21 => ?_) (fun c_21 => ?_)
        · have hF := (if_neg c_21).symm.trans hF
          refine j_sub [(1, .int x1), (2, .int x2), (3, .int r_7)] [2, 3, 0] rfl ?_
          exact bX7_as_47 C h0 _ _ _ _ Rk  hF
        · have hF := (if_pos c_21).symm.trans hF
          refine j_iload_n C 0 dX7_as_43 rfl rfl ?_
          refine j_if_eq C 76 dX7_as_44 rfl (fun c_20 => ?_) (fun c_20 => ?_)
          · have hF := (if_pos c_20).symm.trans hF
            refine j_sub [(1, .int x1)] [2] rfl ?_
            exact bX7_as_76 C h0 _ _ Rk  hF
          · have hF := (if_neg c_20).symm.trans hF
            refine j_sub [(1, .int x1), (2, .int x2), (3, .int r_7)] [2, 3, 0] rfl ?_
            exact bX7_as_47 C h0 _ _ _ _ Rk  hF
    · have hF := (if_pos c_23).symm.trans hF
      refine j_bipush (v := (-102 : Int32)) C dX7_as_25 rfl ?_
      cases hF
      exact j_iret C Rk dX7_as_27
  · have hF := (if_pos c_24).symm.trans hF
    refine j_bipush (v := (-101 : Int32)) C dX7_as_13 rfl ?_
    cases hF
    exact j_iret C Rk dX7_as_15
/-! HeadsMeetModel.open -/
def FX7_open (x1 : Int32) (o0 : Ob) : Option (Int32 × Ob) :=
  lT (sV o0 4 (0 : Int32)) fun o0_2 =>
  b1 (FX7_isOpen x1 o0_2) fun r_3 =>
  if r_3 = 0 then
    some ((-101 : Int32), o0_2)
  else
    b1 (FX7_at ((900 : Int32) + x1) o0_2) fun r_5 =>
    some (r_5, o0_2)
set_option maxRecDepth 100000 in
set_option maxHeartbeats 4000000 in
theorem kX7_open (g : Gl) (h0 : Nat → Nat) (x1 : Int32) (o0 : Ob) {r : Int32} {o0' : Ob} (hF : FX7_open x1 o0 = some (r, o0')) : Ctr g yX7_open (Cond.code yX7_open cX7_open 2 (some .int) :: wsL_law) 2 43 [(shX7, h0, o0)] [(shX7, h0, o0')] [.ref (h0 0), .int x1] (some (.int r)) := by
  refine Ctr.of (cc := cX7_open) (maxL := 2) (ret := (some .int)) (by decide) rfl (Nat.le_of_ble_eq_true rfl) ?_
  intro X C Rk
  replace C : CxOk g X cX7_open RX7 (Cond.code yX7_open cX7_open 2 (some .int) :: wsL_law) 2 2 43 := C
  show J g X [(shX7, h0, o0)] 0 [(0, .ref (h0 0)), (1, .int x1)] []
  unfold FX7_open at hF
  refine j_aload_n C 0 dX7_open_0 rfl rfl ?_
  refine j_iconst (v := (0 : Int32)) C dX7_open_1 rfl ?_
  obtain ⟨o0_2, e_1, hF⟩ := glT hF
  refine j_putV C tyX7_ok nmX7 0 4 rfl rfl (Nat.le_of_ble_eq_true rfl) rfl in1_X7 (List.mem_cons_of_mem _ mw_5_19) rfl fd_X7_4 rfl rfl [(shX7, h0, o0_2)] (by rw [e_1]; rfl) dX7_open_2 ?_
  refine j_aload_n C 0 dX7_open_5 rfl rfl ?_
  refine j_iload_n C 1 dX7_open_6 rfl rfl ?_
  obtain ⟨r_3, k_4, hF⟩ := gb1 hF
  refine j_callVi C (os' := [(shX7, h0, o0_2)]) [.int x1] (kX7_isOpen g h0 x1 o0_2 k_4) [0] rfl rfl rfl rfl 0 rfl rfl (wl_gV mw_29_17 mw_29_18 mw_29_19 mw_1_5 mw_29_20) rfl 1 rfl hd_X7_isOpen ⟨Nat.le_of_ble_eq_true rfl, Nat.le_of_ble_eq_true rfl⟩ (Nat.le_of_ble_eq_true rfl) rfl dX7_open_7 ?_
  refine j_if_eq C 25 dX7_open_10 rfl (fun c_7 => ?_) (fun c_7 => ?_)
  · have hF := (if_pos c_7).symm.trans hF
    refine j_bipush (v := (-101 : Int32)) C dX7_open_25 rfl ?_
    cases hF
    exact j_iret C Rk dX7_open_27
  · have hF := (if_neg c_7).symm.trans hF
    refine j_aload_n C 0 dX7_open_13 rfl rfl ?_
    refine j_sipush (v := (900 : Int32)) C dX7_open_14 rfl ?_
    refine j_iload_n C 1 dX7_open_17 rfl rfl ?_
    refine j_iadd C dX7_open_18 ?_
    obtain ⟨r_5, k_6, hF⟩ := gb1 hF
    refine j_callVi C (os' := [(shX7, h0, o0_2)]) [.int ((900 : Int32) + x1)] (kX7_at g h0 ((900 : Int32) + x1) o0_2 k_6) [0] rfl rfl rfl rfl 0 rfl rfl (wl_gV mw_24_21 mw_24_22 mw_24_23 mw_1_5 mw_25_0) rfl 1 rfl hd_X7_at ⟨Nat.le_of_ble_eq_true rfl, Nat.le_of_ble_eq_true rfl⟩ (Nat.le_of_ble_eq_true rfl) rfl dX7_open_19 ?_
    refine j_goto C 27 dX7_open_22 rfl ?_
    cases hF
    exact j_iret C Rk dX7_open_27
/-! HeadsMeetModel.meetings -/
def BX7_meetings_18 (x1 : Int32) (o0 : Ob) : Option (Int32 × Ob) :=
  lT (sV o0 4 (0 : Int32)) fun o0_4 =>
  b1 (FX7_isNet o0_4) fun r_5 =>
  if r_5 = 0 then
    some ((-103 : Int32), o0_4)
  else
    if x1 = 0 then
      b1 (FX7_meetingsNow o0_4) fun r_7 =>
      some (r_7, o0_4)
    else
      b1 (FX7_meetingAt (x1 - (10 : Int32)) o0_4) fun r_9 =>
      some (r_9, o0_4)
def FX7_meetings (x1 : Int32) (o0 : Ob) : Option (Int32 × Ob) :=
  if x1 = 0 then
    BX7_meetings_18 x1 o0
  else
    b1 (FX7_within x1 (10 : Int32) (39 : Int32)) fun r_1 =>
    if r_1 = 0 then
      some ((-102 : Int32), o0)
    else
      BX7_meetings_18 x1 o0
set_option maxRecDepth 100000 in
set_option maxHeartbeats 4000000 in
theorem bX7_meetings_18 {g : Gl} {X : Cxt} (C : CxOk g X cX7_meetings RX7 (Cond.code yX7_meetings cX7_meetings 2 (some .int) :: wsL_law) 2 4 88) {r : Int32} {o0' : Ob} (h0 : Nat → Nat) (x1 : Int32) (o0 : Ob)  (Rk : RetOk g X [(shX7, h0, o0')] (some (.int r)) (some .int))  (hF : BX7_meetings_18  x1 o0 = some (r, o0')) : J g X [(shX7, h0, o0)] 18 [(0, .ref (h0 0)), (1, .int x1)] [] := by
  unfold BX7_meetings_18 at hF
  refine j_aload_n C 0 dX7_meetings_18 rfl rfl ?_
  refine j_iconst (v := (0 : Int32)) C dX7_meetings_19 rfl ?_
  obtain ⟨o0_4, e_3, hF⟩ := glT hF
  refine j_putV C tyX7_ok nmX7 0 4 rfl rfl (Nat.le_of_ble_eq_true rfl) rfl in1_X7 (List.mem_cons_of_mem _ mw_5_19) rfl fd_X7_4 rfl rfl [(shX7, h0, o0_4)] (by rw [e_3]; rfl) dX7_meetings_20 ?_
  refine j_aload_n C 0 dX7_meetings_23 rfl rfl ?_
  obtain ⟨r_5, k_6, hF⟩ := gb1 hF
  refine j_callVi C (os' := [(shX7, h0, o0_4)]) [] (kX7_isNet g h0 o0_4 k_6) [0] rfl rfl rfl rfl 0 rfl rfl (wl_gV mw_30_7 mw_30_8 mw_30_9 mw_1_5 mw_30_10) rfl 0 rfl hd_X7_isNet ⟨Nat.le_of_ble_eq_true rfl, Nat.le_of_ble_eq_true rfl⟩ (Nat.le_of_ble_eq_true rfl) rfl dX7_meetings_24 ?_
  refine j_if_ne C 35 dX7_meetings_27 rfl (fun c_12 => ?_) (fun c_12 => ?_)
  · have hF := (if_neg c_12).symm.trans hF
    refine j_iload_n C 1 dX7_meetings_35 rfl rfl ?_
    refine j_if_ne C 46 dX7_meetings_36 rfl (fun c_11 => ?_) (fun c_11 => ?_)
    · have hF := (if_neg c_11).symm.trans hF
      refine j_aload_n C 0 dX7_meetings_46 rfl rfl ?_
      refine j_iload_n C 1 dX7_meetings_47 rfl rfl ?_
      refine j_bipush (v := (10 : Int32)) C dX7_meetings_48 rfl ?_
      refine j_isub C dX7_meetings_50 ?_
      obtain ⟨r_9, k_10, hF⟩ := gb1 hF
      refine j_callVi C (os' := [(shX7, h0, o0_4)]) [.int (x1 - (10 : Int32))] (kX7_meetingAt g h0 (x1 - (10 : Int32)) o0_4 k_10) [0] rfl rfl rfl rfl 0 rfl rfl (wl_gV mw_26_5 mw_26_6 mw_26_7 mw_1_5 mw_26_8) rfl 1 rfl hd_X7_meetingAt ⟨Nat.le_of_ble_eq_true rfl, Nat.le_of_ble_eq_true rfl⟩ (Nat.le_of_ble_eq_true rfl) rfl dX7_meetings_51 ?_
      cases hF
      exact j_iret C Rk dX7_meetings_54
    · have hF := (if_pos c_11).symm.trans hF
      refine j_aload_n C 0 dX7_meetings_39 rfl rfl ?_
      obtain ⟨r_7, k_8, hF⟩ := gb1 hF
      refine j_callVi C (os' := [(shX7, h0, o0_4)]) [] (kX7_meetingsNow g h0 o0_4 k_8) [0] rfl rfl rfl rfl 0 rfl rfl (wl_gV mw_25_21 mw_25_22 mw_25_23 mw_1_5 mw_26_0) rfl 0 rfl hd_X7_meetingsNow ⟨Nat.le_of_ble_eq_true rfl, Nat.le_of_ble_eq_true rfl⟩ (Nat.le_of_ble_eq_true rfl) rfl dX7_meetings_40 ?_
      refine j_goto C 54 dX7_meetings_43 rfl ?_
      cases hF
      exact j_iret C Rk dX7_meetings_54
  · have hF := (if_pos c_12).symm.trans hF
    refine j_bipush (v := (-103 : Int32)) C dX7_meetings_30 rfl ?_
    refine j_goto C 54 dX7_meetings_32 rfl ?_
    cases hF
    exact j_iret C Rk dX7_meetings_54
set_option maxRecDepth 100000 in
set_option maxHeartbeats 4000000 in
theorem kX7_meetings (g : Gl) (h0 : Nat → Nat) (x1 : Int32) (o0 : Ob) {r : Int32} {o0' : Ob} (hF : FX7_meetings x1 o0 = some (r, o0')) : Ctr g yX7_meetings (Cond.code yX7_meetings cX7_meetings 2 (some .int) :: wsL_law) 4 88 [(shX7, h0, o0)] [(shX7, h0, o0')] [.ref (h0 0), .int x1] (some (.int r)) := by
  refine Ctr.of (cc := cX7_meetings) (maxL := 2) (ret := (some .int)) (by decide) rfl (Nat.le_of_ble_eq_true rfl) ?_
  intro X C Rk
  replace C : CxOk g X cX7_meetings RX7 (Cond.code yX7_meetings cX7_meetings 2 (some .int) :: wsL_law) 2 4 88 := C
  show J g X [(shX7, h0, o0)] 0 [(0, .ref (h0 0)), (1, .int x1)] []
  unfold FX7_meetings at hF
  refine j_iload_n C 1 dX7_meetings_0 rfl rfl ?_
  refine j_if_eq C 18 dX7_meetings_1 rfl (fun c_14 => ?_) (fun c_14 => ?_)
  · have hF := (if_pos c_14).symm.trans hF
    exact bX7_meetings_18 C h0 _ _ Rk  hF
  · have hF := (if_neg c_14).symm.trans hF
    refine j_iload_n C 1 dX7_meetings_4 rfl rfl ?_
    refine j_bipush (v := (10 : Int32)) C dX7_meetings_5 rfl ?_
    refine j_bipush (v := (39 : Int32)) C dX7_meetings_7 rfl ?_
    obtain ⟨r_1, k_2, hF⟩ := gb1 hF
    refine j_callSi C (os' := [(shX7, h0, o0)]) [.int x1, .int (10 : Int32), .int (39 : Int32)] (kX7_within g x1 (10 : Int32) (39 : Int32) k_2) [] rfl rfl rfl rfl (wl_gS mw_6_18 mw_6_19 mw_1_5 mw_6_20) rfl 3 rfl hd_X7_within ⟨Nat.le_of_ble_eq_true rfl, Nat.le_of_ble_eq_true rfl⟩ (Nat.le_of_ble_eq_true rfl) rfl dX7_meetings_9 ?_
    refine j_if_ne C 18 dX7_meetings_12 rfl (fun c_13 => ?_) (fun c_13 => ?_)
    · have hF := (if_neg c_13).symm.trans hF
      exact bX7_meetings_18 C h0 _ _ Rk  hF
    · have hF := (if_pos c_13).symm.trans hF
      refine j_bipush (v := (-102 : Int32)) C dX7_meetings_15 rfl ?_
      cases hF
      exact j_iret C Rk dX7_meetings_17
/-! HeadsMeetModel.isFull -/
def FX7_isFull (x1 : Int32) (o0 : Ob) : Option (Int32) :=
  b1 (FX7_sortOf x1 o0) fun r_1 =>
  if r_1 = (2 : Int32) then
    b1 (FX7_nodes o0) fun r_3 =>
    if (r_3 + (2 : Int32)) ≤ (60 : Int32) then
      some (0 : Int32)
    else
      some (1 : Int32)
  else
    some (0 : Int32)
set_option maxRecDepth 100000 in
set_option maxHeartbeats 4000000 in
theorem kX7_isFull (g : Gl) (h0 : Nat → Nat) (x1 : Int32) (o0 : Ob) {r : Int32} (hF : FX7_isFull x1 o0 = some r) : Ctr g yX7_isFull (Cond.code yX7_isFull cX7_isFull 2 (some .boolean) :: wsL_law) 3 67 [(shX7, h0, o0)] [(shX7, h0, o0)] [.ref (h0 0), .int x1] (some (.int r)) := by
  refine Ctr.of (cc := cX7_isFull) (maxL := 2) (ret := (some .boolean)) (by decide) rfl (Nat.le_of_ble_eq_true rfl) ?_
  intro X C Rk
  replace C : CxOk g X cX7_isFull RX7 (Cond.code yX7_isFull cX7_isFull 2 (some .boolean) :: wsL_law) 2 3 67 := C
  show J g X [(shX7, h0, o0)] 0 [(0, .ref (h0 0)), (1, .int x1)] []
  unfold FX7_isFull at hF
  refine j_aload_n C 0 dX7_isFull_0 rfl rfl ?_
  refine j_iload_n C 1 dX7_isFull_1 rfl rfl ?_
  obtain ⟨r_1, k_2, hF⟩ := gb1 hF
  refine j_callVi C (os' := [(shX7, h0, o0)]) [.int x1] (kX7_sortOf g h0 x1 o0 k_2) [0] rfl rfl rfl rfl 0 rfl rfl (wl_gV mw_26_13 mw_26_14 mw_26_15 mw_1_5 mw_26_16) rfl 1 rfl hd_X7_sortOf ⟨Nat.le_of_ble_eq_true rfl, Nat.le_of_ble_eq_true rfl⟩ (Nat.le_of_ble_eq_true rfl) rfl dX7_isFull_2 ?_
  refine j_iconst (v := (2 : Int32)) C dX7_isFull_5 rfl ?_
  refine j_icmp_ne C 24 dX7_isFull_6 rfl (fun c_6 => ?_) (fun c_6 => ?_)
  · have hF := (if_neg c_6).symm.trans hF
    refine j_iconst (v := (0 : Int32)) C dX7_isFull_24 rfl ?_
    cases hF
    exact j_zret C rfl Rk dX7_isFull_25
  · have hF := (if_pos c_6).symm.trans hF
    refine j_aload_n C 0 dX7_isFull_9 rfl rfl ?_
    obtain ⟨r_3, k_4, hF⟩ := gb1 hF
    refine j_callVi C (os' := [(shX7, h0, o0)]) [] (kX7_nodes g h0 o0 k_4) [0] rfl rfl rfl rfl 0 rfl rfl (wl_gV mw_31_5 mw_31_6 mw_31_7 mw_1_5 mw_31_8) rfl 0 rfl hd_X7_nodes ⟨Nat.le_of_ble_eq_true rfl, Nat.le_of_ble_eq_true rfl⟩ (Nat.le_of_ble_eq_true rfl) rfl dX7_isFull_10 ?_
    refine j_iconst (v := (2 : Int32)) C dX7_isFull_13 rfl ?_
    refine j_iadd C dX7_isFull_14 ?_
    refine j_bipush (v := (60 : Int32)) C dX7_isFull_15 rfl ?_
    refine j_icmp_le C 24 dX7_isFull_17 rfl (fun c_5 => ?_) (fun c_5 => ?_)
    · have hF := (if_pos c_5).symm.trans hF
      refine j_iconst (v := (0 : Int32)) C dX7_isFull_24 rfl ?_
      cases hF
      exact j_zret C rfl Rk dX7_isFull_25
    · have hF := (if_neg c_5).symm.trans hF
      refine j_iconst (v := (1 : Int32)) C dX7_isFull_20 rfl ?_
      refine j_goto C 25 dX7_isFull_21 rfl ?_
      cases hF
      exact j_zret C rfl Rk dX7_isFull_25
/-! HeadsMeetModel.meet -/
def FX7_meet (x1 : Int32) (o0 : Ob) : Option (Int32 × Ob) :=
  lT (sV o0 4 (0 : Int32)) fun o0_2 =>
  b1 (FX7_isNet o0_2) fun r_3 =>
  if r_3 = 0 then
    some ((-101 : Int32), o0_2)
  else
    b1 (FX7_meetingsNow o0_2) fun r_5 =>
    b1 (FX7_within x1 (0 : Int32) (r_5 - (1 : Int32))) fun r_7 =>
    if r_7 = 0 then
      some ((-101 : Int32), o0_2)
    else
      b1 (FX7_meetingAt x1 o0_2) fun r_9 =>
      b1 (FX7_isFull r_9 o0_2) fun r_11 =>
      if r_11 = 0 then
        b2 (FX7_meetNow r_9 o0_2) fun r_13 o0_14 =>
        if inb r_13 4 then
        lT (sA o0_14 6 r_13.toNatClampNeg ((oA o0_14 6 r_13.toNatClampNeg) + (1 : Int32))) fun o0_18 =>
        some (r_13, o0_18)
        else none
      else
        some ((-104 : Int32), o0_2)
set_option maxRecDepth 100000 in
set_option maxHeartbeats 4000000 in
theorem kX7_meet (g : Gl) (h0 : Nat → Nat) (x1 : Int32) (o0 : Ob) {r : Int32} {o0' : Ob} (hF : FX7_meet x1 o0 = some (r, o0')) : Ctr g yX7_meet (Cond.code yX7_meet cX7_meet 4 (some .int) :: wsL_law) 4 94 [(shX7, h0, o0)] [(shX7, h0, o0')] [.ref (h0 0), .int x1] (some (.int r)) := by
  refine Ctr.of (cc := cX7_meet) (maxL := 4) (ret := (some .int)) (by decide) rfl (Nat.le_of_ble_eq_true rfl) ?_
  intro X C Rk
  replace C : CxOk g X cX7_meet RX7 (Cond.code yX7_meet cX7_meet 4 (some .int) :: wsL_law) 4 4 94 := C
  show J g X [(shX7, h0, o0)] 0 [(0, .ref (h0 0)), (1, .int x1)] []
  unfold FX7_meet at hF
  refine j_aload_n C 0 dX7_meet_0 rfl rfl ?_
  refine j_iconst (v := (0 : Int32)) C dX7_meet_1 rfl ?_
  obtain ⟨o0_2, e_1, hF⟩ := glT hF
  refine j_putV C tyX7_ok nmX7 0 4 rfl rfl (Nat.le_of_ble_eq_true rfl) rfl in1_X7 (List.mem_cons_of_mem _ mw_5_19) rfl fd_X7_4 rfl rfl [(shX7, h0, o0_2)] (by rw [e_1]; rfl) dX7_meet_2 ?_
  refine j_aload_n C 0 dX7_meet_5 rfl rfl ?_
  obtain ⟨r_3, k_4, hF⟩ := gb1 hF
  refine j_callVi C (os' := [(shX7, h0, o0_2)]) [] (kX7_isNet g h0 o0_2 k_4) [0] rfl rfl rfl rfl 0 rfl rfl (wl_gV mw_30_7 mw_30_8 mw_30_9 mw_1_5 mw_30_10) rfl 0 rfl hd_X7_isNet ⟨Nat.le_of_ble_eq_true rfl, Nat.le_of_ble_eq_true rfl⟩ (Nat.le_of_ble_eq_true rfl) rfl dX7_meet_6 ?_
  refine j_if_eq C 26 dX7_meet_9 rfl (fun c_21 => ?_) (fun c_21 => ?_)
  · have hF := (if_pos c_21).symm.trans hF
    refine j_bipush (v := (-101 : Int32)) C dX7_meet_26 rfl ?_
    cases hF
    exact j_iret C Rk dX7_meet_28
  · have hF := (if_neg c_21).symm.trans hF
    refine j_iload_n C 1 dX7_meet_12 rfl rfl ?_
    refine j_iconst (v := (0 : Int32)) C dX7_meet_13 rfl ?_
    refine j_aload_n C 0 dX7_meet_14 rfl rfl ?_
    obtain ⟨r_5, k_6, hF⟩ := gb1 hF
    refine j_callVi C (os' := [(shX7, h0, o0_2)]) [] (kX7_meetingsNow g h0 o0_2 k_6) [0] rfl rfl rfl rfl 0 rfl rfl (wl_gV mw_25_21 mw_25_22 mw_25_23 mw_1_5 mw_26_0) rfl 0 rfl hd_X7_meetingsNow ⟨Nat.le_of_ble_eq_true rfl, Nat.le_of_ble_eq_true rfl⟩ (Nat.le_of_ble_eq_true rfl) rfl dX7_meet_15 ?_
    refine j_iconst (v := (1 : Int32)) C dX7_meet_18 rfl ?_
    refine j_isub C dX7_meet_19 ?_
    obtain ⟨r_7, k_8, hF⟩ := gb1 hF
    refine j_callSi C (os' := [(shX7, h0, o0_2)]) [.int x1, .int (0 : Int32), .int (r_5 - (1 : Int32))] (kX7_within g x1 (0 : Int32) (r_5 - (1 : Int32)) k_8) [] rfl rfl rfl rfl (wl_gS mw_6_18 mw_6_19 mw_1_5 mw_6_20) rfl 3 rfl hd_X7_within ⟨Nat.le_of_ble_eq_true rfl, Nat.le_of_ble_eq_true rfl⟩ (Nat.le_of_ble_eq_true rfl) rfl dX7_meet_20 ?_
    refine j_if_ne C 29 dX7_meet_23 rfl (fun c_20 => ?_) (fun c_20 => ?_)
    · have hF := (if_neg c_20).symm.trans hF
      refine j_aload_n C 0 dX7_meet_29 rfl rfl ?_
      refine j_iload_n C 1 dX7_meet_30 rfl rfl ?_
      obtain ⟨r_9, k_10, hF⟩ := gb1 hF
      refine j_callVi C (os' := [(shX7, h0, o0_2)]) [.int x1] (kX7_meetingAt g h0 x1 o0_2 k_10) [0] rfl rfl rfl rfl 0 rfl rfl (wl_gV mw_26_5 mw_26_6 mw_26_7 mw_1_5 mw_26_8) rfl 1 rfl hd_X7_meetingAt ⟨Nat.le_of_ble_eq_true rfl, Nat.le_of_ble_eq_true rfl⟩ (Nat.le_of_ble_eq_true rfl) rfl dX7_meet_31 ?_
      refine j_istore_n C [(2, .int r_9), (0, .ref (h0 0)), (1, .int x1)] dX7_meet_34 rfl (Nat.le_of_ble_eq_true rfl) rfl rfl ?_
      refine j_aload_n C 1 dX7_meet_35 rfl rfl ?_
      refine j_iload_n C 0 dX7_meet_36 rfl rfl ?_
      obtain ⟨r_11, k_12, hF⟩ := gb1 hF
      refine j_callVi C (os' := [(shX7, h0, o0_2)]) [.int r_9] (kX7_isFull g h0 r_9 o0_2 k_12) [0] rfl rfl rfl rfl 0 rfl rfl (wl_gV mw_31_1 mw_31_2 mw_31_3 mw_1_5 mw_31_4) rfl 1 rfl hd_X7_isFull ⟨Nat.le_of_ble_eq_true rfl, Nat.le_of_ble_eq_true rfl⟩ (Nat.le_of_ble_eq_true rfl) rfl dX7_meet_37 ?_
      refine j_if_eq C 46 dX7_meet_40 rfl (fun c_19 => ?_) (fun c_19 => ?_)
      · have hF := (if_pos c_19).symm.trans hF
        refine j_aload_n C 1 dX7_meet_46 rfl rfl ?_
        refine j_iload_n C 0 dX7_meet_47 rfl rfl ?_
        obtain ⟨r_13, o0_14, k_15, hF⟩ := gb2 hF
        refine j_callVi C (os' := [(shX7, h0, o0_14)]) [.int r_9] (kX7_meetNow g h0 r_9 o0_2 k_15) [0] rfl rfl rfl rfl 0 rfl rfl (wl_gV mw_26_9 mw_26_10 mw_26_11 mw_1_5 mw_26_12) rfl 1 rfl hd_X7_meetNow ⟨Nat.le_of_ble_eq_true rfl, Nat.le_of_ble_eq_true rfl⟩ (Nat.le_of_ble_eq_true rfl) rfl dX7_meet_48 ?_
        refine j_istore_n C [(3, .int r_13), (2, .int r_9), (0, .ref (h0 0)), (1, .int x1)] dX7_meet_51 rfl (Nat.le_of_ble_eq_true rfl) rfl rfl ?_
        refine j_aload_n C 2 dX7_meet_52 rfl rfl ?_
        refine j_get (v := .ref (h0 7)) C 0 6 rfl rfl (Nat.le_of_ble_eq_true rfl) rfl rfl in1_X7 (List.mem_cons_of_mem _ mw_4_14) dX7_meet_53 ?_
        refine j_iload_n C 0 dX7_meet_56 rfl rfl ?_
        refine j_dup2 C rfl rfl dX7_meet_57 ?_
        obtain ⟨z_16, hF⟩ := gi hF
        refine j_iald C 0 6 rfl rfl z_16 dX7_meet_58 ?_
        refine j_iconst (v := (1 : Int32)) C dX7_meet_59 rfl ?_
        refine j_iadd C dX7_meet_60 ?_
        obtain ⟨o0_18, e_17, hF⟩ := glT hF
        refine j_iast C 0 6 rfl rfl z_16 [(shX7, h0, o0_18)] (by rw [e_17]; rfl) dX7_meet_61 ?_
        refine j_iload_n C 0 dX7_meet_62 rfl rfl ?_
        cases hF
        exact j_iret C Rk dX7_meet_63
      · have hF := (if_neg c_19).symm.trans hF
        refine j_bipush (v := (-104 : Int32)) C dX7_meet_43 rfl ?_
        cases hF
        exact j_iret C Rk dX7_meet_45
    · have hF := (if_pos c_20).symm.trans hF
      refine j_bipush (v := (-101 : Int32)) C dX7_meet_26 rfl ?_
      cases hF
      exact j_iret C Rk dX7_meet_28
/-! HeadsMeetModel.run -/
def LX7_run_30 (x1 : Int32) : Nat → Int32 → Ob → Option (Int32 × Ob)
  | 0, _, _ => none
  | n + 1, x2, o0 =>
    if x1 ≤ x2 then
      some (x2, o0)
    else
      b1 (FX7_meetingsNow o0) fun r_7 =>
      if r_7 ≤ 0 then
        some (x2, o0)
      else
        b1 (FX7_meetingAt (0 : Int32) o0) fun r_9 =>
        b1 (FX7_isFull r_9 o0) fun r_11 =>
        if r_11 = 0 then
          b1 (FX7_meetingAt (0 : Int32) o0) fun r_13 =>
          b2 (FX7_meetNow r_13 o0) fun r_15 o0_16 =>
          if inb r_15 4 then
          lT (sA o0_16 6 r_15.toNatClampNeg ((oA o0_16 6 r_15.toNatClampNeg) + (1 : Int32))) fun o0_20 =>
          lT (x2 + (1 : Int32)) fun x2_21 =>
          LX7_run_30 x1 n x2_21 o0_20
          else none
        else
          some (x2, o0)
def FX7_run (x1 : Int32) (o0 : Ob) : Option (Int32 × Ob) :=
  b1 (FX7_within x1 (1 : Int32) (60 : Int32)) fun r_1 =>
  if r_1 = 0 then
    some ((-102 : Int32), o0)
  else
    b1 (FX7_isNet o0) fun r_3 =>
    if r_3 = 0 then
      some ((-103 : Int32), o0)
    else
      lT (sV o0 4 (0 : Int32)) fun o0_6 =>
      LX7_run_30 x1 fu (0 : Int32) o0_6
set_option maxRecDepth 100000 in
set_option maxHeartbeats 4000000 in
theorem lX7_run_30 {g : Gl} {X : Cxt} (C : CxOk g X cX7_run RX7 (Cond.code yX7_run cX7_run 3 (some .int) :: wsL_law) 3 4 94) {r : Int32} {o0' : Ob} (h0 : Nat → Nat) (x1 : Int32)  (Rk : RetOk g X [(shX7, h0, o0')] (some (.int r)) (some .int))  : ∀ (n : Nat) (x2 : Int32) (o0 : Ob), LX7_run_30 x1 n x2 o0 = some (r, o0') → J g X [(shX7, h0, o0)] 30 [(0, .ref (h0 0)), (1, .int x1), (2, .int x2)] [] := by
  intro n
  induction n with
  | zero =>
    intro x2 o0 hF
    cases hF
  | succ n ih =>
    intro x2 o0 hF
    rw [LX7_run_30.eq_2] at hF
    refine j_iload_n C 2 dX7_run_30 rfl rfl ?_
    refine j_iload_n C 1 dX7_run_31 rfl rfl ?_
    refine j_icmp_ge C 78 dX7_run_32 rfl (fun c_25 => ?_) (fun c_25 => ?_)
    · have hF := (if_pos c_25).symm.trans hF
      refine j_iload_n C 2 dX7_run_78 rfl rfl ?_
      cases hF
      exact j_iret C Rk dX7_run_79
    · have hF := (if_neg c_25).symm.trans hF
      refine j_aload_n C 0 dX7_run_35 rfl rfl ?_
      obtain ⟨r_7, k_8, hF⟩ := gb1 hF
      refine j_callVi C (os' := [(shX7, h0, o0)]) [] (kX7_meetingsNow g h0 o0 k_8) [0] rfl rfl rfl rfl 0 rfl rfl (wl_gV mw_25_21 mw_25_22 mw_25_23 mw_1_5 mw_26_0) rfl 0 rfl hd_X7_meetingsNow ⟨Nat.le_of_ble_eq_true rfl, Nat.le_of_ble_eq_true rfl⟩ (Nat.le_of_ble_eq_true rfl) rfl dX7_run_36 ?_
      refine j_if_le C 78 dX7_run_39 rfl (fun c_24 => ?_) (fun c_24 => ?_)
      · have hF := (if_pos c_24).symm.trans hF
        refine j_iload_n C 2 dX7_run_78 rfl rfl ?_
        cases hF
        exact j_iret C Rk dX7_run_79
      · have hF := (if_neg c_24).symm.trans hF
        refine j_aload_n C 0 dX7_run_42 rfl rfl ?_
        refine j_aload_n C 0 dX7_run_43 rfl rfl ?_
        refine j_iconst (v := (0 : Int32)) C dX7_run_44 rfl ?_
        obtain ⟨r_9, k_10, hF⟩ := gb1 hF
        refine j_callVi C (os' := [(shX7, h0, o0)]) [.int (0 : Int32)] (kX7_meetingAt g h0 (0 : Int32) o0 k_10) [0] rfl rfl rfl rfl 0 rfl rfl (wl_gV mw_26_5 mw_26_6 mw_26_7 mw_1_5 mw_26_8) rfl 1 rfl hd_X7_meetingAt ⟨Nat.le_of_ble_eq_true rfl, Nat.le_of_ble_eq_true rfl⟩ (Nat.le_of_ble_eq_true rfl) rfl dX7_run_45 ?_
        obtain ⟨r_11, k_12, hF⟩ := gb1 hF
        refine j_callVi C (os' := [(shX7, h0, o0)]) [.int r_9] (kX7_isFull g h0 r_9 o0 k_12) [0] rfl rfl rfl rfl 0 rfl rfl (wl_gV mw_31_1 mw_31_2 mw_31_3 mw_1_5 mw_31_4) rfl 1 rfl hd_X7_isFull ⟨Nat.le_of_ble_eq_true rfl, Nat.le_of_ble_eq_true rfl⟩ (Nat.le_of_ble_eq_true rfl) rfl dX7_run_48 ?_
        refine j_if_ne C 78 dX7_run_51 rfl (fun c_23 => ?_) (fun c_23 => ?_)
        · have hF := (if_neg c_23).symm.trans hF
          refine j_iload_n C 2 dX7_run_78 rfl rfl ?_
          cases hF
          exact j_iret C Rk dX7_run_79
        · have hF := (if_pos c_23).symm.trans hF
          refine j_aload_n C 0 dX7_run_54 rfl rfl ?_
          refine j_get (v := .ref (h0 7)) C 0 6 rfl rfl (Nat.le_of_ble_eq_true rfl) rfl rfl in1_X7 (List.mem_cons_of_mem _ mw_4_14) dX7_run_55 ?_
          refine j_aload_n C 0 dX7_run_58 rfl rfl ?_
          refine j_aload_n C 0 dX7_run_59 rfl rfl ?_
          refine j_iconst (v := (0 : Int32)) C dX7_run_60 rfl ?_
          obtain ⟨r_13, k_14, hF⟩ := gb1 hF
          refine j_callVi C (os' := [(shX7, h0, o0)]) [.int (0 : Int32)] (kX7_meetingAt g h0 (0 : Int32) o0 k_14) [0] rfl rfl rfl rfl 0 rfl rfl (wl_gV mw_26_5 mw_26_6 mw_26_7 mw_1_5 mw_26_8) rfl 1 rfl hd_X7_meetingAt ⟨Nat.le_of_ble_eq_true rfl, Nat.le_of_ble_eq_true rfl⟩ (Nat.le_of_ble_eq_true rfl) rfl dX7_run_61 ?_
          obtain ⟨r_15, o0_16, k_17, hF⟩ := gb2 hF
          refine j_callVi C (os' := [(shX7, h0, o0_16)]) [.int r_13] (kX7_meetNow g h0 r_13 o0 k_17) [0] rfl rfl rfl rfl 0 rfl rfl (wl_gV mw_26_9 mw_26_10 mw_26_11 mw_1_5 mw_26_12) rfl 1 rfl hd_X7_meetNow ⟨Nat.le_of_ble_eq_true rfl, Nat.le_of_ble_eq_true rfl⟩ (Nat.le_of_ble_eq_true rfl) rfl dX7_run_64 ?_
          refine j_dup2 C rfl rfl dX7_run_67 ?_
          obtain ⟨z_18, hF⟩ := gi hF
          refine j_iald C 0 6 rfl rfl z_18 dX7_run_68 ?_
          refine j_iconst (v := (1 : Int32)) C dX7_run_69 rfl ?_
          refine j_iadd C dX7_run_70 ?_
          obtain ⟨o0_20, e_19, hF⟩ := glT hF
          refine j_iast C 0 6 rfl rfl z_18 [(shX7, h0, o0_20)] (by rw [e_19]; rfl) dX7_run_71 ?_
          obtain ⟨x2_21, e_22, hF⟩ := glT hF
          refine j_iinc C 2 [(2, .int x2_21), (0, .ref (h0 0)), (1, .int x1)] dX7_run_72 rfl e_22.symm (Nat.le_of_ble_eq_true rfl) rfl ?_
          refine j_goto C 30 dX7_run_75 rfl ?_
          refine j_sub [(0, .ref (h0 0)), (1, .int x1), (2, .int x2_21)] [1, 2, 0] rfl ?_
          exact ih _ _ hF
set_option maxRecDepth 100000 in
set_option maxHeartbeats 4000000 in
theorem kX7_run (g : Gl) (h0 : Nat → Nat) (x1 : Int32) (o0 : Ob) {r : Int32} {o0' : Ob} (hF : FX7_run x1 o0 = some (r, o0')) : Ctr g yX7_run (Cond.code yX7_run cX7_run 3 (some .int) :: wsL_law) 4 94 [(shX7, h0, o0)] [(shX7, h0, o0')] [.ref (h0 0), .int x1] (some (.int r)) := by
  refine Ctr.of (cc := cX7_run) (maxL := 3) (ret := (some .int)) (by decide) rfl (Nat.le_of_ble_eq_true rfl) ?_
  intro X C Rk
  replace C : CxOk g X cX7_run RX7 (Cond.code yX7_run cX7_run 3 (some .int) :: wsL_law) 3 4 94 := C
  show J g X [(shX7, h0, o0)] 0 [(0, .ref (h0 0)), (1, .int x1)] []
  unfold FX7_run at hF
  refine j_iload_n C 1 dX7_run_0 rfl rfl ?_
  refine j_iconst (v := (1 : Int32)) C dX7_run_1 rfl ?_
  refine j_bipush (v := (60 : Int32)) C dX7_run_2 rfl ?_
  obtain ⟨r_1, k_2, hF⟩ := gb1 hF
  refine j_callSi C (os' := [(shX7, h0, o0)]) [.int x1, .int (1 : Int32), .int (60 : Int32)] (kX7_within g x1 (1 : Int32) (60 : Int32) k_2) [] rfl rfl rfl rfl (wl_gS mw_6_18 mw_6_19 mw_1_5 mw_6_20) rfl 3 rfl hd_X7_within ⟨Nat.le_of_ble_eq_true rfl, Nat.le_of_ble_eq_true rfl⟩ (Nat.le_of_ble_eq_true rfl) rfl dX7_run_4 ?_
  refine j_if_ne C 13 dX7_run_7 rfl (fun c_27 => ?_) (fun c_27 => ?_)
  · have hF := (if_neg c_27).symm.trans hF
    refine j_aload_n C 0 dX7_run_13 rfl rfl ?_
    obtain ⟨r_3, k_4, hF⟩ := gb1 hF
    refine j_callVi C (os' := [(shX7, h0, o0)]) [] (kX7_isNet g h0 o0 k_4) [0] rfl rfl rfl rfl 0 rfl rfl (wl_gV mw_30_7 mw_30_8 mw_30_9 mw_1_5 mw_30_10) rfl 0 rfl hd_X7_isNet ⟨Nat.le_of_ble_eq_true rfl, Nat.le_of_ble_eq_true rfl⟩ (Nat.le_of_ble_eq_true rfl) rfl dX7_run_14 ?_
    refine j_if_ne C 23 dX7_run_17 rfl (fun c_26 => ?_) (fun c_26 => ?_)
    · have hF := (if_neg c_26).symm.trans hF
      refine j_aload_n C 0 dX7_run_23 rfl rfl ?_
      refine j_iconst (v := (0 : Int32)) C dX7_run_24 rfl ?_
      obtain ⟨o0_6, e_5, hF⟩ := glT hF
      refine j_putV C tyX7_ok nmX7 0 4 rfl rfl (Nat.le_of_ble_eq_true rfl) rfl in1_X7 (List.mem_cons_of_mem _ mw_5_19) rfl fd_X7_4 rfl rfl [(shX7, h0, o0_6)] (by rw [e_5]; rfl) dX7_run_25 ?_
      refine j_iconst (v := (0 : Int32)) C dX7_run_28 rfl ?_
      refine j_istore_n C [(2, .int (0 : Int32)), (0, .ref (h0 0)), (1, .int x1)] dX7_run_29 rfl (Nat.le_of_ble_eq_true rfl) rfl rfl ?_
      refine j_sub [(0, .ref (h0 0)), (1, .int x1), (2, .int (0 : Int32))] [1, 2, 0] rfl ?_
      refine lX7_run_30 C h0 x1 Rk  _ _ _ hF
    · have hF := (if_pos c_26).symm.trans hF
      refine j_bipush (v := (-103 : Int32)) C dX7_run_20 rfl ?_
      cases hF
      exact j_iret C Rk dX7_run_22
  · have hF := (if_pos c_27).symm.trans hF
    refine j_bipush (v := (-102 : Int32)) C dX7_run_10 rfl ?_
    cases hF
    exact j_iret C Rk dX7_run_12
/-! HeadsMeetModel.join -/
def FX7_join (x1 : Int32) (x2 : Int32) (o0 : Ob) : Option (Int32 × Ob) :=
  lT (sV o0 4 (0 : Int32)) fun o0_2 =>
  b1 (FX7_isOpen x1 o0_2) fun r_3 =>
  if r_3 = 0 then
    some ((-101 : Int32), o0_2)
  else
    b1 (FX7_isOpen x2 o0_2) fun r_5 =>
    if r_5 = 0 then
      some ((-101 : Int32), o0_2)
    else
      if x1 = x2 then
        some ((-101 : Int32), o0_2)
      else
        b1 (FX7_at ((900 : Int32) + x1) o0_2) fun r_7 =>
        b1 (FX7_at ((900 : Int32) + x2) o0_2) fun r_9 =>
        b1 (FX7_set ((900 : Int32) + x1) (-1 : Int32) o0_2) fun o0_11 =>
        b1 (FX7_set ((900 : Int32) + x2) (-1 : Int32) o0_11) fun o0_13 =>
        if r_7 = ((900 : Int32) + x2) then
          lT (sA o0_13 3 (0 : Int32).toNatClampNeg ((oA o0_13 3 (0 : Int32).toNatClampNeg) + (1 : Int32))) fun o0_16 =>
          some (oA o0_16 3 (0 : Int32).toNatClampNeg, o0_16)
        else
          b1 (FX7_wire r_7 r_9 o0_13) fun o0_17 =>
          some (oA o0_17 3 (0 : Int32).toNatClampNeg, o0_17)
set_option maxRecDepth 100000 in
set_option maxHeartbeats 4000000 in
theorem kX7_join (g : Gl) (h0 : Nat → Nat) (x1 : Int32) (x2 : Int32) (o0 : Ob) {r : Int32} {o0' : Ob} (hF : FX7_join x1 x2 o0 = some (r, o0')) : Ctr g yX7_join (Cond.code yX7_join cX7_join 5 (some .int) :: wsL_law) 2 44 [(shX7, h0, o0)] [(shX7, h0, o0')] [.ref (h0 0), .int x1, .int x2] (some (.int r)) := by
  refine Ctr.of (cc := cX7_join) (maxL := 5) (ret := (some .int)) (by decide) rfl (Nat.le_of_ble_eq_true rfl) ?_
  intro X C Rk
  replace C : CxOk g X cX7_join RX7 (Cond.code yX7_join cX7_join 5 (some .int) :: wsL_law) 5 2 44 := C
  show J g X [(shX7, h0, o0)] 0 [(0, .ref (h0 0)), (1, .int x1), (2, .int x2)] []
  unfold FX7_join at hF
  refine j_aload_n C 0 dX7_join_0 rfl rfl ?_
  refine j_iconst (v := (0 : Int32)) C dX7_join_1 rfl ?_
  obtain ⟨o0_2, e_1, hF⟩ := glT hF
  refine j_putV C tyX7_ok nmX7 0 4 rfl rfl (Nat.le_of_ble_eq_true rfl) rfl in1_X7 (List.mem_cons_of_mem _ mw_5_19) rfl fd_X7_4 rfl rfl [(shX7, h0, o0_2)] (by rw [e_1]; rfl) dX7_join_2 ?_
  refine j_aload_n C 0 dX7_join_5 rfl rfl ?_
  refine j_iload_n C 1 dX7_join_6 rfl rfl ?_
  obtain ⟨r_3, k_4, hF⟩ := gb1 hF
  refine j_callVi C (os' := [(shX7, h0, o0_2)]) [.int x1] (kX7_isOpen g h0 x1 o0_2 k_4) [0] rfl rfl rfl rfl 0 rfl rfl (wl_gV mw_29_17 mw_29_18 mw_29_19 mw_1_5 mw_29_20) rfl 1 rfl hd_X7_isOpen ⟨Nat.le_of_ble_eq_true rfl, Nat.le_of_ble_eq_true rfl⟩ (Nat.le_of_ble_eq_true rfl) rfl dX7_join_7 ?_
  refine j_if_eq C 26 dX7_join_10 rfl (fun c_22 => ?_) (fun c_22 => ?_)
  · have hF := (if_pos c_22).symm.trans hF
    refine j_bipush (v := (-101 : Int32)) C dX7_join_26 rfl ?_
    cases hF
    exact j_iret C Rk dX7_join_28
  · have hF := (if_neg c_22).symm.trans hF
    refine j_aload_n C 0 dX7_join_13 rfl rfl ?_
    refine j_iload_n C 2 dX7_join_14 rfl rfl ?_
    obtain ⟨r_5, k_6, hF⟩ := gb1 hF
    refine j_callVi C (os' := [(shX7, h0, o0_2)]) [.int x2] (kX7_isOpen g h0 x2 o0_2 k_6) [0] rfl rfl rfl rfl 0 rfl rfl (wl_gV mw_29_17 mw_29_18 mw_29_19 mw_1_5 mw_29_20) rfl 1 rfl hd_X7_isOpen ⟨Nat.le_of_ble_eq_true rfl, Nat.le_of_ble_eq_true rfl⟩ (Nat.le_of_ble_eq_true rfl) rfl dX7_join_15 ?_
    refine j_if_eq C 26 dX7_join_18 rfl (fun c_21 => ?_) (fun c_21 => ?_)
    · have hF := (if_pos c_21).symm.trans hF
      refine j_bipush (v := (-101 : Int32)) C dX7_join_26 rfl ?_
      cases hF
      exact j_iret C Rk dX7_join_28
    · have hF := (if_neg c_21).symm.trans hF
      refine j_iload_n C 1 dX7_join_21 rfl rfl ?_
      refine j_iload_n C 2 dX7_join_22 rfl rfl ?_
      refine j_icmp_ne C 29 dX7_join_23 rfl (fun c_20 => ?_) (fun c_20 => ?_)
      · have hF := (if_neg c_20).symm.trans hF
        refine j_aload_n C 0 dX7_join_29 rfl rfl ?_
        refine j_sipush (v := (900 : Int32)) C dX7_join_30 rfl ?_
        refine j_iload_n C 1 dX7_join_33 rfl rfl ?_
        refine j_iadd C dX7_join_34 ?_
        obtain ⟨r_7, k_8, hF⟩ := gb1 hF
        refine j_callVi C (os' := [(shX7, h0, o0_2)]) [.int ((900 : Int32) + x1)] (kX7_at g h0 ((900 : Int32) + x1) o0_2 k_8) [0] rfl rfl rfl rfl 0 rfl rfl (wl_gV mw_24_21 mw_24_22 mw_24_23 mw_1_5 mw_25_0) rfl 1 rfl hd_X7_at ⟨Nat.le_of_ble_eq_true rfl, Nat.le_of_ble_eq_true rfl⟩ (Nat.le_of_ble_eq_true rfl) rfl dX7_join_35 ?_
        refine j_istore_n C [(3, .int r_7), (0, .ref (h0 0)), (1, .int x1), (2, .int x2)] dX7_join_38 rfl (Nat.le_of_ble_eq_true rfl) rfl rfl ?_
        refine j_aload_n C 1 dX7_join_39 rfl rfl ?_
        refine j_sipush (v := (900 : Int32)) C dX7_join_40 rfl ?_
        refine j_iload_n C 3 dX7_join_43 rfl rfl ?_
        refine j_iadd C dX7_join_44 ?_
        obtain ⟨r_9, k_10, hF⟩ := gb1 hF
        refine j_callVi C (os' := [(shX7, h0, o0_2)]) [.int ((900 : Int32) + x2)] (kX7_at g h0 ((900 : Int32) + x2) o0_2 k_10) [0] rfl rfl rfl rfl 0 rfl rfl (wl_gV mw_24_21 mw_24_22 mw_24_23 mw_1_5 mw_25_0) rfl 1 rfl hd_X7_at ⟨Nat.le_of_ble_eq_true rfl, Nat.le_of_ble_eq_true rfl⟩ (Nat.le_of_ble_eq_true rfl) rfl dX7_join_45 ?_
        refine j_istore C [(4, .int r_9), (3, .int r_7), (0, .ref (h0 0)), (1, .int x1), (2, .int x2)] dX7_join_48 (Nat.le_of_ble_eq_true rfl) rfl rfl ?_
        refine j_aload_n C 2 dX7_join_50 rfl rfl ?_
        refine j_sipush (v := (900 : Int32)) C dX7_join_51 rfl ?_
        refine j_iload_n C 3 dX7_join_54 rfl rfl ?_
        refine j_iadd C dX7_join_55 ?_
        refine j_iconst (v := (-1 : Int32)) C dX7_join_56 rfl ?_
        obtain ⟨o0_11, k_12, hF⟩ := gb1 hF
        refine j_callVv C (os' := [(shX7, h0, o0_11)]) [.int ((900 : Int32) + x1), .int (-1 : Int32)] (kX7_set g h0 ((900 : Int32) + x1) (-1 : Int32) o0_2 k_12) [0] rfl rfl rfl rfl 0 rfl rfl (wl_gV mw_27_16 mw_27_17 mw_27_18 mw_1_5 mw_27_19) rfl 2 rfl hd_X7_set ⟨Nat.le_of_ble_eq_true rfl, Nat.le_of_ble_eq_true rfl⟩ (Nat.le_of_ble_eq_true rfl) rfl dX7_join_57 ?_
        refine j_aload_n C 2 dX7_join_60 rfl rfl ?_
        refine j_sipush (v := (900 : Int32)) C dX7_join_61 rfl ?_
        refine j_iload_n C 4 dX7_join_64 rfl rfl ?_
        refine j_iadd C dX7_join_65 ?_
        refine j_iconst (v := (-1 : Int32)) C dX7_join_66 rfl ?_
        obtain ⟨o0_13, k_14, hF⟩ := gb1 hF
        refine j_callVv C (os' := [(shX7, h0, o0_13)]) [.int ((900 : Int32) + x2), .int (-1 : Int32)] (kX7_set g h0 ((900 : Int32) + x2) (-1 : Int32) o0_11 k_14) [0] rfl rfl rfl rfl 0 rfl rfl (wl_gV mw_27_16 mw_27_17 mw_27_18 mw_1_5 mw_27_19) rfl 2 rfl hd_X7_set ⟨Nat.le_of_ble_eq_true rfl, Nat.le_of_ble_eq_true rfl⟩ (Nat.le_of_ble_eq_true rfl) rfl dX7_join_67 ?_
        refine j_iload_n C 1 dX7_join_70 rfl rfl ?_
        refine j_sipush (v := (900 : Int32)) C dX7_join_71 rfl ?_
        refine j_iload_n C 4 dX7_join_74 rfl rfl ?_
        refine j_iadd C dX7_join_75 ?_
        refine j_icmp_ne C 92 dX7_join_76 rfl (fun c_19 => ?_) (fun c_19 => ?_)
        · have hF := (if_neg c_19).symm.trans hF
          refine j_aload_n C 2 dX7_join_92 rfl rfl ?_
          refine j_iload_n C 1 dX7_join_93 rfl rfl ?_
          refine j_iload C 0 dX7_join_94 rfl ?_
          obtain ⟨o0_17, k_18, hF⟩ := gb1 hF
          refine j_callVv C (os' := [(shX7, h0, o0_17)]) [.int r_7, .int r_9] (kX7_wire g h0 r_7 r_9 o0_13 k_18) [0] rfl rfl rfl rfl 0 rfl rfl (wl_gV mw_27_12 mw_27_13 mw_27_14 mw_1_5 mw_27_15) rfl 2 rfl hd_X7_wire ⟨Nat.le_of_ble_eq_true rfl, Nat.le_of_ble_eq_true rfl⟩ (Nat.le_of_ble_eq_true rfl) rfl dX7_join_96 ?_
          refine j_aload_n C 2 dX7_join_99 rfl rfl ?_
          refine j_get (v := .ref (h0 4)) C 0 3 rfl rfl (Nat.le_of_ble_eq_true rfl) rfl rfl in1_X7 (List.mem_cons_of_mem _ mw_4_13) dX7_join_100 ?_
          refine j_iconst (v := (0 : Int32)) C dX7_join_103 rfl ?_
          refine j_iald C 0 3 rfl rfl (by decide) dX7_join_104 ?_
          cases hF
          exact j_iret C Rk dX7_join_105
        · have hF := (if_pos c_19).symm.trans hF
          refine j_aload_n C 2 dX7_join_79 rfl rfl ?_
          refine j_get (v := .ref (h0 4)) C 0 3 rfl rfl (Nat.le_of_ble_eq_true rfl) rfl rfl in1_X7 (List.mem_cons_of_mem _ mw_4_13) dX7_join_80 ?_
          refine j_iconst (v := (0 : Int32)) C dX7_join_83 rfl ?_
          refine j_dup2 C rfl rfl dX7_join_84 ?_
          refine j_iald C 0 3 rfl rfl (by decide) dX7_join_85 ?_
          refine j_iconst (v := (1 : Int32)) C dX7_join_86 rfl ?_
          refine j_iadd C dX7_join_87 ?_
          obtain ⟨o0_16, e_15, hF⟩ := glT hF
          refine j_iast C 0 3 rfl rfl (by decide) [(shX7, h0, o0_16)] (by rw [e_15]; rfl) dX7_join_88 ?_
          refine j_goto C 99 dX7_join_89 rfl ?_
          refine j_aload_n C 2 dX7_join_99 rfl rfl ?_
          refine j_get (v := .ref (h0 4)) C 0 3 rfl rfl (Nat.le_of_ble_eq_true rfl) rfl rfl in1_X7 (List.mem_cons_of_mem _ mw_4_13) dX7_join_100 ?_
          refine j_iconst (v := (0 : Int32)) C dX7_join_103 rfl ?_
          refine j_iald C 0 3 rfl rfl (by decide) dX7_join_104 ?_
          cases hF
          exact j_iret C Rk dX7_join_105
      · have hF := (if_pos c_20).symm.trans hF
        refine j_bipush (v := (-101 : Int32)) C dX7_join_26 rfl ?_
        cases hF
        exact j_iret C Rk dX7_join_28
/-! HeadsMeetModel.stop -/
def FX7_stop (x1 : Int32) (o0 : Ob) : Option (Int32 × Ob) :=
  lT (sV o0 4 (0 : Int32)) fun o0_2 =>
  b1 (FX7_isOpen x1 o0_2) fun r_3 =>
  if r_3 = 0 then
    some ((-101 : Int32), o0_2)
  else
    b1 (FX7_nodes o0_2) fun r_5 =>
    if r_5 = (60 : Int32) then
      some ((-104 : Int32), o0_2)
    else
      b1 (FX7_at ((900 : Int32) + x1) o0_2) fun r_7 =>
      b1 (FX7_set ((900 : Int32) + x1) (-1 : Int32) o0_2) fun o0_9 =>
      b2 (FX7_made (0 : Int32) o0_9) fun r_11 o0_12 =>
      b1 (FX7_wire ((3 : Int32) * r_11) r_7 o0_12) fun o0_14 =>
      some (r_11, o0_14)
set_option maxRecDepth 100000 in
set_option maxHeartbeats 4000000 in
theorem kX7_stop (g : Gl) (h0 : Nat → Nat) (x1 : Int32) (o0 : Ob) {r : Int32} {o0' : Ob} (hF : FX7_stop x1 o0 = some (r, o0')) : Ctr g yX7_stop (Cond.code yX7_stop cX7_stop 4 (some .int) :: wsL_law) 2 44 [(shX7, h0, o0)] [(shX7, h0, o0')] [.ref (h0 0), .int x1] (some (.int r)) := by
  refine Ctr.of (cc := cX7_stop) (maxL := 4) (ret := (some .int)) (by decide) rfl (Nat.le_of_ble_eq_true rfl) ?_
  intro X C Rk
  replace C : CxOk g X cX7_stop RX7 (Cond.code yX7_stop cX7_stop 4 (some .int) :: wsL_law) 4 2 44 := C
  show J g X [(shX7, h0, o0)] 0 [(0, .ref (h0 0)), (1, .int x1)] []
  unfold FX7_stop at hF
  refine j_aload_n C 0 dX7_stop_0 rfl rfl ?_
  refine j_iconst (v := (0 : Int32)) C dX7_stop_1 rfl ?_
  obtain ⟨o0_2, e_1, hF⟩ := glT hF
  refine j_putV C tyX7_ok nmX7 0 4 rfl rfl (Nat.le_of_ble_eq_true rfl) rfl in1_X7 (List.mem_cons_of_mem _ mw_5_19) rfl fd_X7_4 rfl rfl [(shX7, h0, o0_2)] (by rw [e_1]; rfl) dX7_stop_2 ?_
  refine j_aload_n C 0 dX7_stop_5 rfl rfl ?_
  refine j_iload_n C 1 dX7_stop_6 rfl rfl ?_
  obtain ⟨r_3, k_4, hF⟩ := gb1 hF
  refine j_callVi C (os' := [(shX7, h0, o0_2)]) [.int x1] (kX7_isOpen g h0 x1 o0_2 k_4) [0] rfl rfl rfl rfl 0 rfl rfl (wl_gV mw_29_17 mw_29_18 mw_29_19 mw_1_5 mw_29_20) rfl 1 rfl hd_X7_isOpen ⟨Nat.le_of_ble_eq_true rfl, Nat.le_of_ble_eq_true rfl⟩ (Nat.le_of_ble_eq_true rfl) rfl dX7_stop_7 ?_
  refine j_if_ne C 16 dX7_stop_10 rfl (fun c_17 => ?_) (fun c_17 => ?_)
  · have hF := (if_neg c_17).symm.trans hF
    refine j_aload_n C 0 dX7_stop_16 rfl rfl ?_
    obtain ⟨r_5, k_6, hF⟩ := gb1 hF
    refine j_callVi C (os' := [(shX7, h0, o0_2)]) [] (kX7_nodes g h0 o0_2 k_6) [0] rfl rfl rfl rfl 0 rfl rfl (wl_gV mw_31_5 mw_31_6 mw_31_7 mw_1_5 mw_31_8) rfl 0 rfl hd_X7_nodes ⟨Nat.le_of_ble_eq_true rfl, Nat.le_of_ble_eq_true rfl⟩ (Nat.le_of_ble_eq_true rfl) rfl dX7_stop_17 ?_
    refine j_bipush (v := (60 : Int32)) C dX7_stop_20 rfl ?_
    refine j_icmp_ne C 28 dX7_stop_22 rfl (fun c_16 => ?_) (fun c_16 => ?_)
    · have hF := (if_neg c_16).symm.trans hF
      refine j_aload_n C 0 dX7_stop_28 rfl rfl ?_
      refine j_sipush (v := (900 : Int32)) C dX7_stop_29 rfl ?_
      refine j_iload_n C 1 dX7_stop_32 rfl rfl ?_
      refine j_iadd C dX7_stop_33 ?_
      obtain ⟨r_7, k_8, hF⟩ := gb1 hF
      refine j_callVi C (os' := [(shX7, h0, o0_2)]) [.int ((900 : Int32) + x1)] (kX7_at g h0 ((900 : Int32) + x1) o0_2 k_8) [0] rfl rfl rfl rfl 0 rfl rfl (wl_gV mw_24_21 mw_24_22 mw_24_23 mw_1_5 mw_25_0) rfl 1 rfl hd_X7_at ⟨Nat.le_of_ble_eq_true rfl, Nat.le_of_ble_eq_true rfl⟩ (Nat.le_of_ble_eq_true rfl) rfl dX7_stop_34 ?_
      refine j_istore_n C [(2, .int r_7), (0, .ref (h0 0)), (1, .int x1)] dX7_stop_37 rfl (Nat.le_of_ble_eq_true rfl) rfl rfl ?_
      refine j_aload_n C 1 dX7_stop_38 rfl rfl ?_
      refine j_sipush (v := (900 : Int32)) C dX7_stop_39 rfl ?_
      refine j_iload_n C 2 dX7_stop_42 rfl rfl ?_
      refine j_iadd C dX7_stop_43 ?_
      refine j_iconst (v := (-1 : Int32)) C dX7_stop_44 rfl ?_
      obtain ⟨o0_9, k_10, hF⟩ := gb1 hF
      refine j_callVv C (os' := [(shX7, h0, o0_9)]) [.int ((900 : Int32) + x1), .int (-1 : Int32)] (kX7_set g h0 ((900 : Int32) + x1) (-1 : Int32) o0_2 k_10) [0] rfl rfl rfl rfl 0 rfl rfl (wl_gV mw_27_16 mw_27_17 mw_27_18 mw_1_5 mw_27_19) rfl 2 rfl hd_X7_set ⟨Nat.le_of_ble_eq_true rfl, Nat.le_of_ble_eq_true rfl⟩ (Nat.le_of_ble_eq_true rfl) rfl dX7_stop_45 ?_
      refine j_aload_n C 1 dX7_stop_48 rfl rfl ?_
      refine j_iconst (v := (0 : Int32)) C dX7_stop_49 rfl ?_
      obtain ⟨r_11, o0_12, k_13, hF⟩ := gb2 hF
      refine j_callVi C (os' := [(shX7, h0, o0_12)]) [.int (0 : Int32)] (kX7_made g h0 (0 : Int32) o0_9 k_13) [0] rfl rfl rfl rfl 0 rfl rfl (wl_gV mw_28_0 mw_28_1 mw_28_2 mw_1_5 mw_28_3) rfl 1 rfl hd_X7_made ⟨Nat.le_of_ble_eq_true rfl, Nat.le_of_ble_eq_true rfl⟩ (Nat.le_of_ble_eq_true rfl) rfl dX7_stop_50 ?_
      refine j_istore_n C [(3, .int r_11), (2, .int r_7), (0, .ref (h0 0)), (1, .int x1)] dX7_stop_53 rfl (Nat.le_of_ble_eq_true rfl) rfl rfl ?_
      refine j_aload_n C 2 dX7_stop_54 rfl rfl ?_
      refine j_iconst (v := (3 : Int32)) C dX7_stop_55 rfl ?_
      refine j_iload_n C 0 dX7_stop_56 rfl rfl ?_
      refine j_imul C dX7_stop_57 ?_
      refine j_iload_n C 1 dX7_stop_58 rfl rfl ?_
      obtain ⟨o0_14, k_15, hF⟩ := gb1 hF
      refine j_callVv C (os' := [(shX7, h0, o0_14)]) [.int ((3 : Int32) * r_11), .int r_7] (kX7_wire g h0 ((3 : Int32) * r_11) r_7 o0_12 k_15) [0] rfl rfl rfl rfl 0 rfl rfl (wl_gV mw_27_12 mw_27_13 mw_27_14 mw_1_5 mw_27_15) rfl 2 rfl hd_X7_wire ⟨Nat.le_of_ble_eq_true rfl, Nat.le_of_ble_eq_true rfl⟩ (Nat.le_of_ble_eq_true rfl) rfl dX7_stop_59 ?_
      refine j_iload_n C 0 dX7_stop_62 rfl rfl ?_
      cases hF
      exact j_iret C Rk dX7_stop_63
    · have hF := (if_pos c_16).symm.trans hF
      refine j_bipush (v := (-104 : Int32)) C dX7_stop_25 rfl ?_
      cases hF
      exact j_iret C Rk dX7_stop_27
  · have hF := (if_pos c_17).symm.trans hF
    refine j_bipush (v := (-101 : Int32)) C dX7_stop_13 rfl ?_
    cases hF
    exact j_iret C Rk dX7_stop_15
/-! HeadsMeetModel.change -/
def FX7_change (x1 : Int32) (x2 : Int32) (o0 : Ob) : Option (Int32 × Ob) :=
  lT (sV o0 4 (0 : Int32)) fun o0_2 =>
  b1 (FX7_isBracket x1 o0_2) fun r_3 =>
  if r_3 = 0 then
    some ((-101 : Int32), o0_2)
  else
    b1 (FX7_within x2 (1 : Int32) (3 : Int32)) fun r_5 =>
    if r_5 = 0 then
      some ((-102 : Int32), o0_2)
    else
      b1 (FX7_kindOf x1 o0_2) fun r_7 =>
      if inb x1 720 then
      lT (sA o0_2 0 x1.toNatClampNeg x2) fun o0_11 =>
      some (r_7, o0_11)
      else none
set_option maxRecDepth 100000 in
set_option maxHeartbeats 4000000 in
theorem kX7_change (g : Gl) (h0 : Nat → Nat) (x1 : Int32) (x2 : Int32) (o0 : Ob) {r : Int32} {o0' : Ob} (hF : FX7_change x1 x2 o0 = some (r, o0')) : Ctr g yX7_change (Cond.code yX7_change cX7_change 4 (some .int) :: wsL_law) 3 64 [(shX7, h0, o0)] [(shX7, h0, o0')] [.ref (h0 0), .int x1, .int x2] (some (.int r)) := by
  refine Ctr.of (cc := cX7_change) (maxL := 4) (ret := (some .int)) (by decide) rfl (Nat.le_of_ble_eq_true rfl) ?_
  intro X C Rk
  replace C : CxOk g X cX7_change RX7 (Cond.code yX7_change cX7_change 4 (some .int) :: wsL_law) 4 3 64 := C
  show J g X [(shX7, h0, o0)] 0 [(0, .ref (h0 0)), (1, .int x1), (2, .int x2)] []
  unfold FX7_change at hF
  refine j_aload_n C 0 dX7_change_0 rfl rfl ?_
  refine j_iconst (v := (0 : Int32)) C dX7_change_1 rfl ?_
  obtain ⟨o0_2, e_1, hF⟩ := glT hF
  refine j_putV C tyX7_ok nmX7 0 4 rfl rfl (Nat.le_of_ble_eq_true rfl) rfl in1_X7 (List.mem_cons_of_mem _ mw_5_19) rfl fd_X7_4 rfl rfl [(shX7, h0, o0_2)] (by rw [e_1]; rfl) dX7_change_2 ?_
  refine j_aload_n C 0 dX7_change_5 rfl rfl ?_
  refine j_iload_n C 1 dX7_change_6 rfl rfl ?_
  obtain ⟨r_3, k_4, hF⟩ := gb1 hF
  refine j_callVi C (os' := [(shX7, h0, o0_2)]) [.int x1] (kX7_isBracket g h0 x1 o0_2 k_4) [0] rfl rfl rfl rfl 0 rfl rfl (wl_gV mw_32_20 mw_32_21 mw_32_22 mw_1_5 mw_32_23) rfl 1 rfl hd_X7_isBracket ⟨Nat.le_of_ble_eq_true rfl, Nat.le_of_ble_eq_true rfl⟩ (Nat.le_of_ble_eq_true rfl) rfl dX7_change_7 ?_
  refine j_if_ne C 16 dX7_change_10 rfl (fun c_13 => ?_) (fun c_13 => ?_)
  · have hF := (if_neg c_13).symm.trans hF
    refine j_iload_n C 2 dX7_change_16 rfl rfl ?_
    refine j_iconst (v := (1 : Int32)) C dX7_change_17 rfl ?_
    refine j_iconst (v := (3 : Int32)) C dX7_change_18 rfl ?_
    obtain ⟨r_5, k_6, hF⟩ := gb1 hF
    refine j_callSi C (os' := [(shX7, h0, o0_2)]) [.int x2, .int (1 : Int32), .int (3 : Int32)] (kX7_within g x2 (1 : Int32) (3 : Int32) k_6) [] rfl rfl rfl rfl (wl_gS mw_6_18 mw_6_19 mw_1_5 mw_6_20) rfl 3 rfl hd_X7_within ⟨Nat.le_of_ble_eq_true rfl, Nat.le_of_ble_eq_true rfl⟩ (Nat.le_of_ble_eq_true rfl) rfl dX7_change_19 ?_
    refine j_if_ne C 28 dX7_change_22 rfl (fun c_12 => ?_) (fun c_12 => ?_)
    · have hF := (if_neg c_12).symm.trans hF
      refine j_aload_n C 0 dX7_change_28 rfl rfl ?_
      refine j_iload_n C 1 dX7_change_29 rfl rfl ?_
      obtain ⟨r_7, k_8, hF⟩ := gb1 hF
      refine j_callVi C (os' := [(shX7, h0, o0_2)]) [.int x1] (kX7_kindOf g h0 x1 o0_2 k_8) [0] rfl rfl rfl rfl 0 rfl rfl (wl_gV mw_24_9 mw_24_10 mw_24_11 mw_1_5 mw_24_12) rfl 1 rfl hd_X7_kindOf ⟨Nat.le_of_ble_eq_true rfl, Nat.le_of_ble_eq_true rfl⟩ (Nat.le_of_ble_eq_true rfl) rfl dX7_change_30 ?_
      refine j_istore_n C [(3, .int r_7), (0, .ref (h0 0)), (1, .int x1), (2, .int x2)] dX7_change_33 rfl (Nat.le_of_ble_eq_true rfl) rfl rfl ?_
      refine j_aload_n C 1 dX7_change_34 rfl rfl ?_
      refine j_get (v := .ref (h0 1)) C 0 0 rfl rfl (Nat.le_of_ble_eq_true rfl) rfl rfl in1_X7 (List.mem_cons_of_mem _ mw_4_10) dX7_change_35 ?_
      refine j_iload_n C 2 dX7_change_38 rfl rfl ?_
      refine j_iload_n C 3 dX7_change_39 rfl rfl ?_
      obtain ⟨z_9, hF⟩ := gi hF
      obtain ⟨o0_11, e_10, hF⟩ := glT hF
      refine j_iast C 0 0 rfl rfl z_9 [(shX7, h0, o0_11)] (by rw [e_10]; rfl) dX7_change_40 ?_
      refine j_iload_n C 0 dX7_change_41 rfl rfl ?_
      cases hF
      exact j_iret C Rk dX7_change_42
    · have hF := (if_pos c_12).symm.trans hF
      refine j_bipush (v := (-102 : Int32)) C dX7_change_25 rfl ?_
      cases hF
      exact j_iret C Rk dX7_change_27
  · have hF := (if_pos c_13).symm.trans hF
    refine j_bipush (v := (-101 : Int32)) C dX7_change_13 rfl ?_
    cases hF
    exact j_iret C Rk dX7_change_15
/-! HeadsMeetModel.flip -/
def FX7_flip (x1 : Int32) (o0 : Ob) : Option (Int32 × Ob) :=
  lT (sV o0 4 (0 : Int32)) fun o0_2 =>
  b1 (FX7_isBracket x1 o0_2) fun r_3 =>
  if r_3 = 0 then
    some ((-101 : Int32), o0_2)
  else
    b1 (FX7_at (((3 : Int32) * x1) + (1 : Int32)) o0_2) fun r_5 =>
    b1 (FX7_at (((3 : Int32) * x1) + (2 : Int32)) o0_2) fun r_7 =>
    if r_5 = (((3 : Int32) * x1) + (2 : Int32)) then
      b1 (FX7_at (((3 : Int32) * x1) + (1 : Int32)) o0_2) fun r_15 =>
      some (r_15, o0_2)
    else
      b1 (FX7_wire (((3 : Int32) * x1) + (1 : Int32)) r_7 o0_2) fun o0_9 =>
      b1 (FX7_wire (((3 : Int32) * x1) + (2 : Int32)) r_5 o0_9) fun o0_11 =>
      b1 (FX7_at (((3 : Int32) * x1) + (1 : Int32)) o0_11) fun r_13 =>
      some (r_13, o0_11)
set_option maxRecDepth 100000 in
set_option maxHeartbeats 4000000 in
theorem kX7_flip (g : Gl) (h0 : Nat → Nat) (x1 : Int32) (o0 : Ob) {r : Int32} {o0' : Ob} (hF : FX7_flip x1 o0 = some (r, o0')) : Ctr g yX7_flip (Cond.code yX7_flip cX7_flip 4 (some .int) :: wsL_law) 3 64 [(shX7, h0, o0)] [(shX7, h0, o0')] [.ref (h0 0), .int x1] (some (.int r)) := by
  refine Ctr.of (cc := cX7_flip) (maxL := 4) (ret := (some .int)) (by decide) rfl (Nat.le_of_ble_eq_true rfl) ?_
  intro X C Rk
  replace C : CxOk g X cX7_flip RX7 (Cond.code yX7_flip cX7_flip 4 (some .int) :: wsL_law) 4 3 64 := C
  show J g X [(shX7, h0, o0)] 0 [(0, .ref (h0 0)), (1, .int x1)] []
  unfold FX7_flip at hF
  refine j_aload_n C 0 dX7_flip_0 rfl rfl ?_
  refine j_iconst (v := (0 : Int32)) C dX7_flip_1 rfl ?_
  obtain ⟨o0_2, e_1, hF⟩ := glT hF
  refine j_putV C tyX7_ok nmX7 0 4 rfl rfl (Nat.le_of_ble_eq_true rfl) rfl in1_X7 (List.mem_cons_of_mem _ mw_5_19) rfl fd_X7_4 rfl rfl [(shX7, h0, o0_2)] (by rw [e_1]; rfl) dX7_flip_2 ?_
  refine j_aload_n C 0 dX7_flip_5 rfl rfl ?_
  refine j_iload_n C 1 dX7_flip_6 rfl rfl ?_
  obtain ⟨r_3, k_4, hF⟩ := gb1 hF
  refine j_callVi C (os' := [(shX7, h0, o0_2)]) [.int x1] (kX7_isBracket g h0 x1 o0_2 k_4) [0] rfl rfl rfl rfl 0 rfl rfl (wl_gV mw_32_20 mw_32_21 mw_32_22 mw_1_5 mw_32_23) rfl 1 rfl hd_X7_isBracket ⟨Nat.le_of_ble_eq_true rfl, Nat.le_of_ble_eq_true rfl⟩ (Nat.le_of_ble_eq_true rfl) rfl dX7_flip_7 ?_
  refine j_if_ne C 16 dX7_flip_10 rfl (fun c_18 => ?_) (fun c_18 => ?_)
  · have hF := (if_neg c_18).symm.trans hF
    refine j_aload_n C 0 dX7_flip_16 rfl rfl ?_
    refine j_iconst (v := (3 : Int32)) C dX7_flip_17 rfl ?_
    refine j_iload_n C 1 dX7_flip_18 rfl rfl ?_
    refine j_imul C dX7_flip_19 ?_
    refine j_iconst (v := (1 : Int32)) C dX7_flip_20 rfl ?_
    refine j_iadd C dX7_flip_21 ?_
    obtain ⟨r_5, k_6, hF⟩ := gb1 hF
    refine j_callVi C (os' := [(shX7, h0, o0_2)]) [.int (((3 : Int32) * x1) + (1 : Int32))] (kX7_at g h0 (((3 : Int32) * x1) + (1 : Int32)) o0_2 k_6) [0] rfl rfl rfl rfl 0 rfl rfl (wl_gV mw_24_21 mw_24_22 mw_24_23 mw_1_5 mw_25_0) rfl 1 rfl hd_X7_at ⟨Nat.le_of_ble_eq_true rfl, Nat.le_of_ble_eq_true rfl⟩ (Nat.le_of_ble_eq_true rfl) rfl dX7_flip_22 ?_
    refine j_istore_n C [(2, .int r_5), (0, .ref (h0 0)), (1, .int x1)] dX7_flip_25 rfl (Nat.le_of_ble_eq_true rfl) rfl rfl ?_
    refine j_aload_n C 1 dX7_flip_26 rfl rfl ?_
    refine j_iconst (v := (3 : Int32)) C dX7_flip_27 rfl ?_
    refine j_iload_n C 2 dX7_flip_28 rfl rfl ?_
    refine j_imul C dX7_flip_29 ?_
    refine j_iconst (v := (2 : Int32)) C dX7_flip_30 rfl ?_
    refine j_iadd C dX7_flip_31 ?_
    obtain ⟨r_7, k_8, hF⟩ := gb1 hF
    refine j_callVi C (os' := [(shX7, h0, o0_2)]) [.int (((3 : Int32) * x1) + (2 : Int32))] (kX7_at g h0 (((3 : Int32) * x1) + (2 : Int32)) o0_2 k_8) [0] rfl rfl rfl rfl 0 rfl rfl (wl_gV mw_24_21 mw_24_22 mw_24_23 mw_1_5 mw_25_0) rfl 1 rfl hd_X7_at ⟨Nat.le_of_ble_eq_true rfl, Nat.le_of_ble_eq_true rfl⟩ (Nat.le_of_ble_eq_true rfl) rfl dX7_flip_32 ?_
    refine j_istore_n C [(3, .int r_7), (2, .int r_5), (0, .ref (h0 0)), (1, .int x1)] dX7_flip_35 rfl (Nat.le_of_ble_eq_true rfl) rfl rfl ?_
    refine j_iload_n C 1 dX7_flip_36 rfl rfl ?_
    refine j_iconst (v := (3 : Int32)) C dX7_flip_37 rfl ?_
    refine j_iload_n C 3 dX7_flip_38 rfl rfl ?_
    refine j_imul C dX7_flip_39 ?_
    refine j_iconst (v := (2 : Int32)) C dX7_flip_40 rfl ?_
    refine j_iadd C dX7_flip_41 ?_
    refine j_icmp_eq C 65 dX7_flip_42 rfl (fun c_17 => ?_) (fun c_17 => ?_)
    · have hF := (if_pos c_17).symm.trans hF
      refine j_aload_n C 2 dX7_flip_65 rfl rfl ?_
      refine j_iconst (v := (3 : Int32)) C dX7_flip_66 rfl ?_
      refine j_iload_n C 3 dX7_flip_67 rfl rfl ?_
      refine j_imul C dX7_flip_68 ?_
      refine j_iconst (v := (1 : Int32)) C dX7_flip_69 rfl ?_
      refine j_iadd C dX7_flip_70 ?_
      obtain ⟨r_15, k_16, hF⟩ := gb1 hF
      refine j_callVi C (os' := [(shX7, h0, o0_2)]) [.int (((3 : Int32) * x1) + (1 : Int32))] (kX7_at g h0 (((3 : Int32) * x1) + (1 : Int32)) o0_2 k_16) [0] rfl rfl rfl rfl 0 rfl rfl (wl_gV mw_24_21 mw_24_22 mw_24_23 mw_1_5 mw_25_0) rfl 1 rfl hd_X7_at ⟨Nat.le_of_ble_eq_true rfl, Nat.le_of_ble_eq_true rfl⟩ (Nat.le_of_ble_eq_true rfl) rfl dX7_flip_71 ?_
      cases hF
      exact j_iret C Rk dX7_flip_74
    · have hF := (if_neg c_17).symm.trans hF
      refine j_aload_n C 2 dX7_flip_45 rfl rfl ?_
      refine j_iconst (v := (3 : Int32)) C dX7_flip_46 rfl ?_
      refine j_iload_n C 3 dX7_flip_47 rfl rfl ?_
      refine j_imul C dX7_flip_48 ?_
      refine j_iconst (v := (1 : Int32)) C dX7_flip_49 rfl ?_
      refine j_iadd C dX7_flip_50 ?_
      refine j_iload_n C 0 dX7_flip_51 rfl rfl ?_
      obtain ⟨o0_9, k_10, hF⟩ := gb1 hF
      refine j_callVv C (os' := [(shX7, h0, o0_9)]) [.int (((3 : Int32) * x1) + (1 : Int32)), .int r_7] (kX7_wire g h0 (((3 : Int32) * x1) + (1 : Int32)) r_7 o0_2 k_10) [0] rfl rfl rfl rfl 0 rfl rfl (wl_gV mw_27_12 mw_27_13 mw_27_14 mw_1_5 mw_27_15) rfl 2 rfl hd_X7_wire ⟨Nat.le_of_ble_eq_true rfl, Nat.le_of_ble_eq_true rfl⟩ (Nat.le_of_ble_eq_true rfl) rfl dX7_flip_52 ?_
      refine j_aload_n C 2 dX7_flip_55 rfl rfl ?_
      refine j_iconst (v := (3 : Int32)) C dX7_flip_56 rfl ?_
      refine j_iload_n C 3 dX7_flip_57 rfl rfl ?_
      refine j_imul C dX7_flip_58 ?_
      refine j_iconst (v := (2 : Int32)) C dX7_flip_59 rfl ?_
      refine j_iadd C dX7_flip_60 ?_
      refine j_iload_n C 1 dX7_flip_61 rfl rfl ?_
      obtain ⟨o0_11, k_12, hF⟩ := gb1 hF
      refine j_callVv C (os' := [(shX7, h0, o0_11)]) [.int (((3 : Int32) * x1) + (2 : Int32)), .int r_5] (kX7_wire g h0 (((3 : Int32) * x1) + (2 : Int32)) r_5 o0_9 k_12) [0] rfl rfl rfl rfl 0 rfl rfl (wl_gV mw_27_12 mw_27_13 mw_27_14 mw_1_5 mw_27_15) rfl 2 rfl hd_X7_wire ⟨Nat.le_of_ble_eq_true rfl, Nat.le_of_ble_eq_true rfl⟩ (Nat.le_of_ble_eq_true rfl) rfl dX7_flip_62 ?_
      refine j_aload_n C 2 dX7_flip_65 rfl rfl ?_
      refine j_iconst (v := (3 : Int32)) C dX7_flip_66 rfl ?_
      refine j_iload_n C 3 dX7_flip_67 rfl rfl ?_
      refine j_imul C dX7_flip_68 ?_
      refine j_iconst (v := (1 : Int32)) C dX7_flip_69 rfl ?_
      refine j_iadd C dX7_flip_70 ?_
      obtain ⟨r_13, k_14, hF⟩ := gb1 hF
      refine j_callVi C (os' := [(shX7, h0, o0_11)]) [.int (((3 : Int32) * x1) + (1 : Int32))] (kX7_at g h0 (((3 : Int32) * x1) + (1 : Int32)) o0_11 k_14) [0] rfl rfl rfl rfl 0 rfl rfl (wl_gV mw_24_21 mw_24_22 mw_24_23 mw_1_5 mw_25_0) rfl 1 rfl hd_X7_at ⟨Nat.le_of_ble_eq_true rfl, Nat.le_of_ble_eq_true rfl⟩ (Nat.le_of_ble_eq_true rfl) rfl dX7_flip_71 ?_
      cases hF
      exact j_iret C Rk dX7_flip_74
  · have hF := (if_pos c_18).symm.trans hF
    refine j_bipush (v := (-101 : Int32)) C dX7_flip_13 rfl ?_
    cases hF
    exact j_iret C Rk dX7_flip_15
/-! HeadsMeetModel.layRounds -/
def LX7_layRounds_27 (x1 : Int32) (E49 : Ob → Option (Ob)) : Nat → Int32 → Ob → Option (Ob)
  | 0, _, _ => none
  | n + 1, x2, o0 =>
    if x1 ≤ x2 then
      E49 o0
    else
      b1 (FX7_meetingAt x2 o0) fun r_9 =>
      if inb x2 90 then
      lT (sA o0 32 x2.toNatClampNeg r_9) fun o0_13 =>
      lT (x2 + (1 : Int32)) fun x2_14 =>
      LX7_layRounds_27 x1 E49 n x2_14 o0_13
      else none
def LX7_layRounds_51 (x1 : Int32) (E73 : Ob → Option (Ob)) : Nat → Int32 → Ob → Option (Ob)
  | 0, _, _ => none
  | n + 1, x2, o0 =>
    if x1 ≤ x2 then
      E73 o0
    else
      if inb x2 90 then
      b2 (FX7_meetNow (oA o0 32 x2.toNatClampNeg) o0) fun r_19 o0_20 =>
      lT (x2 + (1 : Int32)) fun x2_22 =>
      LX7_layRounds_51 x1 E73 n x2_22 o0_20
      else none
def LX7_layRounds_21 (E91 : Ob → Option (Ob)) : Nat → Int32 → Ob → Option (Ob)
  | 0, _, _ => none
  | n + 1, x1, o0 =>
    if x1 ≤ 0 then
      E91 o0
    else
      LX7_layRounds_27 x1 (fun o0_17 =>
       LX7_layRounds_51 x1 (fun o0_25 =>
        lT (sV o0_25 31 ((oV o0_25 31) + (1 : Int32))) fun o0_27 =>
        b1 (FX7_meetingsNow o0_27) fun r_28 =>
        LX7_layRounds_21 E91 n r_28 o0_27) fu (0 : Int32) o0_17) fu (0 : Int32) o0
def FX7_layRounds  (o0 : Ob) : Option (Ob) :=
  b1 (FX7_copy (3 : Int32) (0 : Int32) o0) fun o0_1 =>
  lT (sV o0_1 4 (3 : Int32)) fun o0_4 =>
  lT (sV o0_4 31 (0 : Int32)) fun o0_6 =>
  b1 (FX7_meetingsNow o0_6) fun r_7 =>
  LX7_layRounds_21 (fun o0_31 =>
   lT (sV o0_31 4 (0 : Int32)) fun o0_33 =>
   some o0_33) fu r_7 o0_6
set_option maxRecDepth 100000 in
set_option maxHeartbeats 4000000 in
theorem lX7_layRounds_27 {g : Gl} {X : Cxt} (C : CxOk g X cX7_layRounds RX7 (Cond.code yX7_layRounds cX7_layRounds 3 none :: wsL_law) 3 4 94) {o0' : Ob} (h0 : Nat → Nat) (x1 : Int32) (E49 : Ob → Option (Ob)) (Rk : RetOk g X [(shX7, h0, o0')] none none) (hE49 : ∀ (o0 : Ob), E49 o0 = some o0' → J g X [(shX7, h0, o0)] 49 [(0, .ref (h0 0)), (1, .int x1)] []) : ∀ (n : Nat) (x2 : Int32) (o0 : Ob), LX7_layRounds_27 x1 E49 n x2 o0 = some o0' → J g X [(shX7, h0, o0)] 27 [(0, .ref (h0 0)), (1, .int x1), (2, .int x2)] [] := by
  intro n
  induction n with
  | zero =>
    intro x2 o0 hF
    cases hF
  | succ n ih =>
    intro x2 o0 hF
    rw [LX7_layRounds_27.eq_2] at hF
    refine j_iload_n C 2 dX7_layRounds_27 rfl rfl ?_
    refine j_iload_n C 1 dX7_layRounds_28 rfl rfl ?_
    refine j_icmp_ge C 49 dX7_layRounds_29 rfl (fun c_16 => ?_) (fun c_16 => ?_)
    · have hF := (if_pos c_16).symm.trans hF
      refine j_sub [(0, .ref (h0 0)), (1, .int x1)] [0, 1] rfl ?_
      exact hE49 _ hF
    · have hF := (if_neg c_16).symm.trans hF
      refine j_aload_n C 0 dX7_layRounds_32 rfl rfl ?_
      refine j_get (v := .ref (h0 33)) C 0 32 rfl rfl (Nat.le_of_ble_eq_true rfl) rfl rfl in1_X7 (List.mem_cons_of_mem _ mw_5_9) dX7_layRounds_33 ?_
      refine j_iload_n C 2 dX7_layRounds_36 rfl rfl ?_
      refine j_aload_n C 0 dX7_layRounds_37 rfl rfl ?_
      refine j_iload_n C 2 dX7_layRounds_38 rfl rfl ?_
      obtain ⟨r_9, k_10, hF⟩ := gb1 hF
      refine j_callVi C (os' := [(shX7, h0, o0)]) [.int x2] (kX7_meetingAt g h0 x2 o0 k_10) [0] rfl rfl rfl rfl 0 rfl rfl (wl_gV mw_26_5 mw_26_6 mw_26_7 mw_1_5 mw_26_8) rfl 1 rfl hd_X7_meetingAt ⟨Nat.le_of_ble_eq_true rfl, Nat.le_of_ble_eq_true rfl⟩ (Nat.le_of_ble_eq_true rfl) rfl dX7_layRounds_39 ?_
      obtain ⟨z_11, hF⟩ := gi hF
      obtain ⟨o0_13, e_12, hF⟩ := glT hF
      refine j_iast C 0 32 rfl rfl z_11 [(shX7, h0, o0_13)] (by rw [e_12]; rfl) dX7_layRounds_42 ?_
      obtain ⟨x2_14, e_15, hF⟩ := glT hF
      refine j_iinc C 2 [(2, .int x2_14), (0, .ref (h0 0)), (1, .int x1)] dX7_layRounds_43 rfl e_15.symm (Nat.le_of_ble_eq_true rfl) rfl ?_
      refine j_goto C 27 dX7_layRounds_46 rfl ?_
      refine j_sub [(0, .ref (h0 0)), (1, .int x1), (2, .int x2_14)] [1, 2, 0] rfl ?_
      exact ih _ _ hF
set_option maxRecDepth 100000 in
set_option maxHeartbeats 4000000 in
theorem lX7_layRounds_51 {g : Gl} {X : Cxt} (C : CxOk g X cX7_layRounds RX7 (Cond.code yX7_layRounds cX7_layRounds 3 none :: wsL_law) 3 4 94) {o0' : Ob} (h0 : Nat → Nat) (x1 : Int32) (E73 : Ob → Option (Ob)) (Rk : RetOk g X [(shX7, h0, o0')] none none) (hE73 : ∀ (o0 : Ob), E73 o0 = some o0' → J g X [(shX7, h0, o0)] 73 [(0, .ref (h0 0))] []) : ∀ (n : Nat) (x2 : Int32) (o0 : Ob), LX7_layRounds_51 x1 E73 n x2 o0 = some o0' → J g X [(shX7, h0, o0)] 51 [(0, .ref (h0 0)), (1, .int x1), (2, .int x2)] [] := by
  intro n
  induction n with
  | zero =>
    intro x2 o0 hF
    cases hF
  | succ n ih =>
    intro x2 o0 hF
    rw [LX7_layRounds_51.eq_2] at hF
    refine j_iload_n C 2 dX7_layRounds_51 rfl rfl ?_
    refine j_iload_n C 1 dX7_layRounds_52 rfl rfl ?_
    refine j_icmp_ge C 73 dX7_layRounds_53 rfl (fun c_24 => ?_) (fun c_24 => ?_)
    · have hF := (if_pos c_24).symm.trans hF
      refine j_sub [(0, .ref (h0 0))] [0] rfl ?_
      exact hE73 _ hF
    · have hF := (if_neg c_24).symm.trans hF
      refine j_aload_n C 0 dX7_layRounds_56 rfl rfl ?_
      refine j_aload_n C 0 dX7_layRounds_57 rfl rfl ?_
      refine j_get (v := .ref (h0 33)) C 0 32 rfl rfl (Nat.le_of_ble_eq_true rfl) rfl rfl in1_X7 (List.mem_cons_of_mem _ mw_5_9) dX7_layRounds_58 ?_
      refine j_iload_n C 2 dX7_layRounds_61 rfl rfl ?_
      obtain ⟨z_18, hF⟩ := gi hF
      refine j_iald C 0 32 rfl rfl z_18 dX7_layRounds_62 ?_
      obtain ⟨r_19, o0_20, k_21, hF⟩ := gb2 hF
      refine j_callVi C (os' := [(shX7, h0, o0_20)]) [.int (oA o0 32 x2.toNatClampNeg)] (kX7_meetNow g h0 (oA o0 32 x2.toNatClampNeg) o0 k_21) [0] rfl rfl rfl rfl 0 rfl rfl (wl_gV mw_26_9 mw_26_10 mw_26_11 mw_1_5 mw_26_12) rfl 1 rfl hd_X7_meetNow ⟨Nat.le_of_ble_eq_true rfl, Nat.le_of_ble_eq_true rfl⟩ (Nat.le_of_ble_eq_true rfl) rfl dX7_layRounds_63 ?_
      refine j_pop C rfl dX7_layRounds_66 ?_
      obtain ⟨x2_22, e_23, hF⟩ := glT hF
      refine j_iinc C 2 [(2, .int x2_22), (0, .ref (h0 0)), (1, .int x1)] dX7_layRounds_67 rfl e_23.symm (Nat.le_of_ble_eq_true rfl) rfl ?_
      refine j_goto C 51 dX7_layRounds_70 rfl ?_
      refine j_sub [(0, .ref (h0 0)), (1, .int x1), (2, .int x2_22)] [1, 2, 0] rfl ?_
      exact ih _ _ hF
set_option maxRecDepth 100000 in
set_option maxHeartbeats 4000000 in
theorem lX7_layRounds_21 {g : Gl} {X : Cxt} (C : CxOk g X cX7_layRounds RX7 (Cond.code yX7_layRounds cX7_layRounds 3 none :: wsL_law) 3 4 94) {o0' : Ob} (h0 : Nat → Nat)  (E91 : Ob → Option (Ob)) (Rk : RetOk g X [(shX7, h0, o0')] none none) (hE91 : ∀ (o0 : Ob), E91 o0 = some o0' → J g X [(shX7, h0, o0)] 91 [(0, .ref (h0 0))] []) : ∀ (n : Nat) (x1 : Int32) (o0 : Ob), LX7_layRounds_21 E91 n x1 o0 = some o0' → J g X [(shX7, h0, o0)] 21 [(0, .ref (h0 0)), (1, .int x1)] [] := by
  intro n
  induction n with
  | zero =>
    intro x1 o0 hF
    cases hF
  | succ n ih =>
    intro x1 o0 hF
    rw [LX7_layRounds_21.eq_2] at hF
    refine j_iload_n C 1 dX7_layRounds_21 rfl rfl ?_
    refine j_if_le C 91 dX7_layRounds_22 rfl (fun c_30 => ?_) (fun c_30 => ?_)
    · have hF := (if_pos c_30).symm.trans hF
      refine j_sub [(0, .ref (h0 0))] [0] rfl ?_
      exact hE91 _ hF
    · have hF := (if_neg c_30).symm.trans hF
      refine j_iconst (v := (0 : Int32)) C dX7_layRounds_25 rfl ?_
      refine j_istore_n C [(2, .int (0 : Int32)), (0, .ref (h0 0)), (1, .int x1)] dX7_layRounds_26 rfl (Nat.le_of_ble_eq_true rfl) rfl rfl ?_
      refine j_sub [(0, .ref (h0 0)), (1, .int x1), (2, .int (0 : Int32))] [1, 2, 0] rfl ?_
      refine lX7_layRounds_27 C h0 x1 _ Rk (fun o0_17 hF => ?_) _ _ _ hF
      refine j_iconst (v := (0 : Int32)) C dX7_layRounds_49 rfl ?_
      refine j_istore_n C [(2, .int (0 : Int32)), (0, .ref (h0 0)), (1, .int x1)] dX7_layRounds_50 rfl (Nat.le_of_ble_eq_true rfl) rfl rfl ?_
      refine j_sub [(0, .ref (h0 0)), (1, .int x1), (2, .int (0 : Int32))] [1, 2, 0] rfl ?_
      refine lX7_layRounds_51 C h0 x1 _ Rk (fun o0_25 hF => ?_) _ _ _ hF
      refine j_aload_n C 0 dX7_layRounds_73 rfl rfl ?_
      refine j_dup C rfl dX7_layRounds_74 ?_
      refine j_get (v := .int (oV o0_25 31)) C 0 31 rfl rfl (Nat.le_of_ble_eq_true rfl) rfl rfl in1_X7 (List.mem_cons_of_mem _ mw_34_4) dX7_layRounds_75 ?_
      refine j_iconst (v := (1 : Int32)) C dX7_layRounds_78 rfl ?_
      refine j_iadd C dX7_layRounds_79 ?_
      obtain ⟨o0_27, e_26, hF⟩ := glT hF
      refine j_putV C tyX7_ok nmX7 0 31 rfl rfl (Nat.le_of_ble_eq_true rfl) rfl in1_X7 (List.mem_cons_of_mem _ mw_34_4) rfl fd_X7_31 rfl rfl [(shX7, h0, o0_27)] (by rw [e_26]; rfl) dX7_layRounds_80 ?_
      refine j_aload_n C 0 dX7_layRounds_83 rfl rfl ?_
      obtain ⟨r_28, k_29, hF⟩ := gb1 hF
      refine j_callVi C (os' := [(shX7, h0, o0_27)]) [] (kX7_meetingsNow g h0 o0_27 k_29) [0] rfl rfl rfl rfl 0 rfl rfl (wl_gV mw_25_21 mw_25_22 mw_25_23 mw_1_5 mw_26_0) rfl 0 rfl hd_X7_meetingsNow ⟨Nat.le_of_ble_eq_true rfl, Nat.le_of_ble_eq_true rfl⟩ (Nat.le_of_ble_eq_true rfl) rfl dX7_layRounds_84 ?_
      refine j_istore_n C [(1, .int r_28), (0, .ref (h0 0))] dX7_layRounds_87 rfl (Nat.le_of_ble_eq_true rfl) rfl rfl ?_
      refine j_goto C 21 dX7_layRounds_88 rfl ?_
      refine j_sub [(0, .ref (h0 0)), (1, .int r_28)] [1, 0] rfl ?_
      exact ih _ _ hF
set_option maxRecDepth 100000 in
set_option maxHeartbeats 4000000 in
theorem kX7_layRounds (g : Gl) (h0 : Nat → Nat)  (o0 : Ob) {o0' : Ob} (hF : FX7_layRounds o0 = some o0') : Ctr g yX7_layRounds (Cond.code yX7_layRounds cX7_layRounds 3 none :: wsL_law) 4 94 [(shX7, h0, o0)] [(shX7, h0, o0')] [.ref (h0 0)] none := by
  refine Ctr.of (cc := cX7_layRounds) (maxL := 3) (ret := none) (by decide) rfl (Nat.le_of_ble_eq_true rfl) ?_
  intro X C Rk
  replace C : CxOk g X cX7_layRounds RX7 (Cond.code yX7_layRounds cX7_layRounds 3 none :: wsL_law) 3 4 94 := C
  show J g X [(shX7, h0, o0)] 0 [(0, .ref (h0 0))] []
  unfold FX7_layRounds at hF
  refine j_aload_n C 0 dX7_layRounds_0 rfl rfl ?_
  refine j_iconst (v := (3 : Int32)) C dX7_layRounds_1 rfl ?_
  refine j_iconst (v := (0 : Int32)) C dX7_layRounds_2 rfl ?_
  obtain ⟨o0_1, k_2, hF⟩ := gb1 hF
  refine j_callVv C (os' := [(shX7, h0, o0_1)]) [.int (3 : Int32), .int (0 : Int32)] (kX7_copy g h0 (3 : Int32) (0 : Int32) o0 k_2) [0] rfl rfl rfl rfl 0 rfl rfl (wl_gV mw_25_17 mw_25_18 mw_25_19 mw_1_5 mw_25_20) rfl 2 rfl hd_X7_copy ⟨Nat.le_of_ble_eq_true rfl, Nat.le_of_ble_eq_true rfl⟩ (Nat.le_of_ble_eq_true rfl) rfl dX7_layRounds_3 ?_
  refine j_aload_n C 0 dX7_layRounds_6 rfl rfl ?_
  refine j_iconst (v := (3 : Int32)) C dX7_layRounds_7 rfl ?_
  obtain ⟨o0_4, e_3, hF⟩ := glT hF
  refine j_putV C tyX7_ok nmX7 0 4 rfl rfl (Nat.le_of_ble_eq_true rfl) rfl in1_X7 (List.mem_cons_of_mem _ mw_5_19) rfl fd_X7_4 rfl rfl [(shX7, h0, o0_4)] (by rw [e_3]; rfl) dX7_layRounds_8 ?_
  refine j_aload_n C 0 dX7_layRounds_11 rfl rfl ?_
  refine j_iconst (v := (0 : Int32)) C dX7_layRounds_12 rfl ?_
  obtain ⟨o0_6, e_5, hF⟩ := glT hF
  refine j_putV C tyX7_ok nmX7 0 31 rfl rfl (Nat.le_of_ble_eq_true rfl) rfl in1_X7 (List.mem_cons_of_mem _ mw_34_4) rfl fd_X7_31 rfl rfl [(shX7, h0, o0_6)] (by rw [e_5]; rfl) dX7_layRounds_13 ?_
  refine j_aload_n C 0 dX7_layRounds_16 rfl rfl ?_
  obtain ⟨r_7, k_8, hF⟩ := gb1 hF
  refine j_callVi C (os' := [(shX7, h0, o0_6)]) [] (kX7_meetingsNow g h0 o0_6 k_8) [0] rfl rfl rfl rfl 0 rfl rfl (wl_gV mw_25_21 mw_25_22 mw_25_23 mw_1_5 mw_26_0) rfl 0 rfl hd_X7_meetingsNow ⟨Nat.le_of_ble_eq_true rfl, Nat.le_of_ble_eq_true rfl⟩ (Nat.le_of_ble_eq_true rfl) rfl dX7_layRounds_17 ?_
  refine j_istore_n C [(1, .int r_7), (0, .ref (h0 0))] dX7_layRounds_20 rfl (Nat.le_of_ble_eq_true rfl) rfl rfl ?_
  refine j_sub [(0, .ref (h0 0)), (1, .int r_7)] [1, 0] rfl ?_
  refine lX7_layRounds_21 C h0  _ Rk (fun o0_31 hF => ?_) _ _ _ hF
  refine j_aload_n C 0 dX7_layRounds_91 rfl rfl ?_
  refine j_iconst (v := (0 : Int32)) C dX7_layRounds_92 rfl ?_
  obtain ⟨o0_33, e_32, hF⟩ := glT hF
  refine j_putV C tyX7_ok nmX7 0 4 rfl rfl (Nat.le_of_ble_eq_true rfl) rfl in1_X7 (List.mem_cons_of_mem _ mw_5_19) rfl fd_X7_4 rfl rfl [(shX7, h0, o0_33)] (by rw [e_32]; rfl) dX7_layRounds_93 ?_
  cases hF
  exact j_vret C Rk dX7_layRounds_96
/-! HeadsMeetModel.endingNow -/
def FX7_endingNow (x1 : Int32) (o0 : Ob) : Option (Int32 × Ob) :=
  b2 (FX7_layEnding (0 : Int32) o0) fun r_1 o0_2 =>
  if r_1 = 0 then
    some ((-1 : Int32), o0_2)
  else
    if (4 : Int32) ≤ x1 then
      if x1 = (4 : Int32) then
        b1 (FX7_layRounds o0_2) fun o0_5 =>
        some (oV o0_5 31, o0_5)
      else
        lT (sV o0_2 4 (2 : Int32)) fun o0_8 =>
        b1 (FX7_nodes o0_8) fun r_9 =>
        lT (sV o0_8 4 (0 : Int32)) fun o0_12 =>
        if x1 = (5 : Int32) then
          some (r_9, o0_12)
        else
          some (oA o0_12 3 (2 : Int32).toNatClampNeg, o0_12)
    else
      if inb x1 4 then
      some (oA o0_2 30 x1.toNatClampNeg, o0_2)
      else none
set_option maxRecDepth 100000 in
set_option maxHeartbeats 4000000 in
theorem kX7_endingNow (g : Gl) (h0 : Nat → Nat) (x1 : Int32) (o0 : Ob) {r : Int32} {o0' : Ob} (hF : FX7_endingNow x1 o0 = some (r, o0')) : Ctr g yX7_endingNow (Cond.code yX7_endingNow cX7_endingNow 3 (some .int) :: wsL_law) 5 116 [(shX7, h0, o0)] [(shX7, h0, o0')] [.ref (h0 0), .int x1] (some (.int r)) := by
  refine Ctr.of (cc := cX7_endingNow) (maxL := 3) (ret := (some .int)) (by decide) rfl (Nat.le_of_ble_eq_true rfl) ?_
  intro X C Rk
  replace C : CxOk g X cX7_endingNow RX7 (Cond.code yX7_endingNow cX7_endingNow 3 (some .int) :: wsL_law) 3 5 116 := C
  show J g X [(shX7, h0, o0)] 0 [(0, .ref (h0 0)), (1, .int x1)] []
  unfold FX7_endingNow at hF
  refine j_aload_n C 0 dX7_endingNow_0 rfl rfl ?_
  refine j_iconst (v := (0 : Int32)) C dX7_endingNow_1 rfl ?_
  obtain ⟨r_1, o0_2, k_3, hF⟩ := gb2 hF
  refine j_callVi C (os' := [(shX7, h0, o0_2)]) [.int (0 : Int32)] (kX7_layEnding g h0 (0 : Int32) o0 k_3) [0] rfl rfl rfl rfl 0 rfl rfl (wl_gV mw_25_13 mw_25_14 mw_25_15 mw_1_5 mw_25_16) rfl 1 rfl hd_X7_layEnding ⟨Nat.le_of_ble_eq_true rfl, Nat.le_of_ble_eq_true rfl⟩ (Nat.le_of_ble_eq_true rfl) rfl dX7_endingNow_2 ?_
  refine j_if_ne C 10 dX7_endingNow_5 rfl (fun c_16 => ?_) (fun c_16 => ?_)
  · have hF := (if_neg c_16).symm.trans hF
    refine j_iload_n C 1 dX7_endingNow_10 rfl rfl ?_
    refine j_iconst (v := (4 : Int32)) C dX7_endingNow_11 rfl ?_
    refine j_icmp_ge C 22 dX7_endingNow_12 rfl (fun c_15 => ?_) (fun c_15 => ?_)
    · have hF := (if_pos c_15).symm.trans hF
      refine j_iload_n C 1 dX7_endingNow_22 rfl rfl ?_
      refine j_iconst (v := (4 : Int32)) C dX7_endingNow_23 rfl ?_
      refine j_icmp_ne C 36 dX7_endingNow_24 rfl (fun c_14 => ?_) (fun c_14 => ?_)
      · have hF := (if_neg c_14).symm.trans hF
        refine j_aload_n C 0 dX7_endingNow_36 rfl rfl ?_
        refine j_iconst (v := (2 : Int32)) C dX7_endingNow_37 rfl ?_
        obtain ⟨o0_8, e_7, hF⟩ := glT hF
        refine j_putV C tyX7_ok nmX7 0 4 rfl rfl (Nat.le_of_ble_eq_true rfl) rfl in1_X7 (List.mem_cons_of_mem _ mw_5_19) rfl fd_X7_4 rfl rfl [(shX7, h0, o0_8)] (by rw [e_7]; rfl) dX7_endingNow_38 ?_
        refine j_aload_n C 0 dX7_endingNow_41 rfl rfl ?_
        obtain ⟨r_9, k_10, hF⟩ := gb1 hF
        refine j_callVi C (os' := [(shX7, h0, o0_8)]) [] (kX7_nodes g h0 o0_8 k_10) [0] rfl rfl rfl rfl 0 rfl rfl (wl_gV mw_31_5 mw_31_6 mw_31_7 mw_1_5 mw_31_8) rfl 0 rfl hd_X7_nodes ⟨Nat.le_of_ble_eq_true rfl, Nat.le_of_ble_eq_true rfl⟩ (Nat.le_of_ble_eq_true rfl) rfl dX7_endingNow_42 ?_
        refine j_istore_n C [(2, .int r_9), (0, .ref (h0 0)), (1, .int x1)] dX7_endingNow_45 rfl (Nat.le_of_ble_eq_true rfl) rfl rfl ?_
        refine j_aload_n C 1 dX7_endingNow_46 rfl rfl ?_
        refine j_iconst (v := (0 : Int32)) C dX7_endingNow_47 rfl ?_
        obtain ⟨o0_12, e_11, hF⟩ := glT hF
        refine j_putV C tyX7_ok nmX7 0 4 rfl rfl (Nat.le_of_ble_eq_true rfl) rfl in1_X7 (List.mem_cons_of_mem _ mw_5_19) rfl fd_X7_4 rfl rfl [(shX7, h0, o0_12)] (by rw [e_11]; rfl) dX7_endingNow_48 ?_
        refine j_iload_n C 2 dX7_endingNow_51 rfl rfl ?_
        refine j_iconst (v := (5 : Int32)) C dX7_endingNow_52 rfl ?_
        refine j_icmp_ne C 60 dX7_endingNow_53 rfl (fun c_13 => ?_) (fun c_13 => ?_)
        · have hF := (if_neg c_13).symm.trans hF
          refine j_aload_n C 1 dX7_endingNow_60 rfl rfl ?_
          refine j_get (v := .ref (h0 4)) C 0 3 rfl rfl (Nat.le_of_ble_eq_true rfl) rfl rfl in1_X7 (List.mem_cons_of_mem _ mw_4_13) dX7_endingNow_61 ?_
          refine j_iconst (v := (2 : Int32)) C dX7_endingNow_64 rfl ?_
          refine j_iald C 0 3 rfl rfl (by decide) dX7_endingNow_65 ?_
          cases hF
          exact j_iret C Rk dX7_endingNow_66
        · have hF := (if_pos c_13).symm.trans hF
          refine j_iload_n C 0 dX7_endingNow_56 rfl rfl ?_
          refine j_goto C 66 dX7_endingNow_57 rfl ?_
          cases hF
          exact j_iret C Rk dX7_endingNow_66
      · have hF := (if_pos c_14).symm.trans hF
        refine j_aload_n C 0 dX7_endingNow_27 rfl rfl ?_
        obtain ⟨o0_5, k_6, hF⟩ := gb1 hF
        refine j_callVv C (os' := [(shX7, h0, o0_5)]) [] (kX7_layRounds g h0 o0_2 k_6) [0] rfl rfl rfl rfl 0 rfl rfl (wl_gV mw_34_5 mw_34_6 mw_34_7 mw_1_5 mw_34_8) rfl 0 rfl hd_X7_layRounds ⟨Nat.le_of_ble_eq_true rfl, Nat.le_of_ble_eq_true rfl⟩ (Nat.le_of_ble_eq_true rfl) rfl dX7_endingNow_28 ?_
        refine j_aload_n C 0 dX7_endingNow_31 rfl rfl ?_
        refine j_get (v := .int (oV o0_5 31)) C 0 31 rfl rfl (Nat.le_of_ble_eq_true rfl) rfl rfl in1_X7 (List.mem_cons_of_mem _ mw_34_4) dX7_endingNow_32 ?_
        cases hF
        exact j_iret C Rk dX7_endingNow_35
    · have hF := (if_neg c_15).symm.trans hF
      refine j_aload_n C 0 dX7_endingNow_15 rfl rfl ?_
      refine j_get (v := .ref (h0 31)) C 0 30 rfl rfl (Nat.le_of_ble_eq_true rfl) rfl rfl in1_X7 (List.mem_cons_of_mem _ mw_5_8) dX7_endingNow_16 ?_
      refine j_iload_n C 1 dX7_endingNow_19 rfl rfl ?_
      obtain ⟨z_4, hF⟩ := gi hF
      refine j_iald C 0 30 rfl rfl z_4 dX7_endingNow_20 ?_
      cases hF
      exact j_iret C Rk dX7_endingNow_21
  · have hF := (if_pos c_16).symm.trans hF
    refine j_iconst (v := (-1 : Int32)) C dX7_endingNow_8 rfl ?_
    cases hF
    exact j_iret C Rk dX7_endingNow_9
/-! HeadsMeetModel.ending -/
def FX7_ending (x1 : Int32) (o0 : Ob) : Option (Int32 × Ob) :=
  b1 (FX7_within x1 (0 : Int32) (6 : Int32)) fun r_1 =>
  if r_1 = 0 then
    some ((-102 : Int32), o0)
  else
    b1 (FX7_isNet o0) fun r_3 =>
    if r_3 = 0 then
      some ((-103 : Int32), o0)
    else
      b2 (FX7_endingNow x1 o0) fun r_5 o0_6 =>
      some (r_5, o0_6)
set_option maxRecDepth 100000 in
set_option maxHeartbeats 4000000 in
theorem kX7_ending (g : Gl) (h0 : Nat → Nat) (x1 : Int32) (o0 : Ob) {r : Int32} {o0' : Ob} (hF : FX7_ending x1 o0 = some (r, o0')) : Ctr g yX7_ending (Cond.code yX7_ending cX7_ending 2 (some .int) :: wsL_law) 6 138 [(shX7, h0, o0)] [(shX7, h0, o0')] [.ref (h0 0), .int x1] (some (.int r)) := by
  refine Ctr.of (cc := cX7_ending) (maxL := 2) (ret := (some .int)) (by decide) rfl (Nat.le_of_ble_eq_true rfl) ?_
  intro X C Rk
  replace C : CxOk g X cX7_ending RX7 (Cond.code yX7_ending cX7_ending 2 (some .int) :: wsL_law) 2 6 138 := C
  show J g X [(shX7, h0, o0)] 0 [(0, .ref (h0 0)), (1, .int x1)] []
  unfold FX7_ending at hF
  refine j_iload_n C 1 dX7_ending_0 rfl rfl ?_
  refine j_iconst (v := (0 : Int32)) C dX7_ending_1 rfl ?_
  refine j_bipush (v := (6 : Int32)) C dX7_ending_2 rfl ?_
  obtain ⟨r_1, k_2, hF⟩ := gb1 hF
  refine j_callSi C (os' := [(shX7, h0, o0)]) [.int x1, .int (0 : Int32), .int (6 : Int32)] (kX7_within g x1 (0 : Int32) (6 : Int32) k_2) [] rfl rfl rfl rfl (wl_gS mw_6_18 mw_6_19 mw_1_5 mw_6_20) rfl 3 rfl hd_X7_within ⟨Nat.le_of_ble_eq_true rfl, Nat.le_of_ble_eq_true rfl⟩ (Nat.le_of_ble_eq_true rfl) rfl dX7_ending_4 ?_
  refine j_if_ne C 13 dX7_ending_7 rfl (fun c_9 => ?_) (fun c_9 => ?_)
  · have hF := (if_neg c_9).symm.trans hF
    refine j_aload_n C 0 dX7_ending_13 rfl rfl ?_
    obtain ⟨r_3, k_4, hF⟩ := gb1 hF
    refine j_callVi C (os' := [(shX7, h0, o0)]) [] (kX7_isNet g h0 o0 k_4) [0] rfl rfl rfl rfl 0 rfl rfl (wl_gV mw_30_7 mw_30_8 mw_30_9 mw_1_5 mw_30_10) rfl 0 rfl hd_X7_isNet ⟨Nat.le_of_ble_eq_true rfl, Nat.le_of_ble_eq_true rfl⟩ (Nat.le_of_ble_eq_true rfl) rfl dX7_ending_14 ?_
    refine j_if_eq C 28 dX7_ending_17 rfl (fun c_8 => ?_) (fun c_8 => ?_)
    · have hF := (if_pos c_8).symm.trans hF
      refine j_bipush (v := (-103 : Int32)) C dX7_ending_28 rfl ?_
      cases hF
      exact j_iret C Rk dX7_ending_30
    · have hF := (if_neg c_8).symm.trans hF
      refine j_aload_n C 0 dX7_ending_20 rfl rfl ?_
      refine j_iload_n C 1 dX7_ending_21 rfl rfl ?_
      obtain ⟨r_5, o0_6, k_7, hF⟩ := gb2 hF
      refine j_callVi C (os' := [(shX7, h0, o0_6)]) [.int x1] (kX7_endingNow g h0 x1 o0 k_7) [0] rfl rfl rfl rfl 0 rfl rfl (wl_gV mw_34_0 mw_34_1 mw_34_2 mw_1_5 mw_34_3) rfl 1 rfl hd_X7_endingNow ⟨Nat.le_of_ble_eq_true rfl, Nat.le_of_ble_eq_true rfl⟩ (Nat.le_of_ble_eq_true rfl) rfl dX7_ending_22 ?_
      refine j_goto C 30 dX7_ending_25 rfl ?_
      cases hF
      exact j_iret C Rk dX7_ending_30
  · have hF := (if_pos c_9).symm.trans hF
    refine j_bipush (v := (-102 : Int32)) C dX7_ending_10 rfl ?_
    cases hF
    exact j_iret C Rk dX7_ending_12
/-! HeadsMeetModel.put -/
def FX7_put (x1 : Int32) (o0 : Ob) : Option (Ob) :=
  if (1000 : Int32) ≤ (oV o0 34) then
    lT (sV o0 34 ((oV o0 34) + (1 : Int32))) fun o0_7 =>
    some o0_7
  else
    if inb (oV o0 34) 1000 then
    lT (sA o0 33 (oV o0 34).toNatClampNeg x1) fun o0_3 =>
    lT (sV o0_3 34 ((oV o0_3 34) + (1 : Int32))) fun o0_5 =>
    some o0_5
    else none
set_option maxRecDepth 100000 in
set_option maxHeartbeats 4000000 in
theorem kX7_put (g : Gl) (h0 : Nat → Nat) (x1 : Int32) (o0 : Ob) {o0' : Ob} (hF : FX7_put x1 o0 = some o0') : Ctr g yX7_put (Cond.code yX7_put cX7_put 2 none :: wsL_law) 0 0 [(shX7, h0, o0)] [(shX7, h0, o0')] [.ref (h0 0), .int x1] none := by
  refine Ctr.of (cc := cX7_put) (maxL := 2) (ret := none) (by decide) rfl (Nat.le_of_ble_eq_true rfl) ?_
  intro X C Rk
  replace C : CxOk g X cX7_put RX7 (Cond.code yX7_put cX7_put 2 none :: wsL_law) 2 0 0 := C
  show J g X [(shX7, h0, o0)] 0 [(0, .ref (h0 0)), (1, .int x1)] []
  unfold FX7_put at hF
  refine j_aload_n C 0 dX7_put_0 rfl rfl ?_
  refine j_get (v := .int (oV o0 34)) C 0 34 rfl rfl (Nat.le_of_ble_eq_true rfl) rfl rfl in1_X7 (List.mem_cons_of_mem _ mw_36_13) dX7_put_1 ?_
  refine j_sipush (v := (1000 : Int32)) C dX7_put_4 rfl ?_
  refine j_icmp_ge C 20 dX7_put_7 rfl (fun c_8 => ?_) (fun c_8 => ?_)
  · have hF := (if_pos c_8).symm.trans hF
    refine j_aload_n C 0 dX7_put_20 rfl rfl ?_
    refine j_dup C rfl dX7_put_21 ?_
    refine j_get (v := .int (oV o0 34)) C 0 34 rfl rfl (Nat.le_of_ble_eq_true rfl) rfl rfl in1_X7 (List.mem_cons_of_mem _ mw_36_13) dX7_put_22 ?_
    refine j_iconst (v := (1 : Int32)) C dX7_put_25 rfl ?_
    refine j_iadd C dX7_put_26 ?_
    obtain ⟨o0_7, e_6, hF⟩ := glT hF
    refine j_putV C tyX7_ok nmX7 0 34 rfl rfl (Nat.le_of_ble_eq_true rfl) rfl in1_X7 (List.mem_cons_of_mem _ mw_36_13) rfl fd_X7_34 rfl rfl [(shX7, h0, o0_7)] (by rw [e_6]; rfl) dX7_put_27 ?_
    cases hF
    exact j_vret C Rk dX7_put_30
  · have hF := (if_neg c_8).symm.trans hF
    refine j_aload_n C 0 dX7_put_10 rfl rfl ?_
    refine j_get (v := .ref (h0 34)) C 0 33 rfl rfl (Nat.le_of_ble_eq_true rfl) rfl rfl in1_X7 (List.mem_cons_of_mem _ mw_5_10) dX7_put_11 ?_
    refine j_aload_n C 0 dX7_put_14 rfl rfl ?_
    refine j_get (v := .int (oV o0 34)) C 0 34 rfl rfl (Nat.le_of_ble_eq_true rfl) rfl rfl in1_X7 (List.mem_cons_of_mem _ mw_36_13) dX7_put_15 ?_
    refine j_iload_n C 1 dX7_put_18 rfl rfl ?_
    obtain ⟨z_1, hF⟩ := gi hF
    obtain ⟨o0_3, e_2, hF⟩ := glT hF
    refine j_iast C 0 33 rfl rfl z_1 [(shX7, h0, o0_3)] (by rw [e_2]; rfl) dX7_put_19 ?_
    refine j_aload_n C 0 dX7_put_20 rfl rfl ?_
    refine j_dup C rfl dX7_put_21 ?_
    refine j_get (v := .int (oV o0_3 34)) C 0 34 rfl rfl (Nat.le_of_ble_eq_true rfl) rfl rfl in1_X7 (List.mem_cons_of_mem _ mw_36_13) dX7_put_22 ?_
    refine j_iconst (v := (1 : Int32)) C dX7_put_25 rfl ?_
    refine j_iadd C dX7_put_26 ?_
    obtain ⟨o0_5, e_4, hF⟩ := glT hF
    refine j_putV C tyX7_ok nmX7 0 34 rfl rfl (Nat.le_of_ble_eq_true rfl) rfl in1_X7 (List.mem_cons_of_mem _ mw_36_13) rfl fd_X7_34 rfl rfl [(shX7, h0, o0_5)] (by rw [e_4]; rfl) dX7_put_27 ?_
    cases hF
    exact j_vret C Rk dX7_put_30
/-! HeadsMeetModel.tellFrom -/
def BX7_tellFrom_71 (x3 : Int32) (y1 : Int32) (o0 : Ob) : Option (Ob) :=
  b1 (FX7_put y1 o0) fun o0_11 =>
  b1 (FX7_kindOf x3 o0_11) fun r_13 =>
  b1 (FX7_closing r_13) fun r_15 =>
  if inb (oV o0_11 36) 400 then
  lT (sA o0_11 35 (oV o0_11 36).toNatClampNeg ((2000 : Int32) + r_15)) fun o0_19 =>
  if inb ((oV o0_19 36) + (1 : Int32)) 400 then
  lT (sA o0_19 35 ((oV o0_19 36) + (1 : Int32)).toNatClampNeg (((3 : Int32) * x3) + (2 : Int32))) fun o0_22 =>
  if inb ((oV o0_22 36) + (2 : Int32)) 400 then
  lT (sA o0_22 35 ((oV o0_22 36) + (2 : Int32)).toNatClampNeg (((3 : Int32) * x3) + (1 : Int32))) fun o0_25 =>
  lT (sV o0_25 36 ((oV o0_25 36) + (3 : Int32))) fun o0_27 =>
  some o0_27
  else none
  else none
  else none
def BX7_tellFrom_140 (x1 : Int32) (x2 : Int32) (o0 : Ob) : Option (Ob) :=
  if inb x1 908 then
  if (oA o0 37 x1.toNatClampNeg) = (-1 : Int32) then
    lT (sA o0 37 x1.toNatClampNeg (oV o0 38)) fun o0_35 =>
    if inb x2 908 then
    lT (sA o0_35 37 x2.toNatClampNeg (oV o0_35 38)) fun o0_38 =>
    lT (sV o0_38 38 ((oV o0_38 38) + (1 : Int32))) fun o0_40 =>
    b1 (FX7_put ((97 : Int32) + (oA o0_40 37 x1.toNatClampNeg)) o0_40) fun o0_41 =>
    some o0_41
    else none
  else
    b1 (FX7_put ((97 : Int32) + (oA o0 37 x1.toNatClampNeg)) o0) fun o0_43 =>
    some o0_43
  else none
def FX7_tellFrom (x1 : Int32) (o0 : Ob) : Option (Ob) :=
  b1 (FX7_at x1 o0) fun r_1 =>
  if (900 : Int32) ≤ r_1 then
    BX7_tellFrom_140 x1 r_1 o0
  else
    if (r_1 - r_1 / (3 : Int32) * (3 : Int32)) = 0 then
      lT (r_1 / (3 : Int32)) fun x3_3 =>
      b1 (FX7_kindOf x3_3 o0) fun r_5 =>
      if r_5 = 0 then
        b1 (FX7_put (42 : Int32) o0) fun o0_7 =>
        some o0_7
      else
        b1 (FX7_kindOf x3_3 o0) fun r_9 =>
        if r_9 = (1 : Int32) then
          BX7_tellFrom_71 x3_3 (40 : Int32) o0
        else
          b1 (FX7_kindOf x3_3 o0) fun r_28 =>
          if r_28 = (2 : Int32) then
            BX7_tellFrom_71 x3_3 (91 : Int32) o0
          else
            BX7_tellFrom_71 x3_3 (123 : Int32) o0
    else
      BX7_tellFrom_140 x1 r_1 o0
set_option maxRecDepth 100000 in
set_option maxHeartbeats 4000000 in
theorem bX7_tellFrom_71 {g : Gl} {X : Cxt} (C : CxOk g X cX7_tellFrom RX7 (Cond.code yX7_tellFrom cX7_tellFrom 4 none :: wsL_law) 4 1 21) {o0' : Ob} (h0 : Nat → Nat) (x3 : Int32) (y1 : Int32) (o0 : Ob)  (Rk : RetOk g X [(shX7, h0, o0')] none none)  (hF : BX7_tellFrom_71  x3 y1 o0 = some o0') : J g X [(shX7, h0, o0)] 71 [(0, .ref (h0 0)), (3, .int x3)] [.int y1, .ref (h0 0)] := by
  unfold BX7_tellFrom_71 at hF
  obtain ⟨o0_11, k_12, hF⟩ := gb1 hF
  refine j_callVv C (os' := [(shX7, h0, o0_11)]) [.int y1] (kX7_put g h0 y1 o0 k_12) [0] rfl rfl rfl rfl 0 rfl rfl (wl_gV mw_36_16 mw_36_17 mw_36_18 mw_1_5 mw_36_19) rfl 1 rfl hd_X7_put ⟨Nat.le_of_ble_eq_true rfl, Nat.le_of_ble_eq_true rfl⟩ (Nat.le_of_ble_eq_true rfl) rfl dX7_tellFrom_71 ?_
  refine j_aload_n C 0 dX7_tellFrom_74 rfl rfl ?_
  refine j_get (v := .ref (h0 36)) C 0 35 rfl rfl (Nat.le_of_ble_eq_true rfl) rfl rfl in1_X7 (List.mem_cons_of_mem _ mw_5_11) dX7_tellFrom_75 ?_
  refine j_aload_n C 0 dX7_tellFrom_78 rfl rfl ?_
  refine j_get (v := .int (oV o0_11 36)) C 0 36 rfl rfl (Nat.le_of_ble_eq_true rfl) rfl rfl in1_X7 (List.mem_cons_of_mem _ mw_36_15) dX7_tellFrom_79 ?_
  refine j_sipush (v := (2000 : Int32)) C dX7_tellFrom_82 rfl ?_
  refine j_aload_n C 0 dX7_tellFrom_85 rfl rfl ?_
  refine j_iload_n C 1 dX7_tellFrom_86 rfl rfl ?_
  obtain ⟨r_13, k_14, hF⟩ := gb1 hF
  refine j_callVi C (os' := [(shX7, h0, o0_11)]) [.int x3] (kX7_kindOf g h0 x3 o0_11 k_14) [0] rfl rfl rfl rfl 0 rfl rfl (wl_gV mw_24_9 mw_24_10 mw_24_11 mw_1_5 mw_24_12) rfl 1 rfl hd_X7_kindOf ⟨Nat.le_of_ble_eq_true rfl, Nat.le_of_ble_eq_true rfl⟩ (Nat.le_of_ble_eq_true rfl) rfl dX7_tellFrom_87 ?_
  obtain ⟨r_15, k_16, hF⟩ := gb1 hF
  refine j_callSi C (os' := [(shX7, h0, o0_11)]) [.int r_13] (kX7_closing g r_13 k_16) [] rfl rfl rfl rfl (wl_gS mw_16_2 mw_16_3 mw_1_5 mw_16_4) rfl 1 rfl hd_X7_closing ⟨Nat.le_of_ble_eq_true rfl, Nat.le_of_ble_eq_true rfl⟩ (Nat.le_of_ble_eq_true rfl) rfl dX7_tellFrom_90 ?_
  refine j_iadd C dX7_tellFrom_93 ?_
  obtain ⟨z_17, hF⟩ := gi hF
  obtain ⟨o0_19, e_18, hF⟩ := glT hF
  refine j_iast C 0 35 rfl rfl z_17 [(shX7, h0, o0_19)] (by rw [e_18]; rfl) dX7_tellFrom_94 ?_
  refine j_aload_n C 0 dX7_tellFrom_95 rfl rfl ?_
  refine j_get (v := .ref (h0 36)) C 0 35 rfl rfl (Nat.le_of_ble_eq_true rfl) rfl rfl in1_X7 (List.mem_cons_of_mem _ mw_5_11) dX7_tellFrom_96 ?_
  refine j_aload_n C 0 dX7_tellFrom_99 rfl rfl ?_
  refine j_get (v := .int (oV o0_19 36)) C 0 36 rfl rfl (Nat.le_of_ble_eq_true rfl) rfl rfl in1_X7 (List.mem_cons_of_mem _ mw_36_15) dX7_tellFrom_100 ?_
  refine j_iconst (v := (1 : Int32)) C dX7_tellFrom_103 rfl ?_
  refine j_iadd C dX7_tellFrom_104 ?_
  refine j_iconst (v := (3 : Int32)) C dX7_tellFrom_105 rfl ?_
  refine j_iload_n C 1 dX7_tellFrom_106 rfl rfl ?_
  refine j_imul C dX7_tellFrom_107 ?_
  refine j_iconst (v := (2 : Int32)) C dX7_tellFrom_108 rfl ?_
  refine j_iadd C dX7_tellFrom_109 ?_
  obtain ⟨z_20, hF⟩ := gi hF
  obtain ⟨o0_22, e_21, hF⟩ := glT hF
  refine j_iast C 0 35 rfl rfl z_20 [(shX7, h0, o0_22)] (by rw [e_21]; rfl) dX7_tellFrom_110 ?_
  refine j_aload_n C 0 dX7_tellFrom_111 rfl rfl ?_
  refine j_get (v := .ref (h0 36)) C 0 35 rfl rfl (Nat.le_of_ble_eq_true rfl) rfl rfl in1_X7 (List.mem_cons_of_mem _ mw_5_11) dX7_tellFrom_112 ?_
  refine j_aload_n C 0 dX7_tellFrom_115 rfl rfl ?_
  refine j_get (v := .int (oV o0_22 36)) C 0 36 rfl rfl (Nat.le_of_ble_eq_true rfl) rfl rfl in1_X7 (List.mem_cons_of_mem _ mw_36_15) dX7_tellFrom_116 ?_
  refine j_iconst (v := (2 : Int32)) C dX7_tellFrom_119 rfl ?_
  refine j_iadd C dX7_tellFrom_120 ?_
  refine j_iconst (v := (3 : Int32)) C dX7_tellFrom_121 rfl ?_
  refine j_iload_n C 1 dX7_tellFrom_122 rfl rfl ?_
  refine j_imul C dX7_tellFrom_123 ?_
  refine j_iconst (v := (1 : Int32)) C dX7_tellFrom_124 rfl ?_
  refine j_iadd C dX7_tellFrom_125 ?_
  obtain ⟨z_23, hF⟩ := gi hF
  obtain ⟨o0_25, e_24, hF⟩ := glT hF
  refine j_iast C 0 35 rfl rfl z_23 [(shX7, h0, o0_25)] (by rw [e_24]; rfl) dX7_tellFrom_126 ?_
  refine j_aload_n C 0 dX7_tellFrom_127 rfl rfl ?_
  refine j_dup C rfl dX7_tellFrom_128 ?_
  refine j_get (v := .int (oV o0_25 36)) C 0 36 rfl rfl (Nat.le_of_ble_eq_true rfl) rfl rfl in1_X7 (List.mem_cons_of_mem _ mw_36_15) dX7_tellFrom_129 ?_
  refine j_iconst (v := (3 : Int32)) C dX7_tellFrom_132 rfl ?_
  refine j_iadd C dX7_tellFrom_133 ?_
  obtain ⟨o0_27, e_26, hF⟩ := glT hF
  refine j_putV C tyX7_ok nmX7 0 36 rfl rfl (Nat.le_of_ble_eq_true rfl) rfl in1_X7 (List.mem_cons_of_mem _ mw_36_15) rfl fd_X7_36 rfl rfl [(shX7, h0, o0_27)] (by rw [e_26]; rfl) dX7_tellFrom_134 ?_
  refine j_goto C 193 dX7_tellFrom_137 rfl ?_
  cases hF
  exact j_vret C Rk dX7_tellFrom_193
set_option maxRecDepth 100000 in
set_option maxHeartbeats 4000000 in
theorem bX7_tellFrom_140 {g : Gl} {X : Cxt} (C : CxOk g X cX7_tellFrom RX7 (Cond.code yX7_tellFrom cX7_tellFrom 4 none :: wsL_law) 4 1 21) {o0' : Ob} (h0 : Nat → Nat) (x1 : Int32) (x2 : Int32) (o0 : Ob)  (Rk : RetOk g X [(shX7, h0, o0')] none none)  (hF : BX7_tellFrom_140  x1 x2 o0 = some o0') : J g X [(shX7, h0, o0)] 140 [(0, .ref (h0 0)), (1, .int x1), (2, .int x2)] [] := by
  unfold BX7_tellFrom_140 at hF
  refine j_aload_n C 0 dX7_tellFrom_140 rfl rfl ?_
  refine j_get (v := .ref (h0 38)) C 0 37 rfl rfl (Nat.le_of_ble_eq_true rfl) rfl rfl in1_X7 (List.mem_cons_of_mem _ mw_5_12) dX7_tellFrom_141 ?_
  refine j_iload_n C 1 dX7_tellFrom_144 rfl rfl ?_
  obtain ⟨z_33, hF⟩ := gi hF
  refine j_iald C 0 37 rfl rfl z_33 dX7_tellFrom_145 ?_
  refine j_iconst (v := (-1 : Int32)) C dX7_tellFrom_146 rfl ?_
  refine j_icmp_ne C 180 dX7_tellFrom_147 rfl (fun c_45 => ?_) (fun c_45 => ?_)
  · have hF := (if_neg c_45).symm.trans hF
    refine j_aload_n C 0 dX7_tellFrom_180 rfl rfl ?_
    refine j_bipush (v := (97 : Int32)) C dX7_tellFrom_181 rfl ?_
    refine j_aload_n C 0 dX7_tellFrom_183 rfl rfl ?_
    refine j_get (v := .ref (h0 38)) C 0 37 rfl rfl (Nat.le_of_ble_eq_true rfl) rfl rfl in1_X7 (List.mem_cons_of_mem _ mw_5_12) dX7_tellFrom_184 ?_
    refine j_iload_n C 1 dX7_tellFrom_187 rfl rfl ?_
    refine j_iald C 0 37 rfl rfl z_33 dX7_tellFrom_188 ?_
    refine j_iadd C dX7_tellFrom_189 ?_
    obtain ⟨o0_43, k_44, hF⟩ := gb1 hF
    refine j_callVv C (os' := [(shX7, h0, o0_43)]) [.int ((97 : Int32) + (oA o0 37 x1.toNatClampNeg))] (kX7_put g h0 ((97 : Int32) + (oA o0 37 x1.toNatClampNeg)) o0 k_44) [0] rfl rfl rfl rfl 0 rfl rfl (wl_gV mw_36_16 mw_36_17 mw_36_18 mw_1_5 mw_36_19) rfl 1 rfl hd_X7_put ⟨Nat.le_of_ble_eq_true rfl, Nat.le_of_ble_eq_true rfl⟩ (Nat.le_of_ble_eq_true rfl) rfl dX7_tellFrom_190 ?_
    cases hF
    exact j_vret C Rk dX7_tellFrom_193
  · have hF := (if_pos c_45).symm.trans hF
    refine j_aload_n C 0 dX7_tellFrom_150 rfl rfl ?_
    refine j_get (v := .ref (h0 38)) C 0 37 rfl rfl (Nat.le_of_ble_eq_true rfl) rfl rfl in1_X7 (List.mem_cons_of_mem _ mw_5_12) dX7_tellFrom_151 ?_
    refine j_iload_n C 1 dX7_tellFrom_154 rfl rfl ?_
    refine j_aload_n C 0 dX7_tellFrom_155 rfl rfl ?_
    refine j_get (v := .int (oV o0 38)) C 0 38 rfl rfl (Nat.le_of_ble_eq_true rfl) rfl rfl in1_X7 (List.mem_cons_of_mem _ mw_36_14) dX7_tellFrom_156 ?_
    obtain ⟨o0_35, e_34, hF⟩ := glT hF
    refine j_iast C 0 37 rfl rfl z_33 [(shX7, h0, o0_35)] (by rw [e_34]; rfl) dX7_tellFrom_159 ?_
    refine j_aload_n C 0 dX7_tellFrom_160 rfl rfl ?_
    refine j_get (v := .ref (h0 38)) C 0 37 rfl rfl (Nat.le_of_ble_eq_true rfl) rfl rfl in1_X7 (List.mem_cons_of_mem _ mw_5_12) dX7_tellFrom_161 ?_
    refine j_iload_n C 2 dX7_tellFrom_164 rfl rfl ?_
    refine j_aload_n C 0 dX7_tellFrom_165 rfl rfl ?_
    refine j_get (v := .int (oV o0_35 38)) C 0 38 rfl rfl (Nat.le_of_ble_eq_true rfl) rfl rfl in1_X7 (List.mem_cons_of_mem _ mw_36_14) dX7_tellFrom_166 ?_
    obtain ⟨z_36, hF⟩ := gi hF
    obtain ⟨o0_38, e_37, hF⟩ := glT hF
    refine j_iast C 0 37 rfl rfl z_36 [(shX7, h0, o0_38)] (by rw [e_37]; rfl) dX7_tellFrom_169 ?_
    refine j_aload_n C 0 dX7_tellFrom_170 rfl rfl ?_
    refine j_dup C rfl dX7_tellFrom_171 ?_
    refine j_get (v := .int (oV o0_38 38)) C 0 38 rfl rfl (Nat.le_of_ble_eq_true rfl) rfl rfl in1_X7 (List.mem_cons_of_mem _ mw_36_14) dX7_tellFrom_172 ?_
    refine j_iconst (v := (1 : Int32)) C dX7_tellFrom_175 rfl ?_
    refine j_iadd C dX7_tellFrom_176 ?_
    obtain ⟨o0_40, e_39, hF⟩ := glT hF
    refine j_putV C tyX7_ok nmX7 0 38 rfl rfl (Nat.le_of_ble_eq_true rfl) rfl in1_X7 (List.mem_cons_of_mem _ mw_36_14) rfl fd_X7_38 rfl rfl [(shX7, h0, o0_40)] (by rw [e_39]; rfl) dX7_tellFrom_177 ?_
    refine j_aload_n C 0 dX7_tellFrom_180 rfl rfl ?_
    refine j_bipush (v := (97 : Int32)) C dX7_tellFrom_181 rfl ?_
    refine j_aload_n C 0 dX7_tellFrom_183 rfl rfl ?_
    refine j_get (v := .ref (h0 38)) C 0 37 rfl rfl (Nat.le_of_ble_eq_true rfl) rfl rfl in1_X7 (List.mem_cons_of_mem _ mw_5_12) dX7_tellFrom_184 ?_
    refine j_iload_n C 1 dX7_tellFrom_187 rfl rfl ?_
    refine j_iald C 0 37 rfl rfl z_33 dX7_tellFrom_188 ?_
    refine j_iadd C dX7_tellFrom_189 ?_
    obtain ⟨o0_41, k_42, hF⟩ := gb1 hF
    refine j_callVv C (os' := [(shX7, h0, o0_41)]) [.int ((97 : Int32) + (oA o0_40 37 x1.toNatClampNeg))] (kX7_put g h0 ((97 : Int32) + (oA o0_40 37 x1.toNatClampNeg)) o0_40 k_42) [0] rfl rfl rfl rfl 0 rfl rfl (wl_gV mw_36_16 mw_36_17 mw_36_18 mw_1_5 mw_36_19) rfl 1 rfl hd_X7_put ⟨Nat.le_of_ble_eq_true rfl, Nat.le_of_ble_eq_true rfl⟩ (Nat.le_of_ble_eq_true rfl) rfl dX7_tellFrom_190 ?_
    cases hF
    exact j_vret C Rk dX7_tellFrom_193
set_option maxRecDepth 100000 in
set_option maxHeartbeats 4000000 in
theorem kX7_tellFrom (g : Gl) (h0 : Nat → Nat) (x1 : Int32) (o0 : Ob) {o0' : Ob} (hF : FX7_tellFrom x1 o0 = some o0') : Ctr g yX7_tellFrom (Cond.code yX7_tellFrom cX7_tellFrom 4 none :: wsL_law) 1 21 [(shX7, h0, o0)] [(shX7, h0, o0')] [.ref (h0 0), .int x1] none := by
  refine Ctr.of (cc := cX7_tellFrom) (maxL := 4) (ret := none) (by decide) rfl (Nat.le_of_ble_eq_true rfl) ?_
  intro X C Rk
  replace C : CxOk g X cX7_tellFrom RX7 (Cond.code yX7_tellFrom cX7_tellFrom 4 none :: wsL_law) 4 1 21 := C
  show J g X [(shX7, h0, o0)] 0 [(0, .ref (h0 0)), (1, .int x1)] []
  unfold FX7_tellFrom at hF
  refine j_aload_n C 0 dX7_tellFrom_0 rfl rfl ?_
  refine j_iload_n C 1 dX7_tellFrom_1 rfl rfl ?_
  obtain ⟨r_1, k_2, hF⟩ := gb1 hF
  refine j_callVi C (os' := [(shX7, h0, o0)]) [.int x1] (kX7_at g h0 x1 o0 k_2) [0] rfl rfl rfl rfl 0 rfl rfl (wl_gV mw_24_21 mw_24_22 mw_24_23 mw_1_5 mw_25_0) rfl 1 rfl hd_X7_at ⟨Nat.le_of_ble_eq_true rfl, Nat.le_of_ble_eq_true rfl⟩ (Nat.le_of_ble_eq_true rfl) rfl dX7_tellFrom_2 ?_
  refine j_istore_n C [(2, .int r_1), (0, .ref (h0 0)), (1, .int x1)] dX7_tellFrom_5 rfl (Nat.le_of_ble_eq_true rfl) rfl rfl ?_
  refine j_iload_n C 0 dX7_tellFrom_6 rfl rfl ?_
  refine j_sipush (v := (900 : Int32)) C dX7_tellFrom_7 rfl ?_
  refine j_icmp_ge C 140 dX7_tellFrom_10 rfl (fun c_47 => ?_) (fun c_47 => ?_)
  · have hF := (if_pos c_47).symm.trans hF
    refine j_sub [(0, .ref (h0 0)), (1, .int x1), (2, .int r_1)] [1, 2, 0] rfl ?_
    exact bX7_tellFrom_140 C h0 _ _ _ Rk  hF
  · have hF := (if_neg c_47).symm.trans hF
    refine j_iload_n C 0 dX7_tellFrom_13 rfl rfl ?_
    refine j_iconst (v := (3 : Int32)) C dX7_tellFrom_14 rfl ?_
    refine j_irem C (by decide) dX7_tellFrom_15 ?_
    refine j_if_ne C 140 dX7_tellFrom_16 rfl (fun c_46 => ?_) (fun c_46 => ?_)
    · have hF := (if_neg c_46).symm.trans hF
      refine j_sub [(0, .ref (h0 0)), (1, .int x1), (2, .int r_1)] [1, 2, 0] rfl ?_
      exact bX7_tellFrom_140 C h0 _ _ _ Rk  hF
    · have hF := (if_pos c_46).symm.trans hF
      refine j_iload_n C 0 dX7_tellFrom_19 rfl rfl ?_
      refine j_iconst (v := (3 : Int32)) C dX7_tellFrom_20 rfl ?_
      refine j_idiv C (by decide) dX7_tellFrom_21 ?_
      obtain ⟨x3_3, e_4, hF⟩ := glT hF
      refine j_istore_n C [(3, .int x3_3), (2, .int r_1), (0, .ref (h0 0)), (1, .int x1)] dX7_tellFrom_22 rfl (Nat.le_of_ble_eq_true rfl) e_4 rfl ?_
      refine j_aload_n C 2 dX7_tellFrom_23 rfl rfl ?_
      refine j_iload_n C 0 dX7_tellFrom_24 rfl rfl ?_
      obtain ⟨r_5, k_6, hF⟩ := gb1 hF
      refine j_callVi C (os' := [(shX7, h0, o0)]) [.int x3_3] (kX7_kindOf g h0 x3_3 o0 k_6) [0] rfl rfl rfl rfl 0 rfl rfl (wl_gV mw_24_9 mw_24_10 mw_24_11 mw_1_5 mw_24_12) rfl 1 rfl hd_X7_kindOf ⟨Nat.le_of_ble_eq_true rfl, Nat.le_of_ble_eq_true rfl⟩ (Nat.le_of_ble_eq_true rfl) rfl dX7_tellFrom_25 ?_
      refine j_if_ne C 40 dX7_tellFrom_28 rfl (fun c_32 => ?_) (fun c_32 => ?_)
      · have hF := (if_neg c_32).symm.trans hF
        refine j_aload_n C 2 dX7_tellFrom_40 rfl rfl ?_
        refine j_aload_n C 2 dX7_tellFrom_41 rfl rfl ?_
        refine j_iload_n C 0 dX7_tellFrom_42 rfl rfl ?_
        obtain ⟨r_9, k_10, hF⟩ := gb1 hF
        refine j_callVi C (os' := [(shX7, h0, o0)]) [.int x3_3] (kX7_kindOf g h0 x3_3 o0 k_10) [0] rfl rfl rfl rfl 0 rfl rfl (wl_gV mw_24_9 mw_24_10 mw_24_11 mw_1_5 mw_24_12) rfl 1 rfl hd_X7_kindOf ⟨Nat.le_of_ble_eq_true rfl, Nat.le_of_ble_eq_true rfl⟩ (Nat.le_of_ble_eq_true rfl) rfl dX7_tellFrom_43 ?_
        refine j_iconst (v := (1 : Int32)) C dX7_tellFrom_46 rfl ?_
        refine j_icmp_ne C 55 dX7_tellFrom_47 rfl (fun c_31 => ?_) (fun c_31 => ?_)
        · have hF := (if_neg c_31).symm.trans hF
          refine j_aload_n C 2 dX7_tellFrom_55 rfl rfl ?_
          refine j_iload_n C 0 dX7_tellFrom_56 rfl rfl ?_
          obtain ⟨r_28, k_29, hF⟩ := gb1 hF
          refine j_callVi C (os' := [(shX7, h0, o0)]) [.int x3_3] (kX7_kindOf g h0 x3_3 o0 k_29) [0] rfl rfl rfl rfl 0 rfl rfl (wl_gV mw_24_9 mw_24_10 mw_24_11 mw_1_5 mw_24_12) rfl 1 rfl hd_X7_kindOf ⟨Nat.le_of_ble_eq_true rfl, Nat.le_of_ble_eq_true rfl⟩ (Nat.le_of_ble_eq_true rfl) rfl dX7_tellFrom_57 ?_
          refine j_iconst (v := (2 : Int32)) C dX7_tellFrom_60 rfl ?_
          refine j_icmp_ne C 69 dX7_tellFrom_61 rfl (fun c_30 => ?_) (fun c_30 => ?_)
          · have hF := (if_neg c_30).symm.trans hF
            refine j_bipush (v := (123 : Int32)) C dX7_tellFrom_69 rfl ?_
            refine j_sub [(0, .ref (h0 0)), (3, .int x3_3)] [2, 0] rfl ?_
            exact bX7_tellFrom_71 C h0 _ _ _ Rk  hF
          · have hF := (if_pos c_30).symm.trans hF
            refine j_bipush (v := (91 : Int32)) C dX7_tellFrom_64 rfl ?_
            refine j_goto C 71 dX7_tellFrom_66 rfl ?_
            refine j_sub [(0, .ref (h0 0)), (3, .int x3_3)] [2, 0] rfl ?_
            exact bX7_tellFrom_71 C h0 _ _ _ Rk  hF
        · have hF := (if_pos c_31).symm.trans hF
          refine j_bipush (v := (40 : Int32)) C dX7_tellFrom_50 rfl ?_
          refine j_goto C 71 dX7_tellFrom_52 rfl ?_
          refine j_sub [(0, .ref (h0 0)), (3, .int x3_3)] [2, 0] rfl ?_
          exact bX7_tellFrom_71 C h0 _ _ _ Rk  hF
      · have hF := (if_pos c_32).symm.trans hF
        refine j_aload_n C 2 dX7_tellFrom_31 rfl rfl ?_
        refine j_bipush (v := (42 : Int32)) C dX7_tellFrom_32 rfl ?_
        obtain ⟨o0_7, k_8, hF⟩ := gb1 hF
        refine j_callVv C (os' := [(shX7, h0, o0_7)]) [.int (42 : Int32)] (kX7_put g h0 (42 : Int32) o0 k_8) [0] rfl rfl rfl rfl 0 rfl rfl (wl_gV mw_36_16 mw_36_17 mw_36_18 mw_1_5 mw_36_19) rfl 1 rfl hd_X7_put ⟨Nat.le_of_ble_eq_true rfl, Nat.le_of_ble_eq_true rfl⟩ (Nat.le_of_ble_eq_true rfl) rfl dX7_tellFrom_34 ?_
        refine j_goto C 137 dX7_tellFrom_37 rfl ?_
        refine j_goto C 193 dX7_tellFrom_137 rfl ?_
        cases hF
        exact j_vret C Rk dX7_tellFrom_193
/-! HeadsMeetModel.layReading -/
def LX7_layReading_17 (E37 : Ob → Option (Ob)) : Nat → Int32 → Ob → Option (Ob)
  | 0, _, _ => none
  | n + 1, x2, o0 =>
    if (908 : Int32) ≤ x2 then
      E37 o0
    else
      if inb x2 908 then
      lT (sA o0 37 x2.toNatClampNeg (-1 : Int32)) fun o0_9 =>
      lT (x2 + (1 : Int32)) fun x2_10 =>
      LX7_layReading_17 E37 n x2_10 o0_9
      else none
def LX7_layReading_78 (x2 : Int32) (E146 : Ob → Option (Ob)) : Nat → Ob → Option (Ob)
  | 0, _ => none
  | n + 1, o0 =>
    if (oV o0 36) ≤ 0 then
      E146 o0
    else
      lT (sV o0 36 ((oV o0 36) - (1 : Int32))) fun o0_23 =>
      if inb (oV o0_23 36) 400 then
      if (oA o0_23 35 (oV o0_23 36).toNatClampNeg) < (2000 : Int32) then
        b1 (FX7_tellFrom (oA o0_23 35 (oV o0_23 36).toNatClampNeg) o0_23) fun o0_27 =>
        LX7_layReading_78 x2 E146 n o0_27
      else
        b1 (FX7_put ((oA o0_23 35 (oV o0_23 36).toNatClampNeg) - (2000 : Int32)) o0_23) fun o0_25 =>
        LX7_layReading_78 x2 E146 n o0_25
      else none
def LX7_layReading_39 (E152 : Ob → Option (Ob)) : Nat → Int32 → Ob → Option (Ob)
  | 0, _, _ => none
  | n + 1, x2, o0 =>
    if (8 : Int32) ≤ x2 then
      E152 o0
    else
      b1 (FX7_isOpen x2 o0) fun r_14 =>
      if r_14 = 0 then
        lT (x2 + (1 : Int32)) fun x2_34 =>
        LX7_layReading_39 E152 n x2_34 o0
      else
        lT (sA o0 35 (0 : Int32).toNatClampNeg (2059 : Int32)) fun o0_17 =>
        lT (sA o0_17 35 (1 : Int32).toNatClampNeg ((900 : Int32) + x2)) fun o0_19 =>
        lT (sV o0_19 36 (2 : Int32)) fun o0_21 =>
        LX7_layReading_78 x2 (fun o0_31 =>
         lT (x2 + (1 : Int32)) fun x2_32 =>
         LX7_layReading_39 E152 n x2_32 o0_31) fu o0_21
def FX7_layReading (x1 : Int32) (o0 : Ob) : Option (Ob) :=
  lT (sV o0 4 x1) fun o0_2 =>
  lT (sV o0_2 34 (0 : Int32)) fun o0_4 =>
  lT (sV o0_4 38 (0 : Int32)) fun o0_6 =>
  LX7_layReading_17 (fun o0_13 =>
   LX7_layReading_39 (fun o0_38 =>
    lT (sV o0_38 4 (0 : Int32)) fun o0_40 =>
    some o0_40) fu (0 : Int32) o0_13) fu (0 : Int32) o0_6
set_option maxRecDepth 100000 in
set_option maxHeartbeats 4000000 in
theorem lX7_layReading_17 {g : Gl} {X : Cxt} (C : CxOk g X cX7_layReading RX7 (Cond.code yX7_layReading cX7_layReading 3 none :: wsL_law) 3 2 44) {o0' : Ob} (h0 : Nat → Nat)  (E37 : Ob → Option (Ob)) (Rk : RetOk g X [(shX7, h0, o0')] none none) (hE37 : ∀ (o0 : Ob), E37 o0 = some o0' → J g X [(shX7, h0, o0)] 37 [(0, .ref (h0 0))] []) : ∀ (n : Nat) (x2 : Int32) (o0 : Ob), LX7_layReading_17 E37 n x2 o0 = some o0' → J g X [(shX7, h0, o0)] 17 [(0, .ref (h0 0)), (2, .int x2)] [] := by
  intro n
  induction n with
  | zero =>
    intro x2 o0 hF
    cases hF
  | succ n ih =>
    intro x2 o0 hF
    rw [LX7_layReading_17.eq_2] at hF
    refine j_iload_n C 1 dX7_layReading_17 rfl rfl ?_
    refine j_sipush (v := (908 : Int32)) C dX7_layReading_18 rfl ?_
    refine j_icmp_ge C 37 dX7_layReading_21 rfl (fun c_12 => ?_) (fun c_12 => ?_)
    · have hF := (if_pos c_12).symm.trans hF
      refine j_sub [(0, .ref (h0 0))] [0] rfl ?_
      exact hE37 _ hF
    · have hF := (if_neg c_12).symm.trans hF
      refine j_aload_n C 0 dX7_layReading_24 rfl rfl ?_
      refine j_get (v := .ref (h0 38)) C 0 37 rfl rfl (Nat.le_of_ble_eq_true rfl) rfl rfl in1_X7 (List.mem_cons_of_mem _ mw_5_12) dX7_layReading_25 ?_
      refine j_iload_n C 1 dX7_layReading_28 rfl rfl ?_
      refine j_iconst (v := (-1 : Int32)) C dX7_layReading_29 rfl ?_
      obtain ⟨z_7, hF⟩ := gi hF
      obtain ⟨o0_9, e_8, hF⟩ := glT hF
      refine j_iast C 0 37 rfl rfl z_7 [(shX7, h0, o0_9)] (by rw [e_8]; rfl) dX7_layReading_30 ?_
      obtain ⟨x2_10, e_11, hF⟩ := glT hF
      refine j_iinc C 1 [(2, .int x2_10), (0, .ref (h0 0))] dX7_layReading_31 rfl e_11.symm (Nat.le_of_ble_eq_true rfl) rfl ?_
      refine j_goto C 17 dX7_layReading_34 rfl ?_
      refine j_sub [(0, .ref (h0 0)), (2, .int x2_10)] [1, 0] rfl ?_
      exact ih _ _ hF
set_option maxRecDepth 100000 in
set_option maxHeartbeats 4000000 in
theorem lX7_layReading_78 {g : Gl} {X : Cxt} (C : CxOk g X cX7_layReading RX7 (Cond.code yX7_layReading cX7_layReading 3 none :: wsL_law) 3 2 44) {o0' : Ob} (h0 : Nat → Nat) (x2 : Int32) (E146 : Ob → Option (Ob)) (Rk : RetOk g X [(shX7, h0, o0')] none none) (hE146 : ∀ (o0 : Ob), E146 o0 = some o0' → J g X [(shX7, h0, o0)] 146 [(0, .ref (h0 0)), (2, .int x2)] []) : ∀ (n : Nat) (o0 : Ob), LX7_layReading_78 x2 E146 n o0 = some o0' → J g X [(shX7, h0, o0)] 78 [(0, .ref (h0 0)), (2, .int x2)] [] := by
  intro n
  induction n with
  | zero =>
    intro o0 hF
    cases hF
  | succ n ih =>
    intro o0 hF
    rw [LX7_layReading_78.eq_2] at hF
    refine j_aload_n C 0 dX7_layReading_78 rfl rfl ?_
    refine j_get (v := .int (oV o0 36)) C 0 36 rfl rfl (Nat.le_of_ble_eq_true rfl) rfl rfl in1_X7 (List.mem_cons_of_mem _ mw_36_15) dX7_layReading_79 ?_
    refine j_if_le C 146 dX7_layReading_82 rfl (fun c_30 => ?_) (fun c_30 => ?_)
    · have hF := (if_pos c_30).symm.trans hF
      exact hE146 _ hF
    · have hF := (if_neg c_30).symm.trans hF
      refine j_aload_n C 0 dX7_layReading_85 rfl rfl ?_
      refine j_dup C rfl dX7_layReading_86 ?_
      refine j_get (v := .int (oV o0 36)) C 0 36 rfl rfl (Nat.le_of_ble_eq_true rfl) rfl rfl in1_X7 (List.mem_cons_of_mem _ mw_36_15) dX7_layReading_87 ?_
      refine j_iconst (v := (1 : Int32)) C dX7_layReading_90 rfl ?_
      refine j_isub C dX7_layReading_91 ?_
      obtain ⟨o0_23, e_22, hF⟩ := glT hF
      refine j_putV C tyX7_ok nmX7 0 36 rfl rfl (Nat.le_of_ble_eq_true rfl) rfl in1_X7 (List.mem_cons_of_mem _ mw_36_15) rfl fd_X7_36 rfl rfl [(shX7, h0, o0_23)] (by rw [e_22]; rfl) dX7_layReading_92 ?_
      refine j_aload_n C 0 dX7_layReading_95 rfl rfl ?_
      refine j_get (v := .ref (h0 36)) C 0 35 rfl rfl (Nat.le_of_ble_eq_true rfl) rfl rfl in1_X7 (List.mem_cons_of_mem _ mw_5_11) dX7_layReading_96 ?_
      refine j_aload_n C 0 dX7_layReading_99 rfl rfl ?_
      refine j_get (v := .int (oV o0_23 36)) C 0 36 rfl rfl (Nat.le_of_ble_eq_true rfl) rfl rfl in1_X7 (List.mem_cons_of_mem _ mw_36_15) dX7_layReading_100 ?_
      obtain ⟨z_24, hF⟩ := gi hF
      refine j_iald C 0 35 rfl rfl z_24 dX7_layReading_103 ?_
      refine j_sipush (v := (2000 : Int32)) C dX7_layReading_104 rfl ?_
      refine j_icmp_lt C 130 dX7_layReading_107 rfl (fun c_29 => ?_) (fun c_29 => ?_)
      · have hF := (if_pos c_29).symm.trans hF
        refine j_aload_n C 0 dX7_layReading_130 rfl rfl ?_
        refine j_aload_n C 0 dX7_layReading_131 rfl rfl ?_
        refine j_get (v := .ref (h0 36)) C 0 35 rfl rfl (Nat.le_of_ble_eq_true rfl) rfl rfl in1_X7 (List.mem_cons_of_mem _ mw_5_11) dX7_layReading_132 ?_
        refine j_aload_n C 0 dX7_layReading_135 rfl rfl ?_
        refine j_get (v := .int (oV o0_23 36)) C 0 36 rfl rfl (Nat.le_of_ble_eq_true rfl) rfl rfl in1_X7 (List.mem_cons_of_mem _ mw_36_15) dX7_layReading_136 ?_
        refine j_iald C 0 35 rfl rfl z_24 dX7_layReading_139 ?_
        obtain ⟨o0_27, k_28, hF⟩ := gb1 hF
        refine j_callVv C (os' := [(shX7, h0, o0_27)]) [.int (oA o0_23 35 (oV o0_23 36).toNatClampNeg)] (kX7_tellFrom g h0 (oA o0_23 35 (oV o0_23 36).toNatClampNeg) o0_23 k_28) [0] rfl rfl rfl rfl 0 rfl rfl (wl_gV mw_36_20 mw_36_21 mw_36_22 mw_1_5 mw_36_23) rfl 1 rfl hd_X7_tellFrom ⟨Nat.le_of_ble_eq_true rfl, Nat.le_of_ble_eq_true rfl⟩ (Nat.le_of_ble_eq_true rfl) rfl dX7_layReading_140 ?_
        refine j_goto C 78 dX7_layReading_143 rfl ?_
        exact ih _ hF
      · have hF := (if_neg c_29).symm.trans hF
        refine j_aload_n C 0 dX7_layReading_110 rfl rfl ?_
        refine j_aload_n C 0 dX7_layReading_111 rfl rfl ?_
        refine j_get (v := .ref (h0 36)) C 0 35 rfl rfl (Nat.le_of_ble_eq_true rfl) rfl rfl in1_X7 (List.mem_cons_of_mem _ mw_5_11) dX7_layReading_112 ?_
        refine j_aload_n C 0 dX7_layReading_115 rfl rfl ?_
        refine j_get (v := .int (oV o0_23 36)) C 0 36 rfl rfl (Nat.le_of_ble_eq_true rfl) rfl rfl in1_X7 (List.mem_cons_of_mem _ mw_36_15) dX7_layReading_116 ?_
        refine j_iald C 0 35 rfl rfl z_24 dX7_layReading_119 ?_
        refine j_sipush (v := (2000 : Int32)) C dX7_layReading_120 rfl ?_
        refine j_isub C dX7_layReading_123 ?_
        obtain ⟨o0_25, k_26, hF⟩ := gb1 hF
        refine j_callVv C (os' := [(shX7, h0, o0_25)]) [.int ((oA o0_23 35 (oV o0_23 36).toNatClampNeg) - (2000 : Int32))] (kX7_put g h0 ((oA o0_23 35 (oV o0_23 36).toNatClampNeg) - (2000 : Int32)) o0_23 k_26) [0] rfl rfl rfl rfl 0 rfl rfl (wl_gV mw_36_16 mw_36_17 mw_36_18 mw_1_5 mw_36_19) rfl 1 rfl hd_X7_put ⟨Nat.le_of_ble_eq_true rfl, Nat.le_of_ble_eq_true rfl⟩ (Nat.le_of_ble_eq_true rfl) rfl dX7_layReading_124 ?_
        refine j_goto C 78 dX7_layReading_127 rfl ?_
        exact ih _ hF
set_option maxRecDepth 100000 in
set_option maxHeartbeats 4000000 in
theorem lX7_layReading_39 {g : Gl} {X : Cxt} (C : CxOk g X cX7_layReading RX7 (Cond.code yX7_layReading cX7_layReading 3 none :: wsL_law) 3 2 44) {o0' : Ob} (h0 : Nat → Nat)  (E152 : Ob → Option (Ob)) (Rk : RetOk g X [(shX7, h0, o0')] none none) (hE152 : ∀ (o0 : Ob), E152 o0 = some o0' → J g X [(shX7, h0, o0)] 152 [(0, .ref (h0 0))] []) : ∀ (n : Nat) (x2 : Int32) (o0 : Ob), LX7_layReading_39 E152 n x2 o0 = some o0' → J g X [(shX7, h0, o0)] 39 [(0, .ref (h0 0)), (2, .int x2)] [] := by
  intro n
  induction n with
  | zero =>
    intro x2 o0 hF
    cases hF
  | succ n ih =>
    intro x2 o0 hF
    rw [LX7_layReading_39.eq_2] at hF
    refine j_iload_n C 1 dX7_layReading_39 rfl rfl ?_
    refine j_bipush (v := (8 : Int32)) C dX7_layReading_40 rfl ?_
    refine j_icmp_ge C 152 dX7_layReading_42 rfl (fun c_37 => ?_) (fun c_37 => ?_)
    · have hF := (if_pos c_37).symm.trans hF
      refine j_sub [(0, .ref (h0 0))] [0] rfl ?_
      exact hE152 _ hF
    · have hF := (if_neg c_37).symm.trans hF
      refine j_aload_n C 0 dX7_layReading_45 rfl rfl ?_
      refine j_iload_n C 1 dX7_layReading_46 rfl rfl ?_
      obtain ⟨r_14, k_15, hF⟩ := gb1 hF
      refine j_callVi C (os' := [(shX7, h0, o0)]) [.int x2] (kX7_isOpen g h0 x2 o0 k_15) [0] rfl rfl rfl rfl 0 rfl rfl (wl_gV mw_29_17 mw_29_18 mw_29_19 mw_1_5 mw_29_20) rfl 1 rfl hd_X7_isOpen ⟨Nat.le_of_ble_eq_true rfl, Nat.le_of_ble_eq_true rfl⟩ (Nat.le_of_ble_eq_true rfl) rfl dX7_layReading_47 ?_
      refine j_if_eq C 146 dX7_layReading_50 rfl (fun c_36 => ?_) (fun c_36 => ?_)
      · have hF := (if_pos c_36).symm.trans hF
        obtain ⟨x2_34, e_35, hF⟩ := glT hF
        refine j_iinc C 1 [(2, .int x2_34), (0, .ref (h0 0))] dX7_layReading_146 rfl e_35.symm (Nat.le_of_ble_eq_true rfl) rfl ?_
        refine j_goto C 39 dX7_layReading_149 rfl ?_
        refine j_sub [(0, .ref (h0 0)), (2, .int x2_34)] [1, 0] rfl ?_
        exact ih _ _ hF
      · have hF := (if_neg c_36).symm.trans hF
        refine j_aload_n C 0 dX7_layReading_53 rfl rfl ?_
        refine j_get (v := .ref (h0 36)) C 0 35 rfl rfl (Nat.le_of_ble_eq_true rfl) rfl rfl in1_X7 (List.mem_cons_of_mem _ mw_5_11) dX7_layReading_54 ?_
        refine j_iconst (v := (0 : Int32)) C dX7_layReading_57 rfl ?_
        refine j_sipush (v := (2059 : Int32)) C dX7_layReading_58 rfl ?_
        obtain ⟨o0_17, e_16, hF⟩ := glT hF
        refine j_iast C 0 35 rfl rfl (by decide) [(shX7, h0, o0_17)] (by rw [e_16]; rfl) dX7_layReading_61 ?_
        refine j_aload_n C 0 dX7_layReading_62 rfl rfl ?_
        refine j_get (v := .ref (h0 36)) C 0 35 rfl rfl (Nat.le_of_ble_eq_true rfl) rfl rfl in1_X7 (List.mem_cons_of_mem _ mw_5_11) dX7_layReading_63 ?_
        refine j_iconst (v := (1 : Int32)) C dX7_layReading_66 rfl ?_
        refine j_sipush (v := (900 : Int32)) C dX7_layReading_67 rfl ?_
        refine j_iload_n C 1 dX7_layReading_70 rfl rfl ?_
        refine j_iadd C dX7_layReading_71 ?_
        obtain ⟨o0_19, e_18, hF⟩ := glT hF
        refine j_iast C 0 35 rfl rfl (by decide) [(shX7, h0, o0_19)] (by rw [e_18]; rfl) dX7_layReading_72 ?_
        refine j_aload_n C 0 dX7_layReading_73 rfl rfl ?_
        refine j_iconst (v := (2 : Int32)) C dX7_layReading_74 rfl ?_
        obtain ⟨o0_21, e_20, hF⟩ := glT hF
        refine j_putV C tyX7_ok nmX7 0 36 rfl rfl (Nat.le_of_ble_eq_true rfl) rfl in1_X7 (List.mem_cons_of_mem _ mw_36_15) rfl fd_X7_36 rfl rfl [(shX7, h0, o0_21)] (by rw [e_20]; rfl) dX7_layReading_75 ?_
        refine lX7_layReading_78 C h0 x2 _ Rk (fun o0_31 hF => ?_) _ _ hF
        obtain ⟨x2_32, e_33, hF⟩ := glT hF
        refine j_iinc C 1 [(2, .int x2_32), (0, .ref (h0 0))] dX7_layReading_146 rfl e_33.symm (Nat.le_of_ble_eq_true rfl) rfl ?_
        refine j_goto C 39 dX7_layReading_149 rfl ?_
        refine j_sub [(0, .ref (h0 0)), (2, .int x2_32)] [1, 0] rfl ?_
        exact ih _ _ hF
set_option maxRecDepth 100000 in
set_option maxHeartbeats 4000000 in
theorem kX7_layReading (g : Gl) (h0 : Nat → Nat) (x1 : Int32) (o0 : Ob) {o0' : Ob} (hF : FX7_layReading x1 o0 = some o0') : Ctr g yX7_layReading (Cond.code yX7_layReading cX7_layReading 3 none :: wsL_law) 2 44 [(shX7, h0, o0)] [(shX7, h0, o0')] [.ref (h0 0), .int x1] none := by
  refine Ctr.of (cc := cX7_layReading) (maxL := 3) (ret := none) (by decide) rfl (Nat.le_of_ble_eq_true rfl) ?_
  intro X C Rk
  replace C : CxOk g X cX7_layReading RX7 (Cond.code yX7_layReading cX7_layReading 3 none :: wsL_law) 3 2 44 := C
  show J g X [(shX7, h0, o0)] 0 [(0, .ref (h0 0)), (1, .int x1)] []
  unfold FX7_layReading at hF
  refine j_aload_n C 0 dX7_layReading_0 rfl rfl ?_
  refine j_iload_n C 1 dX7_layReading_1 rfl rfl ?_
  obtain ⟨o0_2, e_1, hF⟩ := glT hF
  refine j_putV C tyX7_ok nmX7 0 4 rfl rfl (Nat.le_of_ble_eq_true rfl) rfl in1_X7 (List.mem_cons_of_mem _ mw_5_19) rfl fd_X7_4 rfl rfl [(shX7, h0, o0_2)] (by rw [e_1]; rfl) dX7_layReading_2 ?_
  refine j_aload_n C 0 dX7_layReading_5 rfl rfl ?_
  refine j_iconst (v := (0 : Int32)) C dX7_layReading_6 rfl ?_
  obtain ⟨o0_4, e_3, hF⟩ := glT hF
  refine j_putV C tyX7_ok nmX7 0 34 rfl rfl (Nat.le_of_ble_eq_true rfl) rfl in1_X7 (List.mem_cons_of_mem _ mw_36_13) rfl fd_X7_34 rfl rfl [(shX7, h0, o0_4)] (by rw [e_3]; rfl) dX7_layReading_7 ?_
  refine j_aload_n C 0 dX7_layReading_10 rfl rfl ?_
  refine j_iconst (v := (0 : Int32)) C dX7_layReading_11 rfl ?_
  obtain ⟨o0_6, e_5, hF⟩ := glT hF
  refine j_putV C tyX7_ok nmX7 0 38 rfl rfl (Nat.le_of_ble_eq_true rfl) rfl in1_X7 (List.mem_cons_of_mem _ mw_36_14) rfl fd_X7_38 rfl rfl [(shX7, h0, o0_6)] (by rw [e_5]; rfl) dX7_layReading_12 ?_
  refine j_iconst (v := (0 : Int32)) C dX7_layReading_15 rfl ?_
  refine j_istore_n C [(2, .int (0 : Int32)), (0, .ref (h0 0)), (1, .int x1)] dX7_layReading_16 rfl (Nat.le_of_ble_eq_true rfl) rfl rfl ?_
  refine j_sub [(0, .ref (h0 0)), (2, .int (0 : Int32))] [1, 0] rfl ?_
  refine lX7_layReading_17 C h0  _ Rk (fun o0_13 hF => ?_) _ _ _ hF
  refine j_iconst (v := (0 : Int32)) C dX7_layReading_37 rfl ?_
  refine j_istore_n C [(2, .int (0 : Int32)), (0, .ref (h0 0))] dX7_layReading_38 rfl (Nat.le_of_ble_eq_true rfl) rfl rfl ?_
  refine j_sub [(0, .ref (h0 0)), (2, .int (0 : Int32))] [1, 0] rfl ?_
  refine lX7_layReading_39 C h0  _ Rk (fun o0_38 hF => ?_) _ _ _ hF
  refine j_aload_n C 0 dX7_layReading_152 rfl rfl ?_
  refine j_iconst (v := (0 : Int32)) C dX7_layReading_153 rfl ?_
  obtain ⟨o0_40, e_39, hF⟩ := glT hF
  refine j_putV C tyX7_ok nmX7 0 4 rfl rfl (Nat.le_of_ble_eq_true rfl) rfl in1_X7 (List.mem_cons_of_mem _ mw_5_19) rfl fd_X7_4 rfl rfl [(shX7, h0, o0_40)] (by rw [e_39]; rfl) dX7_layReading_154 ?_
  cases hF
  exact j_vret C Rk dX7_layReading_157
/-! HeadsMeetModel.signAt -/
def FX7_signAt (x1 : Int32) (o0 : Ob) : Option (Int32) :=
  if (oV o0 34) ≤ x1 then
    some (-1 : Int32)
  else
    if inb x1 1000 then
    some (oA o0 33 x1.toNatClampNeg)
    else none
set_option maxRecDepth 100000 in
set_option maxHeartbeats 4000000 in
theorem kX7_signAt (g : Gl) (h0 : Nat → Nat) (x1 : Int32) (o0 : Ob) {r : Int32} (hF : FX7_signAt x1 o0 = some r) : Ctr g yX7_signAt (Cond.code yX7_signAt cX7_signAt 2 (some .int) :: wsL_law) 0 0 [(shX7, h0, o0)] [(shX7, h0, o0)] [.ref (h0 0), .int x1] (some (.int r)) := by
  refine Ctr.of (cc := cX7_signAt) (maxL := 2) (ret := (some .int)) (by decide) rfl (Nat.le_of_ble_eq_true rfl) ?_
  intro X C Rk
  replace C : CxOk g X cX7_signAt RX7 (Cond.code yX7_signAt cX7_signAt 2 (some .int) :: wsL_law) 2 0 0 := C
  show J g X [(shX7, h0, o0)] 0 [(0, .ref (h0 0)), (1, .int x1)] []
  unfold FX7_signAt at hF
  refine j_iload_n C 1 dX7_signAt_0 rfl rfl ?_
  refine j_aload_n C 0 dX7_signAt_1 rfl rfl ?_
  refine j_get (v := .int (oV o0 34)) C 0 34 rfl rfl (Nat.le_of_ble_eq_true rfl) rfl rfl in1_X7 (List.mem_cons_of_mem _ mw_36_13) dX7_signAt_2 ?_
  refine j_icmp_ge C 17 dX7_signAt_5 rfl (fun c_2 => ?_) (fun c_2 => ?_)
  · have hF := (if_pos c_2).symm.trans hF
    refine j_iconst (v := (-1 : Int32)) C dX7_signAt_17 rfl ?_
    cases hF
    exact j_iret C Rk dX7_signAt_18
  · have hF := (if_neg c_2).symm.trans hF
    refine j_aload_n C 0 dX7_signAt_8 rfl rfl ?_
    refine j_get (v := .ref (h0 34)) C 0 33 rfl rfl (Nat.le_of_ble_eq_true rfl) rfl rfl in1_X7 (List.mem_cons_of_mem _ mw_5_10) dX7_signAt_9 ?_
    refine j_iload_n C 1 dX7_signAt_12 rfl rfl ?_
    obtain ⟨z_1, hF⟩ := gi hF
    refine j_iald C 0 33 rfl rfl z_1 dX7_signAt_13 ?_
    refine j_goto C 18 dX7_signAt_14 rfl ?_
    cases hF
    exact j_iret C Rk dX7_signAt_18
/-! HeadsMeetModel.reading -/
def FX7_reading (x1 : Int32) (o0 : Ob) : Option (Int32 × Ob) :=
  b1 (FX7_within x1 (0 : Int32) (999 : Int32)) fun r_1 =>
  if r_1 = 0 then
    some ((-102 : Int32), o0)
  else
    b1 (FX7_isNet o0) fun r_3 =>
    if r_3 = 0 then
      some ((-103 : Int32), o0)
    else
      b1 (FX7_layReading (0 : Int32) o0) fun o0_5 =>
      b1 (FX7_signAt x1 o0_5) fun r_7 =>
      some (r_7, o0_5)
set_option maxRecDepth 100000 in
set_option maxHeartbeats 4000000 in
theorem kX7_reading (g : Gl) (h0 : Nat → Nat) (x1 : Int32) (o0 : Ob) {r : Int32} {o0' : Ob} (hF : FX7_reading x1 o0 = some (r, o0')) : Ctr g yX7_reading (Cond.code yX7_reading cX7_reading 2 (some .int) :: wsL_law) 3 66 [(shX7, h0, o0)] [(shX7, h0, o0')] [.ref (h0 0), .int x1] (some (.int r)) := by
  refine Ctr.of (cc := cX7_reading) (maxL := 2) (ret := (some .int)) (by decide) rfl (Nat.le_of_ble_eq_true rfl) ?_
  intro X C Rk
  replace C : CxOk g X cX7_reading RX7 (Cond.code yX7_reading cX7_reading 2 (some .int) :: wsL_law) 2 3 66 := C
  show J g X [(shX7, h0, o0)] 0 [(0, .ref (h0 0)), (1, .int x1)] []
  unfold FX7_reading at hF
  refine j_iload_n C 1 dX7_reading_0 rfl rfl ?_
  refine j_iconst (v := (0 : Int32)) C dX7_reading_1 rfl ?_
  refine j_sipush (v := (999 : Int32)) C dX7_reading_2 rfl ?_
  obtain ⟨r_1, k_2, hF⟩ := gb1 hF
  refine j_callSi C (os' := [(shX7, h0, o0)]) [.int x1, .int (0 : Int32), .int (999 : Int32)] (kX7_within g x1 (0 : Int32) (999 : Int32) k_2) [] rfl rfl rfl rfl (wl_gS mw_6_18 mw_6_19 mw_1_5 mw_6_20) rfl 3 rfl hd_X7_within ⟨Nat.le_of_ble_eq_true rfl, Nat.le_of_ble_eq_true rfl⟩ (Nat.le_of_ble_eq_true rfl) rfl dX7_reading_5 ?_
  refine j_if_ne C 14 dX7_reading_8 rfl (fun c_10 => ?_) (fun c_10 => ?_)
  · have hF := (if_neg c_10).symm.trans hF
    refine j_aload_n C 0 dX7_reading_14 rfl rfl ?_
    obtain ⟨r_3, k_4, hF⟩ := gb1 hF
    refine j_callVi C (os' := [(shX7, h0, o0)]) [] (kX7_isNet g h0 o0 k_4) [0] rfl rfl rfl rfl 0 rfl rfl (wl_gV mw_30_7 mw_30_8 mw_30_9 mw_1_5 mw_30_10) rfl 0 rfl hd_X7_isNet ⟨Nat.le_of_ble_eq_true rfl, Nat.le_of_ble_eq_true rfl⟩ (Nat.le_of_ble_eq_true rfl) rfl dX7_reading_15 ?_
    refine j_if_ne C 24 dX7_reading_18 rfl (fun c_9 => ?_) (fun c_9 => ?_)
    · have hF := (if_neg c_9).symm.trans hF
      refine j_aload_n C 0 dX7_reading_24 rfl rfl ?_
      refine j_iconst (v := (0 : Int32)) C dX7_reading_25 rfl ?_
      obtain ⟨o0_5, k_6, hF⟩ := gb1 hF
      refine j_callVv C (os' := [(shX7, h0, o0_5)]) [.int (0 : Int32)] (kX7_layReading g h0 (0 : Int32) o0 k_6) [0] rfl rfl rfl rfl 0 rfl rfl (wl_gV mw_36_9 mw_36_10 mw_36_11 mw_1_5 mw_36_12) rfl 1 rfl hd_X7_layReading ⟨Nat.le_of_ble_eq_true rfl, Nat.le_of_ble_eq_true rfl⟩ (Nat.le_of_ble_eq_true rfl) rfl dX7_reading_26 ?_
      refine j_aload_n C 0 dX7_reading_29 rfl rfl ?_
      refine j_iload_n C 1 dX7_reading_30 rfl rfl ?_
      obtain ⟨r_7, k_8, hF⟩ := gb1 hF
      refine j_callVi C (os' := [(shX7, h0, o0_5)]) [.int x1] (kX7_signAt g h0 x1 o0_5 k_8) [0] rfl rfl rfl rfl 0 rfl rfl (wl_gV mw_37_0 mw_37_1 mw_37_2 mw_1_5 mw_37_3) rfl 1 rfl hd_X7_signAt ⟨Nat.le_of_ble_eq_true rfl, Nat.le_of_ble_eq_true rfl⟩ (Nat.le_of_ble_eq_true rfl) rfl dX7_reading_31 ?_
      cases hF
      exact j_iret C Rk dX7_reading_34
    · have hF := (if_pos c_9).symm.trans hF
      refine j_bipush (v := (-103 : Int32)) C dX7_reading_21 rfl ?_
      cases hF
      exact j_iret C Rk dX7_reading_23
  · have hF := (if_pos c_10).symm.trans hF
    refine j_bipush (v := (-102 : Int32)) C dX7_reading_11 rfl ?_
    cases hF
    exact j_iret C Rk dX7_reading_13
/-! HeadsMeetModel.endReading -/
def FX7_endReading (x1 : Int32) (o0 : Ob) : Option (Int32 × Ob) :=
  b1 (FX7_within x1 (0 : Int32) (999 : Int32)) fun r_1 =>
  if r_1 = 0 then
    some ((-102 : Int32), o0)
  else
    b1 (FX7_isNet o0) fun r_3 =>
    if r_3 = 0 then
      some ((-103 : Int32), o0)
    else
      b2 (FX7_layEnding (0 : Int32) o0) fun r_5 o0_6 =>
      if r_5 = 0 then
        some ((-2 : Int32), o0_6)
      else
        b1 (FX7_layReading (2 : Int32) o0_6) fun o0_8 =>
        b1 (FX7_signAt x1 o0_8) fun r_10 =>
        some (r_10, o0_8)
set_option maxRecDepth 100000 in
set_option maxHeartbeats 4000000 in
theorem kX7_endReading (g : Gl) (h0 : Nat → Nat) (x1 : Int32) (o0 : Ob) {r : Int32} {o0' : Ob} (hF : FX7_endReading x1 o0 = some (r, o0')) : Ctr g yX7_endReading (Cond.code yX7_endReading cX7_endReading 2 (some .int) :: wsL_law) 5 116 [(shX7, h0, o0)] [(shX7, h0, o0')] [.ref (h0 0), .int x1] (some (.int r)) := by
  refine Ctr.of (cc := cX7_endReading) (maxL := 2) (ret := (some .int)) (by decide) rfl (Nat.le_of_ble_eq_true rfl) ?_
  intro X C Rk
  replace C : CxOk g X cX7_endReading RX7 (Cond.code yX7_endReading cX7_endReading 2 (some .int) :: wsL_law) 2 5 116 := C
  show J g X [(shX7, h0, o0)] 0 [(0, .ref (h0 0)), (1, .int x1)] []
  unfold FX7_endReading at hF
  refine j_iload_n C 1 dX7_endReading_0 rfl rfl ?_
  refine j_iconst (v := (0 : Int32)) C dX7_endReading_1 rfl ?_
  refine j_sipush (v := (999 : Int32)) C dX7_endReading_2 rfl ?_
  obtain ⟨r_1, k_2, hF⟩ := gb1 hF
  refine j_callSi C (os' := [(shX7, h0, o0)]) [.int x1, .int (0 : Int32), .int (999 : Int32)] (kX7_within g x1 (0 : Int32) (999 : Int32) k_2) [] rfl rfl rfl rfl (wl_gS mw_6_18 mw_6_19 mw_1_5 mw_6_20) rfl 3 rfl hd_X7_within ⟨Nat.le_of_ble_eq_true rfl, Nat.le_of_ble_eq_true rfl⟩ (Nat.le_of_ble_eq_true rfl) rfl dX7_endReading_5 ?_
  refine j_if_ne C 14 dX7_endReading_8 rfl (fun c_14 => ?_) (fun c_14 => ?_)
  · have hF := (if_neg c_14).symm.trans hF
    refine j_aload_n C 0 dX7_endReading_14 rfl rfl ?_
    obtain ⟨r_3, k_4, hF⟩ := gb1 hF
    refine j_callVi C (os' := [(shX7, h0, o0)]) [] (kX7_isNet g h0 o0 k_4) [0] rfl rfl rfl rfl 0 rfl rfl (wl_gV mw_30_7 mw_30_8 mw_30_9 mw_1_5 mw_30_10) rfl 0 rfl hd_X7_isNet ⟨Nat.le_of_ble_eq_true rfl, Nat.le_of_ble_eq_true rfl⟩ (Nat.le_of_ble_eq_true rfl) rfl dX7_endReading_15 ?_
    refine j_if_ne C 24 dX7_endReading_18 rfl (fun c_13 => ?_) (fun c_13 => ?_)
    · have hF := (if_neg c_13).symm.trans hF
      refine j_aload_n C 0 dX7_endReading_24 rfl rfl ?_
      refine j_iconst (v := (0 : Int32)) C dX7_endReading_25 rfl ?_
      obtain ⟨r_5, o0_6, k_7, hF⟩ := gb2 hF
      refine j_callVi C (os' := [(shX7, h0, o0_6)]) [.int (0 : Int32)] (kX7_layEnding g h0 (0 : Int32) o0 k_7) [0] rfl rfl rfl rfl 0 rfl rfl (wl_gV mw_25_13 mw_25_14 mw_25_15 mw_1_5 mw_25_16) rfl 1 rfl hd_X7_layEnding ⟨Nat.le_of_ble_eq_true rfl, Nat.le_of_ble_eq_true rfl⟩ (Nat.le_of_ble_eq_true rfl) rfl dX7_endReading_26 ?_
      refine j_if_ne C 35 dX7_endReading_29 rfl (fun c_12 => ?_) (fun c_12 => ?_)
      · have hF := (if_neg c_12).symm.trans hF
        refine j_aload_n C 0 dX7_endReading_35 rfl rfl ?_
        refine j_iconst (v := (2 : Int32)) C dX7_endReading_36 rfl ?_
        obtain ⟨o0_8, k_9, hF⟩ := gb1 hF
        refine j_callVv C (os' := [(shX7, h0, o0_8)]) [.int (2 : Int32)] (kX7_layReading g h0 (2 : Int32) o0_6 k_9) [0] rfl rfl rfl rfl 0 rfl rfl (wl_gV mw_36_9 mw_36_10 mw_36_11 mw_1_5 mw_36_12) rfl 1 rfl hd_X7_layReading ⟨Nat.le_of_ble_eq_true rfl, Nat.le_of_ble_eq_true rfl⟩ (Nat.le_of_ble_eq_true rfl) rfl dX7_endReading_37 ?_
        refine j_aload_n C 0 dX7_endReading_40 rfl rfl ?_
        refine j_iload_n C 1 dX7_endReading_41 rfl rfl ?_
        obtain ⟨r_10, k_11, hF⟩ := gb1 hF
        refine j_callVi C (os' := [(shX7, h0, o0_8)]) [.int x1] (kX7_signAt g h0 x1 o0_8 k_11) [0] rfl rfl rfl rfl 0 rfl rfl (wl_gV mw_37_0 mw_37_1 mw_37_2 mw_1_5 mw_37_3) rfl 1 rfl hd_X7_signAt ⟨Nat.le_of_ble_eq_true rfl, Nat.le_of_ble_eq_true rfl⟩ (Nat.le_of_ble_eq_true rfl) rfl dX7_endReading_42 ?_
        cases hF
        exact j_iret C Rk dX7_endReading_45
      · have hF := (if_pos c_12).symm.trans hF
        refine j_bipush (v := (-2 : Int32)) C dX7_endReading_32 rfl ?_
        cases hF
        exact j_iret C Rk dX7_endReading_34
    · have hF := (if_pos c_13).symm.trans hF
      refine j_bipush (v := (-103 : Int32)) C dX7_endReading_21 rfl ?_
      cases hF
      exact j_iret C Rk dX7_endReading_23
  · have hF := (if_pos c_14).symm.trans hF
    refine j_bipush (v := (-102 : Int32)) C dX7_endReading_11 rfl ?_
    cases hF
    exact j_iret C Rk dX7_endReading_13
/-! HeadsMeetModel.same -/
def LX7_same_51 (x1 : Int32) (x2 : Int32) (E81 : Ob → Option (Int32 × Ob)) : Nat → Int32 → Ob → Option (Int32 × Ob)
  | 0, _, _ => none
  | n + 1, x3, o0 =>
    if x1 ≤ x3 then
      E81 o0
    else
      if (1000 : Int32) ≤ x3 then
        E81 o0
      else
        if inb x3 1000 then
        lT (sA o0 39 x3.toNatClampNeg (oA o0 33 x3.toNatClampNeg)) fun o0_12 =>
        lT (x3 + (1 : Int32)) fun x3_13 =>
        LX7_same_51 x1 x2 E81 n x3_13 o0_12
        else none
def LX7_same_124 (x1 : Int32) (o0 : Ob) (E163 : Int32 → Option (Int32 × Ob)) : Nat → Int32 → Int32 → Option (Int32 × Ob)
  | 0, _, _ => none
  | n + 1, x3, x4 =>
    if x1 ≤ x4 then
      E163 x3
    else
      if x3 = 0 then
        E163 x3
      else
        if inb x4 1000 then
        if (oA o0 33 x4.toNatClampNeg) = (oA o0 39 x4.toNatClampNeg) then
          lT (x4 + (1 : Int32)) fun x4_24 =>
          LX7_same_124 x1 o0 E163 n (1 : Int32) x4_24
        else
          lT (x4 + (1 : Int32)) fun x4_26 =>
          LX7_same_124 x1 o0 E163 n (0 : Int32) x4_26
        else none
def BX7_same_193 (E166 : Int32 → Int32 → Option (Int32 × Ob)) (x4 : Int32) (y0 : Int32) (o0 : Ob) : Option (Int32 × Ob) :=
  if inb ((8 : Int32) + x4) 32 then
  if (oA o0 2 ((8 : Int32) + x4).toNatClampNeg) = (-1 : Int32) then
    if y0 = (1 : Int32) then
      lT (x4 + (1 : Int32)) fun x4_34 =>
      E166 (1 : Int32) x4_34
    else
      lT (x4 + (1 : Int32)) fun x4_36 =>
      E166 (0 : Int32) x4_36
  else
    if y0 = (0 : Int32) then
      lT (x4 + (1 : Int32)) fun x4_39 =>
      E166 (1 : Int32) x4_39
    else
      lT (x4 + (1 : Int32)) fun x4_41 =>
      E166 (0 : Int32) x4_41
  else none
def LX7_same_166 (o0 : Ob) (E227 : Int32 → Option (Int32 × Ob)) : Nat → Int32 → Int32 → Option (Int32 × Ob)
  | 0, _, _ => none
  | n + 1, x3, x4 =>
    if (8 : Int32) ≤ x4 then
      E227 x3
    else
      if x3 = 0 then
        lT (x4 + (1 : Int32)) fun x4_46 =>
        LX7_same_166 o0 E227 n (0 : Int32) x4_46
      else
        if inb x4 32 then
        if (oA o0 2 x4.toNatClampNeg) = (-1 : Int32) then
          BX7_same_193 (LX7_same_166 o0 E227 n) x4 (1 : Int32) o0
        else
          BX7_same_193 (LX7_same_166 o0 E227 n) x4 (0 : Int32) o0
        else none
def BX7_same_81 (x1 : Int32) (x2 : Int32) (o0 : Ob) : Option (Int32 × Ob) :=
  b2 (FX7_layEnding (1 : Int32) o0) fun r_18 o0_19 =>
  if r_18 = 0 then
    some ((-2 : Int32), o0_19)
  else
    b1 (FX7_layReading (2 : Int32) o0_19) fun o0_21 =>
    if x1 = (oV o0_21 34) then
      if x2 = (oA o0_21 3 (2 : Int32).toNatClampNeg) then
        LX7_same_124 x1 o0_21 (fun x3_31 =>
         LX7_same_166 o0_21 (fun x3_50 =>
          if x3_50 = 0 then
          some ((0 : Int32), o0_21)
          else
          some ((1 : Int32), o0_21)) fu x3_31 (0 : Int32)) fu (1 : Int32) (0 : Int32)
      else
        LX7_same_124 x1 o0_21 (fun x3_52 =>
         LX7_same_166 o0_21 (fun x3_53 =>
          if x3_53 = 0 then
          some ((0 : Int32), o0_21)
          else
          some ((1 : Int32), o0_21)) fu x3_52 (0 : Int32)) fu (0 : Int32) (0 : Int32)
    else
      LX7_same_124 x1 o0_21 (fun x3_56 =>
       LX7_same_166 o0_21 (fun x3_57 =>
        if x3_57 = 0 then
        some ((0 : Int32), o0_21)
        else
        some ((1 : Int32), o0_21)) fu x3_56 (0 : Int32)) fu (0 : Int32) (0 : Int32)
def FX7_same  (o0 : Ob) : Option (Int32 × Ob) :=
  if (oV o0 42) = 0 then
    some ((-103 : Int32), o0)
  else
    if (oV o0 43) = (oV o0 5) then
      b2 (FX7_layEnding (0 : Int32) o0) fun r_1 o0_2 =>
      if r_1 = 0 then
        some ((-2 : Int32), o0_2)
      else
        b1 (FX7_layReading (2 : Int32) o0_2) fun o0_4 =>
        lT (oV o0_4 34) fun x1_6 =>
        lT (oA o0_4 3 (2 : Int32).toNatClampNeg) fun x2_8 =>
        LX7_same_51 x1_6 x2_8 (fun o0_17 =>
         BX7_same_81 x1_6 x2_8 o0_17) fu (0 : Int32) o0_4
    else
      some ((-103 : Int32), o0)
set_option maxRecDepth 100000 in
set_option maxHeartbeats 4000000 in
theorem lX7_same_51 {g : Gl} {X : Cxt} (C : CxOk g X cX7_same RX7 (Cond.code yX7_same cX7_same 5 (some .int) :: wsL_law) 5 5 116) {r : Int32} {o0' : Ob} (h0 : Nat → Nat) (x1 : Int32) (x2 : Int32) (E81 : Ob → Option (Int32 × Ob)) (Rk : RetOk g X [(shX7, h0, o0')] (some (.int r)) (some .int)) (hE81 : ∀ (o0 : Ob), E81 o0 = some (r, o0') → J g X [(shX7, h0, o0)] 81 [(0, .ref (h0 0)), (1, .int x1), (2, .int x2)] []) : ∀ (n : Nat) (x3 : Int32) (o0 : Ob), LX7_same_51 x1 x2 E81 n x3 o0 = some (r, o0') → J g X [(shX7, h0, o0)] 51 [(0, .ref (h0 0)), (1, .int x1), (2, .int x2), (3, .int x3)] [] := by
  intro n
  induction n with
  | zero =>
    intro x3 o0 hF
    cases hF
  | succ n ih =>
    intro x3 o0 hF
    rw [LX7_same_51.eq_2] at hF
    refine j_iload_n C 3 dX7_same_51 rfl rfl ?_
    refine j_iload_n C 1 dX7_same_52 rfl rfl ?_
    refine j_icmp_ge C 81 dX7_same_53 rfl (fun c_16 => ?_) (fun c_16 => ?_)
    · have hF := (if_pos c_16).symm.trans hF
      refine j_sub [(0, .ref (h0 0)), (1, .int x1), (2, .int x2)] [0, 1, 2] rfl ?_
      exact hE81 _ hF
    · have hF := (if_neg c_16).symm.trans hF
      refine j_iload_n C 3 dX7_same_56 rfl rfl ?_
      refine j_sipush (v := (1000 : Int32)) C dX7_same_57 rfl ?_
      refine j_icmp_ge C 81 dX7_same_60 rfl (fun c_15 => ?_) (fun c_15 => ?_)
      · have hF := (if_pos c_15).symm.trans hF
        refine j_sub [(0, .ref (h0 0)), (1, .int x1), (2, .int x2)] [0, 1, 2] rfl ?_
        exact hE81 _ hF
      · have hF := (if_neg c_15).symm.trans hF
        refine j_aload_n C 0 dX7_same_63 rfl rfl ?_
        refine j_get (v := .ref (h0 40)) C 0 39 rfl rfl (Nat.le_of_ble_eq_true rfl) rfl rfl in1_X7 (List.mem_cons_of_mem _ mw_5_13) dX7_same_64 ?_
        refine j_iload_n C 3 dX7_same_67 rfl rfl ?_
        refine j_aload_n C 0 dX7_same_68 rfl rfl ?_
        refine j_get (v := .ref (h0 34)) C 0 33 rfl rfl (Nat.le_of_ble_eq_true rfl) rfl rfl in1_X7 (List.mem_cons_of_mem _ mw_5_10) dX7_same_69 ?_
        refine j_iload_n C 3 dX7_same_72 rfl rfl ?_
        obtain ⟨z_10, hF⟩ := gi hF
        refine j_iald C 0 33 rfl rfl z_10 dX7_same_73 ?_
        obtain ⟨o0_12, e_11, hF⟩ := glT hF
        refine j_iast C 0 39 rfl rfl z_10 [(shX7, h0, o0_12)] (by rw [e_11]; rfl) dX7_same_74 ?_
        obtain ⟨x3_13, e_14, hF⟩ := glT hF
        refine j_iinc C 3 [(3, .int x3_13), (0, .ref (h0 0)), (1, .int x1), (2, .int x2)] dX7_same_75 rfl e_14.symm (Nat.le_of_ble_eq_true rfl) rfl ?_
        refine j_goto C 51 dX7_same_78 rfl ?_
        refine j_sub [(0, .ref (h0 0)), (1, .int x1), (2, .int x2), (3, .int x3_13)] [1, 2, 3, 0] rfl ?_
        exact ih _ _ hF
set_option maxRecDepth 100000 in
set_option maxHeartbeats 4000000 in
theorem lX7_same_124 {g : Gl} {X : Cxt} (C : CxOk g X cX7_same RX7 (Cond.code yX7_same cX7_same 5 (some .int) :: wsL_law) 5 5 116) {r : Int32} {o0' : Ob} (h0 : Nat → Nat) (x1 : Int32) (o0 : Ob) (E163 : Int32 → Option (Int32 × Ob)) (Rk : RetOk g X [(shX7, h0, o0')] (some (.int r)) (some .int)) (hE163 : ∀ (x3 : Int32), E163 x3 = some (r, o0') → J g X [(shX7, h0, o0)] 163 [(0, .ref (h0 0)), (3, .int x3)] []) : ∀ (n : Nat) (x3 : Int32) (x4 : Int32), LX7_same_124 x1 o0 E163 n x3 x4 = some (r, o0') → J g X [(shX7, h0, o0)] 124 [(0, .ref (h0 0)), (1, .int x1), (3, .int x3), (4, .int x4)] [] := by
  intro n
  induction n with
  | zero =>
    intro x3 x4 hF
    cases hF
  | succ n ih =>
    intro x3 x4 hF
    rw [LX7_same_124.eq_2] at hF
    refine j_iload C 3 dX7_same_124 rfl ?_
    refine j_iload_n C 1 dX7_same_126 rfl rfl ?_
    refine j_icmp_ge C 163 dX7_same_127 rfl (fun c_30 => ?_) (fun c_30 => ?_)
    · have hF := (if_pos c_30).symm.trans hF
      refine j_sub [(0, .ref (h0 0)), (3, .int x3)] [0, 2] rfl ?_
      exact hE163 _ hF
    · have hF := (if_neg c_30).symm.trans hF
      refine j_iload_n C 2 dX7_same_130 rfl rfl ?_
      refine j_if_eq C 163 dX7_same_131 rfl (fun c_29 => ?_) (fun c_29 => ?_)
      · have hF := (if_pos c_29).symm.trans hF
        refine j_sub [(0, .ref (h0 0)), (3, .int x3)] [0, 2] rfl ?_
        exact hE163 _ hF
      · have hF := (if_neg c_29).symm.trans hF
        refine j_aload_n C 0 dX7_same_134 rfl rfl ?_
        refine j_get (v := .ref (h0 34)) C 0 33 rfl rfl (Nat.le_of_ble_eq_true rfl) rfl rfl in1_X7 (List.mem_cons_of_mem _ mw_5_10) dX7_same_135 ?_
        refine j_iload C 3 dX7_same_138 rfl ?_
        obtain ⟨z_23, hF⟩ := gi hF
        refine j_iald C 0 33 rfl rfl z_23 dX7_same_140 ?_
        refine j_aload_n C 0 dX7_same_141 rfl rfl ?_
        refine j_get (v := .ref (h0 40)) C 0 39 rfl rfl (Nat.le_of_ble_eq_true rfl) rfl rfl in1_X7 (List.mem_cons_of_mem _ mw_5_13) dX7_same_142 ?_
        refine j_iload C 3 dX7_same_145 rfl ?_
        refine j_iald C 0 39 rfl rfl z_23 dX7_same_147 ?_
        refine j_icmp_ne C 155 dX7_same_148 rfl (fun c_28 => ?_) (fun c_28 => ?_)
        · have hF := (if_neg c_28).symm.trans hF
          refine j_iconst (v := (0 : Int32)) C dX7_same_155 rfl ?_
          refine j_istore_n C [(3, .int (0 : Int32)), (0, .ref (h0 0)), (1, .int x1), (4, .int x4)] dX7_same_156 rfl (Nat.le_of_ble_eq_true rfl) rfl rfl ?_
          obtain ⟨x4_26, e_27, hF⟩ := glT hF
          refine j_iinc C 3 [(4, .int x4_26), (3, .int (0 : Int32)), (0, .ref (h0 0)), (1, .int x1)] dX7_same_157 rfl e_27.symm (Nat.le_of_ble_eq_true rfl) rfl ?_
          refine j_goto C 124 dX7_same_160 rfl ?_
          refine j_sub [(0, .ref (h0 0)), (1, .int x1), (3, .int (0 : Int32)), (4, .int x4_26)] [2, 3, 1, 0] rfl ?_
          exact ih _ _ hF
        · have hF := (if_pos c_28).symm.trans hF
          refine j_iconst (v := (1 : Int32)) C dX7_same_151 rfl ?_
          refine j_goto C 156 dX7_same_152 rfl ?_
          refine j_istore_n C [(3, .int (1 : Int32)), (0, .ref (h0 0)), (1, .int x1), (4, .int x4)] dX7_same_156 rfl (Nat.le_of_ble_eq_true rfl) rfl rfl ?_
          obtain ⟨x4_24, e_25, hF⟩ := glT hF
          refine j_iinc C 3 [(4, .int x4_24), (3, .int (1 : Int32)), (0, .ref (h0 0)), (1, .int x1)] dX7_same_157 rfl e_25.symm (Nat.le_of_ble_eq_true rfl) rfl ?_
          refine j_goto C 124 dX7_same_160 rfl ?_
          refine j_sub [(0, .ref (h0 0)), (1, .int x1), (3, .int (1 : Int32)), (4, .int x4_24)] [2, 3, 1, 0] rfl ?_
          exact ih _ _ hF
set_option maxRecDepth 100000 in
set_option maxHeartbeats 4000000 in
theorem bX7_same_193 {g : Gl} {X : Cxt} (C : CxOk g X cX7_same RX7 (Cond.code yX7_same cX7_same 5 (some .int) :: wsL_law) 5 5 116) {r : Int32} {o0' : Ob} (h0 : Nat → Nat) (x4 : Int32) (y0 : Int32) (o0 : Ob) (E166 : Int32 → Int32 → Option (Int32 × Ob)) (Rk : RetOk g X [(shX7, h0, o0')] (some (.int r)) (some .int)) (hE166 : ∀ (x3 : Int32) (x4 : Int32), E166 x3 x4 = some (r, o0') → J g X [(shX7, h0, o0)] 166 [(0, .ref (h0 0)), (3, .int x3), (4, .int x4)] []) (hF : BX7_same_193 E166 x4 y0 o0 = some (r, o0')) : J g X [(shX7, h0, o0)] 193 [(0, .ref (h0 0)), (4, .int x4)] [.int y0] := by
  unfold BX7_same_193 at hF
  refine j_aload_n C 0 dX7_same_193 rfl rfl ?_
  refine j_get (v := .ref (h0 3)) C 0 2 rfl rfl (Nat.le_of_ble_eq_true rfl) rfl rfl in1_X7 (List.mem_cons_of_mem _ mw_4_12) dX7_same_194 ?_
  refine j_bipush (v := (8 : Int32)) C dX7_same_197 rfl ?_
  refine j_iload C 1 dX7_same_199 rfl ?_
  refine j_iadd C dX7_same_201 ?_
  obtain ⟨z_33, hF⟩ := gi hF
  refine j_iald C 0 2 rfl rfl z_33 dX7_same_202 ?_
  refine j_iconst (v := (-1 : Int32)) C dX7_same_203 rfl ?_
  refine j_icmp_ne C 211 dX7_same_204 rfl (fun c_44 => ?_) (fun c_44 => ?_)
  · have hF := (if_neg c_44).symm.trans hF
    refine j_iconst (v := (0 : Int32)) C dX7_same_211 rfl ?_
    refine j_icmp_ne C 219 dX7_same_212 rfl (fun c_43 => ?_) (fun c_43 => ?_)
    · have hF := (if_neg c_43).symm.trans hF
      refine j_iconst (v := (0 : Int32)) C dX7_same_219 rfl ?_
      refine j_istore_n C [(3, .int (0 : Int32)), (0, .ref (h0 0)), (4, .int x4)] dX7_same_220 rfl (Nat.le_of_ble_eq_true rfl) rfl rfl ?_
      obtain ⟨x4_41, e_42, hF⟩ := glT hF
      refine j_iinc C 2 [(4, .int x4_41), (3, .int (0 : Int32)), (0, .ref (h0 0))] dX7_same_221 rfl e_42.symm (Nat.le_of_ble_eq_true rfl) rfl ?_
      refine j_goto C 166 dX7_same_224 rfl ?_
      refine j_sub [(0, .ref (h0 0)), (3, .int (0 : Int32)), (4, .int x4_41)] [2, 1, 0] rfl ?_
      exact hE166 _ _ hF
    · have hF := (if_pos c_43).symm.trans hF
      refine j_iconst (v := (1 : Int32)) C dX7_same_215 rfl ?_
      refine j_goto C 220 dX7_same_216 rfl ?_
      refine j_istore_n C [(3, .int (1 : Int32)), (0, .ref (h0 0)), (4, .int x4)] dX7_same_220 rfl (Nat.le_of_ble_eq_true rfl) rfl rfl ?_
      obtain ⟨x4_39, e_40, hF⟩ := glT hF
      refine j_iinc C 2 [(4, .int x4_39), (3, .int (1 : Int32)), (0, .ref (h0 0))] dX7_same_221 rfl e_40.symm (Nat.le_of_ble_eq_true rfl) rfl ?_
      refine j_goto C 166 dX7_same_224 rfl ?_
      refine j_sub [(0, .ref (h0 0)), (3, .int (1 : Int32)), (4, .int x4_39)] [2, 1, 0] rfl ?_
      exact hE166 _ _ hF
  · have hF := (if_pos c_44).symm.trans hF
    refine j_iconst (v := (1 : Int32)) C dX7_same_207 rfl ?_
    refine j_goto C 212 dX7_same_208 rfl ?_
    refine j_icmp_ne C 219 dX7_same_212 rfl (fun c_38 => ?_) (fun c_38 => ?_)
    · have hF := (if_neg c_38).symm.trans hF
      refine j_iconst (v := (0 : Int32)) C dX7_same_219 rfl ?_
      refine j_istore_n C [(3, .int (0 : Int32)), (0, .ref (h0 0)), (4, .int x4)] dX7_same_220 rfl (Nat.le_of_ble_eq_true rfl) rfl rfl ?_
      obtain ⟨x4_36, e_37, hF⟩ := glT hF
      refine j_iinc C 2 [(4, .int x4_36), (3, .int (0 : Int32)), (0, .ref (h0 0))] dX7_same_221 rfl e_37.symm (Nat.le_of_ble_eq_true rfl) rfl ?_
      refine j_goto C 166 dX7_same_224 rfl ?_
      refine j_sub [(0, .ref (h0 0)), (3, .int (0 : Int32)), (4, .int x4_36)] [2, 1, 0] rfl ?_
      exact hE166 _ _ hF
    · have hF := (if_pos c_38).symm.trans hF
      refine j_iconst (v := (1 : Int32)) C dX7_same_215 rfl ?_
      refine j_goto C 220 dX7_same_216 rfl ?_
      refine j_istore_n C [(3, .int (1 : Int32)), (0, .ref (h0 0)), (4, .int x4)] dX7_same_220 rfl (Nat.le_of_ble_eq_true rfl) rfl rfl ?_
      obtain ⟨x4_34, e_35, hF⟩ := glT hF
      refine j_iinc C 2 [(4, .int x4_34), (3, .int (1 : Int32)), (0, .ref (h0 0))] dX7_same_221 rfl e_35.symm (Nat.le_of_ble_eq_true rfl) rfl ?_
      refine j_goto C 166 dX7_same_224 rfl ?_
      refine j_sub [(0, .ref (h0 0)), (3, .int (1 : Int32)), (4, .int x4_34)] [2, 1, 0] rfl ?_
      exact hE166 _ _ hF
set_option maxRecDepth 100000 in
set_option maxHeartbeats 4000000 in
theorem lX7_same_166 {g : Gl} {X : Cxt} (C : CxOk g X cX7_same RX7 (Cond.code yX7_same cX7_same 5 (some .int) :: wsL_law) 5 5 116) {r : Int32} {o0' : Ob} (h0 : Nat → Nat) (o0 : Ob) (E227 : Int32 → Option (Int32 × Ob)) (Rk : RetOk g X [(shX7, h0, o0')] (some (.int r)) (some .int)) (hE227 : ∀ (x3 : Int32), E227 x3 = some (r, o0') → J g X [(shX7, h0, o0)] 227 [(3, .int x3)] []) : ∀ (n : Nat) (x3 : Int32) (x4 : Int32), LX7_same_166 o0 E227 n x3 x4 = some (r, o0') → J g X [(shX7, h0, o0)] 166 [(0, .ref (h0 0)), (3, .int x3), (4, .int x4)] [] := by
  intro n
  induction n with
  | zero =>
    intro x3 x4 hF
    cases hF
  | succ n ih =>
    intro x3 x4 hF
    rw [LX7_same_166.eq_2] at hF
    refine j_iload C 2 dX7_same_166 rfl ?_
    refine j_bipush (v := (8 : Int32)) C dX7_same_168 rfl ?_
    refine j_icmp_ge C 227 dX7_same_170 rfl (fun c_49 => ?_) (fun c_49 => ?_)
    · have hF := (if_pos c_49).symm.trans hF
      refine j_sub [(3, .int x3)] [1] rfl ?_
      exact hE227 _ hF
    · have hF := (if_neg c_49).symm.trans hF
      refine j_iload_n C 1 dX7_same_173 rfl rfl ?_
      refine j_if_eq C 219 dX7_same_174 rfl (fun c_48 => ?_) (fun c_48 => ?_)
      · have hF := (if_pos c_48).symm.trans hF
        refine j_iconst (v := (0 : Int32)) C dX7_same_219 rfl ?_
        refine j_istore_n C [(3, .int (0 : Int32)), (0, .ref (h0 0)), (4, .int x4)] dX7_same_220 rfl (Nat.le_of_ble_eq_true rfl) rfl rfl ?_
        obtain ⟨x4_46, e_47, hF⟩ := glT hF
        refine j_iinc C 2 [(4, .int x4_46), (3, .int (0 : Int32)), (0, .ref (h0 0))] dX7_same_221 rfl e_47.symm (Nat.le_of_ble_eq_true rfl) rfl ?_
        refine j_goto C 166 dX7_same_224 rfl ?_
        refine j_sub [(0, .ref (h0 0)), (3, .int (0 : Int32)), (4, .int x4_46)] [2, 1, 0] rfl ?_
        exact ih _ _ hF
      · have hF := (if_neg c_48).symm.trans hF
        refine j_aload_n C 0 dX7_same_177 rfl rfl ?_
        refine j_get (v := .ref (h0 3)) C 0 2 rfl rfl (Nat.le_of_ble_eq_true rfl) rfl rfl in1_X7 (List.mem_cons_of_mem _ mw_4_12) dX7_same_178 ?_
        refine j_iload C 2 dX7_same_181 rfl ?_
        obtain ⟨z_32, hF⟩ := gi hF
        refine j_iald C 0 2 rfl rfl z_32 dX7_same_183 ?_
        refine j_iconst (v := (-1 : Int32)) C dX7_same_184 rfl ?_
        refine j_icmp_ne C 192 dX7_same_185 rfl (fun c_45 => ?_) (fun c_45 => ?_)
        · have hF := (if_neg c_45).symm.trans hF
          refine j_iconst (v := (0 : Int32)) C dX7_same_192 rfl ?_
          refine j_sub [(0, .ref (h0 0)), (4, .int x4)] [0, 2] rfl ?_
          exact bX7_same_193 C h0 _ _ _ _ Rk ih hF
        · have hF := (if_pos c_45).symm.trans hF
          refine j_iconst (v := (1 : Int32)) C dX7_same_188 rfl ?_
          refine j_goto C 193 dX7_same_189 rfl ?_
          refine j_sub [(0, .ref (h0 0)), (4, .int x4)] [0, 2] rfl ?_
          exact bX7_same_193 C h0 _ _ _ _ Rk ih hF
set_option maxRecDepth 100000 in
set_option maxHeartbeats 4000000 in
theorem bX7_same_81 {g : Gl} {X : Cxt} (C : CxOk g X cX7_same RX7 (Cond.code yX7_same cX7_same 5 (some .int) :: wsL_law) 5 5 116) {r : Int32} {o0' : Ob} (h0 : Nat → Nat) (x1 : Int32) (x2 : Int32) (o0 : Ob)  (Rk : RetOk g X [(shX7, h0, o0')] (some (.int r)) (some .int))  (hF : BX7_same_81  x1 x2 o0 = some (r, o0')) : J g X [(shX7, h0, o0)] 81 [(0, .ref (h0 0)), (1, .int x1), (2, .int x2)] [] := by
  unfold BX7_same_81 at hF
  refine j_aload_n C 0 dX7_same_81 rfl rfl ?_
  refine j_iconst (v := (1 : Int32)) C dX7_same_82 rfl ?_
  obtain ⟨r_18, o0_19, k_20, hF⟩ := gb2 hF
  refine j_callVi C (os' := [(shX7, h0, o0_19)]) [.int (1 : Int32)] (kX7_layEnding g h0 (1 : Int32) o0 k_20) [0] rfl rfl rfl rfl 0 rfl rfl (wl_gV mw_25_13 mw_25_14 mw_25_15 mw_1_5 mw_25_16) rfl 1 rfl hd_X7_layEnding ⟨Nat.le_of_ble_eq_true rfl, Nat.le_of_ble_eq_true rfl⟩ (Nat.le_of_ble_eq_true rfl) rfl dX7_same_83 ?_
  refine j_if_ne C 92 dX7_same_86 rfl (fun c_60 => ?_) (fun c_60 => ?_)
  · have hF := (if_neg c_60).symm.trans hF
    refine j_aload_n C 0 dX7_same_92 rfl rfl ?_
    refine j_iconst (v := (2 : Int32)) C dX7_same_93 rfl ?_
    obtain ⟨o0_21, k_22, hF⟩ := gb1 hF
    refine j_callVv C (os' := [(shX7, h0, o0_21)]) [.int (2 : Int32)] (kX7_layReading g h0 (2 : Int32) o0_19 k_22) [0] rfl rfl rfl rfl 0 rfl rfl (wl_gV mw_36_9 mw_36_10 mw_36_11 mw_1_5 mw_36_12) rfl 1 rfl hd_X7_layReading ⟨Nat.le_of_ble_eq_true rfl, Nat.le_of_ble_eq_true rfl⟩ (Nat.le_of_ble_eq_true rfl) rfl dX7_same_94 ?_
    refine j_iload_n C 1 dX7_same_97 rfl rfl ?_
    refine j_aload_n C 0 dX7_same_98 rfl rfl ?_
    refine j_get (v := .int (oV o0_21 34)) C 0 34 rfl rfl (Nat.le_of_ble_eq_true rfl) rfl rfl in1_X7 (List.mem_cons_of_mem _ mw_36_13) dX7_same_99 ?_
    refine j_icmp_ne C 119 dX7_same_102 rfl (fun c_59 => ?_) (fun c_59 => ?_)
    · have hF := (if_neg c_59).symm.trans hF
      refine j_iconst (v := (0 : Int32)) C dX7_same_119 rfl ?_
      refine j_istore_n C [(3, .int (0 : Int32)), (0, .ref (h0 0)), (1, .int x1), (2, .int x2)] dX7_same_120 rfl (Nat.le_of_ble_eq_true rfl) rfl rfl ?_
      refine j_iconst (v := (0 : Int32)) C dX7_same_121 rfl ?_
      refine j_istore C [(4, .int (0 : Int32)), (3, .int (0 : Int32)), (0, .ref (h0 0)), (1, .int x1), (2, .int x2)] dX7_same_122 (Nat.le_of_ble_eq_true rfl) rfl rfl ?_
      refine j_sub [(0, .ref (h0 0)), (1, .int x1), (3, .int (0 : Int32)), (4, .int (0 : Int32))] [2, 3, 1, 0] rfl ?_
      refine lX7_same_124 C h0 x1 o0_21 _ Rk (fun x3_56 hF => ?_) _ _ _ hF
      refine j_iconst (v := (0 : Int32)) C dX7_same_163 rfl ?_
      refine j_istore C [(4, .int (0 : Int32)), (0, .ref (h0 0)), (3, .int x3_56)] dX7_same_164 (Nat.le_of_ble_eq_true rfl) rfl rfl ?_
      refine j_sub [(0, .ref (h0 0)), (3, .int x3_56), (4, .int (0 : Int32))] [1, 2, 0] rfl ?_
      refine lX7_same_166 C h0 o0_21 _ Rk (fun x3_57 hF => ?_) _ _ _ hF
      refine j_iload_n C 0 dX7_same_227 rfl rfl ?_
      refine j_if_eq C 235 dX7_same_228 rfl (fun c_58 => ?_) (fun c_58 => ?_)
      · have hF := (if_pos c_58).symm.trans hF
        refine j_iconst (v := (0 : Int32)) C dX7_same_235 rfl ?_
        cases hF
        exact j_iret C Rk dX7_same_236
      · have hF := (if_neg c_58).symm.trans hF
        refine j_iconst (v := (1 : Int32)) C dX7_same_231 rfl ?_
        refine j_goto C 236 dX7_same_232 rfl ?_
        cases hF
        exact j_iret C Rk dX7_same_236
    · have hF := (if_pos c_59).symm.trans hF
      refine j_iload_n C 2 dX7_same_105 rfl rfl ?_
      refine j_aload_n C 0 dX7_same_106 rfl rfl ?_
      refine j_get (v := .ref (h0 4)) C 0 3 rfl rfl (Nat.le_of_ble_eq_true rfl) rfl rfl in1_X7 (List.mem_cons_of_mem _ mw_4_13) dX7_same_107 ?_
      refine j_iconst (v := (2 : Int32)) C dX7_same_110 rfl ?_
      refine j_iald C 0 3 rfl rfl (by decide) dX7_same_111 ?_
      refine j_icmp_ne C 119 dX7_same_112 rfl (fun c_55 => ?_) (fun c_55 => ?_)
      · have hF := (if_neg c_55).symm.trans hF
        refine j_iconst (v := (0 : Int32)) C dX7_same_119 rfl ?_
        refine j_istore_n C [(3, .int (0 : Int32)), (0, .ref (h0 0)), (1, .int x1), (2, .int x2)] dX7_same_120 rfl (Nat.le_of_ble_eq_true rfl) rfl rfl ?_
        refine j_iconst (v := (0 : Int32)) C dX7_same_121 rfl ?_
        refine j_istore C [(4, .int (0 : Int32)), (3, .int (0 : Int32)), (0, .ref (h0 0)), (1, .int x1), (2, .int x2)] dX7_same_122 (Nat.le_of_ble_eq_true rfl) rfl rfl ?_
        refine j_sub [(0, .ref (h0 0)), (1, .int x1), (3, .int (0 : Int32)), (4, .int (0 : Int32))] [2, 3, 1, 0] rfl ?_
        refine lX7_same_124 C h0 x1 o0_21 _ Rk (fun x3_52 hF => ?_) _ _ _ hF
        refine j_iconst (v := (0 : Int32)) C dX7_same_163 rfl ?_
        refine j_istore C [(4, .int (0 : Int32)), (0, .ref (h0 0)), (3, .int x3_52)] dX7_same_164 (Nat.le_of_ble_eq_true rfl) rfl rfl ?_
        refine j_sub [(0, .ref (h0 0)), (3, .int x3_52), (4, .int (0 : Int32))] [1, 2, 0] rfl ?_
        refine lX7_same_166 C h0 o0_21 _ Rk (fun x3_53 hF => ?_) _ _ _ hF
        refine j_iload_n C 0 dX7_same_227 rfl rfl ?_
        refine j_if_eq C 235 dX7_same_228 rfl (fun c_54 => ?_) (fun c_54 => ?_)
        · have hF := (if_pos c_54).symm.trans hF
          refine j_iconst (v := (0 : Int32)) C dX7_same_235 rfl ?_
          cases hF
          exact j_iret C Rk dX7_same_236
        · have hF := (if_neg c_54).symm.trans hF
          refine j_iconst (v := (1 : Int32)) C dX7_same_231 rfl ?_
          refine j_goto C 236 dX7_same_232 rfl ?_
          cases hF
          exact j_iret C Rk dX7_same_236
      · have hF := (if_pos c_55).symm.trans hF
        refine j_iconst (v := (1 : Int32)) C dX7_same_115 rfl ?_
        refine j_goto C 120 dX7_same_116 rfl ?_
        refine j_istore_n C [(3, .int (1 : Int32)), (0, .ref (h0 0)), (1, .int x1), (2, .int x2)] dX7_same_120 rfl (Nat.le_of_ble_eq_true rfl) rfl rfl ?_
        refine j_iconst (v := (0 : Int32)) C dX7_same_121 rfl ?_
        refine j_istore C [(4, .int (0 : Int32)), (3, .int (1 : Int32)), (0, .ref (h0 0)), (1, .int x1), (2, .int x2)] dX7_same_122 (Nat.le_of_ble_eq_true rfl) rfl rfl ?_
        refine j_sub [(0, .ref (h0 0)), (1, .int x1), (3, .int (1 : Int32)), (4, .int (0 : Int32))] [2, 3, 1, 0] rfl ?_
        refine lX7_same_124 C h0 x1 o0_21 _ Rk (fun x3_31 hF => ?_) _ _ _ hF
        refine j_iconst (v := (0 : Int32)) C dX7_same_163 rfl ?_
        refine j_istore C [(4, .int (0 : Int32)), (0, .ref (h0 0)), (3, .int x3_31)] dX7_same_164 (Nat.le_of_ble_eq_true rfl) rfl rfl ?_
        refine j_sub [(0, .ref (h0 0)), (3, .int x3_31), (4, .int (0 : Int32))] [1, 2, 0] rfl ?_
        refine lX7_same_166 C h0 o0_21 _ Rk (fun x3_50 hF => ?_) _ _ _ hF
        refine j_iload_n C 0 dX7_same_227 rfl rfl ?_
        refine j_if_eq C 235 dX7_same_228 rfl (fun c_51 => ?_) (fun c_51 => ?_)
        · have hF := (if_pos c_51).symm.trans hF
          refine j_iconst (v := (0 : Int32)) C dX7_same_235 rfl ?_
          cases hF
          exact j_iret C Rk dX7_same_236
        · have hF := (if_neg c_51).symm.trans hF
          refine j_iconst (v := (1 : Int32)) C dX7_same_231 rfl ?_
          refine j_goto C 236 dX7_same_232 rfl ?_
          cases hF
          exact j_iret C Rk dX7_same_236
  · have hF := (if_pos c_60).symm.trans hF
    refine j_bipush (v := (-2 : Int32)) C dX7_same_89 rfl ?_
    cases hF
    exact j_iret C Rk dX7_same_91
set_option maxRecDepth 100000 in
set_option maxHeartbeats 4000000 in
theorem kX7_same (g : Gl) (h0 : Nat → Nat)  (o0 : Ob) {r : Int32} {o0' : Ob} (hF : FX7_same o0 = some (r, o0')) : Ctr g yX7_same (Cond.code yX7_same cX7_same 5 (some .int) :: wsL_law) 5 116 [(shX7, h0, o0)] [(shX7, h0, o0')] [.ref (h0 0)] (some (.int r)) := by
  refine Ctr.of (cc := cX7_same) (maxL := 5) (ret := (some .int)) (by decide) rfl (Nat.le_of_ble_eq_true rfl) ?_
  intro X C Rk
  replace C : CxOk g X cX7_same RX7 (Cond.code yX7_same cX7_same 5 (some .int) :: wsL_law) 5 5 116 := C
  show J g X [(shX7, h0, o0)] 0 [(0, .ref (h0 0))] []
  unfold FX7_same at hF
  refine j_aload_n C 0 dX7_same_0 rfl rfl ?_
  refine j_get (v := .int (oV o0 42)) C 0 42 rfl rfl (Nat.le_of_ble_eq_true rfl) rfl rfl in1_X7 (List.mem_cons_of_mem _ mw_38_6) dX7_same_1 ?_
  refine j_if_eq C 18 dX7_same_4 rfl (fun c_63 => ?_) (fun c_63 => ?_)
  · have hF := (if_pos c_63).symm.trans hF
    refine j_bipush (v := (-103 : Int32)) C dX7_same_18 rfl ?_
    cases hF
    exact j_iret C Rk dX7_same_20
  · have hF := (if_neg c_63).symm.trans hF
    refine j_aload_n C 0 dX7_same_7 rfl rfl ?_
    refine j_get (v := .int (oV o0 43)) C 0 43 rfl rfl (Nat.le_of_ble_eq_true rfl) rfl rfl in1_X7 (List.mem_cons_of_mem _ mw_38_7) dX7_same_8 ?_
    refine j_aload_n C 0 dX7_same_11 rfl rfl ?_
    refine j_get (v := .int (oV o0 5)) C 0 5 rfl rfl (Nat.le_of_ble_eq_true rfl) rfl rfl in1_X7 (List.mem_cons_of_mem _ mw_18_7) dX7_same_12 ?_
    refine j_icmp_eq C 21 dX7_same_15 rfl (fun c_62 => ?_) (fun c_62 => ?_)
    · have hF := (if_pos c_62).symm.trans hF
      refine j_aload_n C 0 dX7_same_21 rfl rfl ?_
      refine j_iconst (v := (0 : Int32)) C dX7_same_22 rfl ?_
      obtain ⟨r_1, o0_2, k_3, hF⟩ := gb2 hF
      refine j_callVi C (os' := [(shX7, h0, o0_2)]) [.int (0 : Int32)] (kX7_layEnding g h0 (0 : Int32) o0 k_3) [0] rfl rfl rfl rfl 0 rfl rfl (wl_gV mw_25_13 mw_25_14 mw_25_15 mw_1_5 mw_25_16) rfl 1 rfl hd_X7_layEnding ⟨Nat.le_of_ble_eq_true rfl, Nat.le_of_ble_eq_true rfl⟩ (Nat.le_of_ble_eq_true rfl) rfl dX7_same_23 ?_
      refine j_if_ne C 32 dX7_same_26 rfl (fun c_61 => ?_) (fun c_61 => ?_)
      · have hF := (if_neg c_61).symm.trans hF
        refine j_aload_n C 0 dX7_same_32 rfl rfl ?_
        refine j_iconst (v := (2 : Int32)) C dX7_same_33 rfl ?_
        obtain ⟨o0_4, k_5, hF⟩ := gb1 hF
        refine j_callVv C (os' := [(shX7, h0, o0_4)]) [.int (2 : Int32)] (kX7_layReading g h0 (2 : Int32) o0_2 k_5) [0] rfl rfl rfl rfl 0 rfl rfl (wl_gV mw_36_9 mw_36_10 mw_36_11 mw_1_5 mw_36_12) rfl 1 rfl hd_X7_layReading ⟨Nat.le_of_ble_eq_true rfl, Nat.le_of_ble_eq_true rfl⟩ (Nat.le_of_ble_eq_true rfl) rfl dX7_same_34 ?_
        refine j_aload_n C 0 dX7_same_37 rfl rfl ?_
        refine j_get (v := .int (oV o0_4 34)) C 0 34 rfl rfl (Nat.le_of_ble_eq_true rfl) rfl rfl in1_X7 (List.mem_cons_of_mem _ mw_36_13) dX7_same_38 ?_
        obtain ⟨x1_6, e_7, hF⟩ := glT hF
        refine j_istore_n C [(1, .int x1_6), (0, .ref (h0 0))] dX7_same_41 rfl (Nat.le_of_ble_eq_true rfl) e_7 rfl ?_
        refine j_aload_n C 1 dX7_same_42 rfl rfl ?_
        refine j_get (v := .ref (h0 4)) C 0 3 rfl rfl (Nat.le_of_ble_eq_true rfl) rfl rfl in1_X7 (List.mem_cons_of_mem _ mw_4_13) dX7_same_43 ?_
        refine j_iconst (v := (2 : Int32)) C dX7_same_46 rfl ?_
        refine j_iald C 0 3 rfl rfl (by decide) dX7_same_47 ?_
        obtain ⟨x2_8, e_9, hF⟩ := glT hF
        refine j_istore_n C [(2, .int x2_8), (1, .int x1_6), (0, .ref (h0 0))] dX7_same_48 rfl (Nat.le_of_ble_eq_true rfl) e_9 rfl ?_
        refine j_iconst (v := (0 : Int32)) C dX7_same_49 rfl ?_
        refine j_istore_n C [(3, .int (0 : Int32)), (2, .int x2_8), (1, .int x1_6), (0, .ref (h0 0))] dX7_same_50 rfl (Nat.le_of_ble_eq_true rfl) rfl rfl ?_
        refine j_sub [(0, .ref (h0 0)), (1, .int x1_6), (2, .int x2_8), (3, .int (0 : Int32))] [3, 2, 1, 0] rfl ?_
        refine lX7_same_51 C h0 x1_6 x2_8 _ Rk (fun o0_17 hF => ?_) _ _ _ hF
        exact bX7_same_81 C h0 _ _ _ Rk  hF
      · have hF := (if_pos c_61).symm.trans hF
        refine j_bipush (v := (-2 : Int32)) C dX7_same_29 rfl ?_
        cases hF
        exact j_iret C Rk dX7_same_31
    · have hF := (if_neg c_62).symm.trans hF
      refine j_bipush (v := (-103 : Int32)) C dX7_same_18 rfl ?_
      cases hF
      exact j_iret C Rk dX7_same_20
/-! HeadsMeetModel.see -/
def FX7_see (x1 : Int32) (x2 : Int32) (x3 : Int32) (o0 : Ob) : Option (Int32 × Ob) :=
  lT (sV o0 4 (0 : Int32)) fun o0_2 =>
  b1 (FX7_isBracket x1 o0_2) fun r_3 =>
  if r_3 = 0 then
    some ((-101 : Int32), o0_2)
  else
    b1 (FX7_within x2 (0 : Int32) (3 : Int32)) fun r_5 =>
    if r_5 = 0 then
      some ((-102 : Int32), o0_2)
    else
      b1 (FX7_within x3 (-1 : Int32) (60 : Int32)) fun r_7 =>
      if r_7 = 0 then
        some ((-102 : Int32), o0_2)
      else
        if (oV o0_2 7) = (6 : Int32) then
          some ((-104 : Int32), o0_2)
        else
          if inb (oV o0_2 7) 6 then
          lT (sA o0_2 8 (oV o0_2 7).toNatClampNeg x1) fun o0_11 =>
          if inb (oV o0_11 7) 6 then
          lT (sA o0_11 9 (oV o0_11 7).toNatClampNeg x2) fun o0_14 =>
          if inb (oV o0_14 7) 6 then
          lT (sA o0_14 10 (oV o0_14 7).toNatClampNeg x3) fun o0_17 =>
          lT (sV o0_17 7 ((oV o0_17 7) + (1 : Int32))) fun o0_19 =>
          some (oV o0_19 7, o0_19)
          else none
          else none
          else none
set_option maxRecDepth 100000 in
set_option maxHeartbeats 4000000 in
theorem kX7_see (g : Gl) (h0 : Nat → Nat) (x1 : Int32) (x2 : Int32) (x3 : Int32) (o0 : Ob) {r : Int32} {o0' : Ob} (hF : FX7_see x1 x2 x3 o0 = some (r, o0')) : Ctr g yX7_see (Cond.code yX7_see cX7_see 4 (some .int) :: wsL_law) 3 64 [(shX7, h0, o0)] [(shX7, h0, o0')] [.ref (h0 0), .int x1, .int x2, .int x3] (some (.int r)) := by
  refine Ctr.of (cc := cX7_see) (maxL := 4) (ret := (some .int)) (by decide) rfl (Nat.le_of_ble_eq_true rfl) ?_
  intro X C Rk
  replace C : CxOk g X cX7_see RX7 (Cond.code yX7_see cX7_see 4 (some .int) :: wsL_law) 4 3 64 := C
  show J g X [(shX7, h0, o0)] 0 [(0, .ref (h0 0)), (1, .int x1), (2, .int x2), (3, .int x3)] []
  unfold FX7_see at hF
  refine j_aload_n C 0 dX7_see_0 rfl rfl ?_
  refine j_iconst (v := (0 : Int32)) C dX7_see_1 rfl ?_
  obtain ⟨o0_2, e_1, hF⟩ := glT hF
  refine j_putV C tyX7_ok nmX7 0 4 rfl rfl (Nat.le_of_ble_eq_true rfl) rfl in1_X7 (List.mem_cons_of_mem _ mw_5_19) rfl fd_X7_4 rfl rfl [(shX7, h0, o0_2)] (by rw [e_1]; rfl) dX7_see_2 ?_
  refine j_aload_n C 0 dX7_see_5 rfl rfl ?_
  refine j_iload_n C 1 dX7_see_6 rfl rfl ?_
  obtain ⟨r_3, k_4, hF⟩ := gb1 hF
  refine j_callVi C (os' := [(shX7, h0, o0_2)]) [.int x1] (kX7_isBracket g h0 x1 o0_2 k_4) [0] rfl rfl rfl rfl 0 rfl rfl (wl_gV mw_32_20 mw_32_21 mw_32_22 mw_1_5 mw_32_23) rfl 1 rfl hd_X7_isBracket ⟨Nat.le_of_ble_eq_true rfl, Nat.le_of_ble_eq_true rfl⟩ (Nat.le_of_ble_eq_true rfl) rfl dX7_see_7 ?_
  refine j_if_ne C 16 dX7_see_10 rfl (fun c_23 => ?_) (fun c_23 => ?_)
  · have hF := (if_neg c_23).symm.trans hF
    refine j_iload_n C 2 dX7_see_16 rfl rfl ?_
    refine j_iconst (v := (0 : Int32)) C dX7_see_17 rfl ?_
    refine j_iconst (v := (3 : Int32)) C dX7_see_18 rfl ?_
    obtain ⟨r_5, k_6, hF⟩ := gb1 hF
    refine j_callSi C (os' := [(shX7, h0, o0_2)]) [.int x2, .int (0 : Int32), .int (3 : Int32)] (kX7_within g x2 (0 : Int32) (3 : Int32) k_6) [] rfl rfl rfl rfl (wl_gS mw_6_18 mw_6_19 mw_1_5 mw_6_20) rfl 3 rfl hd_X7_within ⟨Nat.le_of_ble_eq_true rfl, Nat.le_of_ble_eq_true rfl⟩ (Nat.le_of_ble_eq_true rfl) rfl dX7_see_19 ?_
    refine j_if_eq C 35 dX7_see_22 rfl (fun c_22 => ?_) (fun c_22 => ?_)
    · have hF := (if_pos c_22).symm.trans hF
      refine j_bipush (v := (-102 : Int32)) C dX7_see_35 rfl ?_
      cases hF
      exact j_iret C Rk dX7_see_37
    · have hF := (if_neg c_22).symm.trans hF
      refine j_iload_n C 3 dX7_see_25 rfl rfl ?_
      refine j_iconst (v := (-1 : Int32)) C dX7_see_26 rfl ?_
      refine j_bipush (v := (60 : Int32)) C dX7_see_27 rfl ?_
      obtain ⟨r_7, k_8, hF⟩ := gb1 hF
      refine j_callSi C (os' := [(shX7, h0, o0_2)]) [.int x3, .int (-1 : Int32), .int (60 : Int32)] (kX7_within g x3 (-1 : Int32) (60 : Int32) k_8) [] rfl rfl rfl rfl (wl_gS mw_6_18 mw_6_19 mw_1_5 mw_6_20) rfl 3 rfl hd_X7_within ⟨Nat.le_of_ble_eq_true rfl, Nat.le_of_ble_eq_true rfl⟩ (Nat.le_of_ble_eq_true rfl) rfl dX7_see_29 ?_
      refine j_if_ne C 38 dX7_see_32 rfl (fun c_21 => ?_) (fun c_21 => ?_)
      · have hF := (if_neg c_21).symm.trans hF
        refine j_aload_n C 0 dX7_see_38 rfl rfl ?_
        refine j_get (v := .int (oV o0_2 7)) C 0 7 rfl rfl (Nat.le_of_ble_eq_true rfl) rfl rfl in1_X7 (List.mem_cons_of_mem _ mw_18_8) dX7_see_39 ?_
        refine j_bipush (v := (6 : Int32)) C dX7_see_42 rfl ?_
        refine j_icmp_ne C 50 dX7_see_44 rfl (fun c_20 => ?_) (fun c_20 => ?_)
        · have hF := (if_neg c_20).symm.trans hF
          refine j_aload_n C 0 dX7_see_50 rfl rfl ?_
          refine j_get (v := .ref (h0 9)) C 0 8 rfl rfl (Nat.le_of_ble_eq_true rfl) rfl rfl in1_X7 (List.mem_cons_of_mem _ mw_4_15) dX7_see_51 ?_
          refine j_aload_n C 0 dX7_see_54 rfl rfl ?_
          refine j_get (v := .int (oV o0_2 7)) C 0 7 rfl rfl (Nat.le_of_ble_eq_true rfl) rfl rfl in1_X7 (List.mem_cons_of_mem _ mw_18_8) dX7_see_55 ?_
          refine j_iload_n C 1 dX7_see_58 rfl rfl ?_
          obtain ⟨z_9, hF⟩ := gi hF
          obtain ⟨o0_11, e_10, hF⟩ := glT hF
          refine j_iast C 0 8 rfl rfl z_9 [(shX7, h0, o0_11)] (by rw [e_10]; rfl) dX7_see_59 ?_
          refine j_aload_n C 0 dX7_see_60 rfl rfl ?_
          refine j_get (v := .ref (h0 10)) C 0 9 rfl rfl (Nat.le_of_ble_eq_true rfl) rfl rfl in1_X7 (List.mem_cons_of_mem _ mw_4_16) dX7_see_61 ?_
          refine j_aload_n C 0 dX7_see_64 rfl rfl ?_
          refine j_get (v := .int (oV o0_11 7)) C 0 7 rfl rfl (Nat.le_of_ble_eq_true rfl) rfl rfl in1_X7 (List.mem_cons_of_mem _ mw_18_8) dX7_see_65 ?_
          refine j_iload_n C 2 dX7_see_68 rfl rfl ?_
          obtain ⟨z_12, hF⟩ := gi hF
          obtain ⟨o0_14, e_13, hF⟩ := glT hF
          refine j_iast C 0 9 rfl rfl z_12 [(shX7, h0, o0_14)] (by rw [e_13]; rfl) dX7_see_69 ?_
          refine j_aload_n C 0 dX7_see_70 rfl rfl ?_
          refine j_get (v := .ref (h0 11)) C 0 10 rfl rfl (Nat.le_of_ble_eq_true rfl) rfl rfl in1_X7 (List.mem_cons_of_mem _ mw_4_17) dX7_see_71 ?_
          refine j_aload_n C 0 dX7_see_74 rfl rfl ?_
          refine j_get (v := .int (oV o0_14 7)) C 0 7 rfl rfl (Nat.le_of_ble_eq_true rfl) rfl rfl in1_X7 (List.mem_cons_of_mem _ mw_18_8) dX7_see_75 ?_
          refine j_iload_n C 3 dX7_see_78 rfl rfl ?_
          obtain ⟨z_15, hF⟩ := gi hF
          obtain ⟨o0_17, e_16, hF⟩ := glT hF
          refine j_iast C 0 10 rfl rfl z_15 [(shX7, h0, o0_17)] (by rw [e_16]; rfl) dX7_see_79 ?_
          refine j_aload_n C 0 dX7_see_80 rfl rfl ?_
          refine j_dup C rfl dX7_see_81 ?_
          refine j_get (v := .int (oV o0_17 7)) C 0 7 rfl rfl (Nat.le_of_ble_eq_true rfl) rfl rfl in1_X7 (List.mem_cons_of_mem _ mw_18_8) dX7_see_82 ?_
          refine j_iconst (v := (1 : Int32)) C dX7_see_85 rfl ?_
          refine j_iadd C dX7_see_86 ?_
          obtain ⟨o0_19, e_18, hF⟩ := glT hF
          refine j_putV C tyX7_ok nmX7 0 7 rfl rfl (Nat.le_of_ble_eq_true rfl) rfl in1_X7 (List.mem_cons_of_mem _ mw_18_8) rfl fd_X7_7 rfl rfl [(shX7, h0, o0_19)] (by rw [e_18]; rfl) dX7_see_87 ?_
          refine j_aload_n C 0 dX7_see_90 rfl rfl ?_
          refine j_get (v := .int (oV o0_19 7)) C 0 7 rfl rfl (Nat.le_of_ble_eq_true rfl) rfl rfl in1_X7 (List.mem_cons_of_mem _ mw_18_8) dX7_see_91 ?_
          cases hF
          exact j_iret C Rk dX7_see_94
        · have hF := (if_pos c_20).symm.trans hF
          refine j_bipush (v := (-104 : Int32)) C dX7_see_47 rfl ?_
          cases hF
          exact j_iret C Rk dX7_see_49
      · have hF := (if_pos c_21).symm.trans hF
        refine j_bipush (v := (-102 : Int32)) C dX7_see_35 rfl ?_
        cases hF
        exact j_iret C Rk dX7_see_37
  · have hF := (if_pos c_23).symm.trans hF
    refine j_bipush (v := (-101 : Int32)) C dX7_see_13 rfl ?_
    cases hF
    exact j_iret C Rk dX7_see_15
/-! HeadsMeetModel.forget -/
def FX7_forget  (o0 : Ob) : Option (Int32 × Ob) :=
  lT (oV o0 7) fun x1_1 =>
  lT (sV o0 7 (0 : Int32)) fun o0_4 =>
  some (x1_1, o0_4)
set_option maxRecDepth 100000 in
set_option maxHeartbeats 4000000 in
theorem kX7_forget (g : Gl) (h0 : Nat → Nat)  (o0 : Ob) {r : Int32} {o0' : Ob} (hF : FX7_forget o0 = some (r, o0')) : Ctr g yX7_forget (Cond.code yX7_forget cX7_forget 2 (some .int) :: wsL_law) 0 0 [(shX7, h0, o0)] [(shX7, h0, o0')] [.ref (h0 0)] (some (.int r)) := by
  refine Ctr.of (cc := cX7_forget) (maxL := 2) (ret := (some .int)) (by decide) rfl (Nat.le_of_ble_eq_true rfl) ?_
  intro X C Rk
  replace C : CxOk g X cX7_forget RX7 (Cond.code yX7_forget cX7_forget 2 (some .int) :: wsL_law) 2 0 0 := C
  show J g X [(shX7, h0, o0)] 0 [(0, .ref (h0 0))] []
  unfold FX7_forget at hF
  refine j_aload_n C 0 dX7_forget_0 rfl rfl ?_
  refine j_get (v := .int (oV o0 7)) C 0 7 rfl rfl (Nat.le_of_ble_eq_true rfl) rfl rfl in1_X7 (List.mem_cons_of_mem _ mw_18_8) dX7_forget_1 ?_
  obtain ⟨x1_1, e_2, hF⟩ := glT hF
  refine j_istore_n C [(1, .int x1_1), (0, .ref (h0 0))] dX7_forget_4 rfl (Nat.le_of_ble_eq_true rfl) e_2 rfl ?_
  refine j_aload_n C 1 dX7_forget_5 rfl rfl ?_
  refine j_iconst (v := (0 : Int32)) C dX7_forget_6 rfl ?_
  obtain ⟨o0_4, e_3, hF⟩ := glT hF
  refine j_putV C tyX7_ok nmX7 0 7 rfl rfl (Nat.le_of_ble_eq_true rfl) rfl in1_X7 (List.mem_cons_of_mem _ mw_18_8) rfl fd_X7_7 rfl rfl [(shX7, h0, o0_4)] (by rw [e_3]; rfl) dX7_forget_7 ?_
  refine j_iload_n C 0 dX7_forget_10 rfl rfl ?_
  cases hF
  exact j_iret C Rk dX7_forget_11
/-! HeadsMeetModel.draw -/
def FX7_draw (x1 : Int32) (o0 : Ob) : Option (Int32 × Ob) :=
  lT (sL o0 41 ((((1103515245 : Int64) * (oL o0 41)) + (12345 : Int64)) &&& (2147483647 : Int64))) fun o0_2 =>
  if ¬ x1.toInt64 = 0 then
  some ((((oL o0_2 41) / (65536 : Int64)) - ((oL o0_2 41) / (65536 : Int64)) / x1.toInt64 * x1.toInt64).toInt32, o0_2)
  else none
set_option maxRecDepth 100000 in
set_option maxHeartbeats 4000000 in
theorem kX7_draw (g : Gl) (h0 : Nat → Nat) (x1 : Int32) (o0 : Ob) {r : Int32} {o0' : Ob} (hF : FX7_draw x1 o0 = some (r, o0')) : Ctr g yX7_draw (Cond.code yX7_draw cX7_draw 2 (some .int) :: wsL_law) 0 0 [(shX7, h0, o0)] [(shX7, h0, o0')] [.ref (h0 0), .int x1] (some (.int r)) := by
  refine Ctr.of (cc := cX7_draw) (maxL := 2) (ret := (some .int)) (by decide) rfl (Nat.le_of_ble_eq_true rfl) ?_
  intro X C Rk
  replace C : CxOk g X cX7_draw RX7 (Cond.code yX7_draw cX7_draw 2 (some .int) :: wsL_law) 2 0 0 := C
  show J g X [(shX7, h0, o0)] 0 [(0, .ref (h0 0)), (1, .int x1)] []
  unfold FX7_draw at hF
  refine j_aload_n C 0 dX7_draw_0 rfl rfl ?_
  refine j_ldc2 (v := (1103515245 : Int64)) C (List.mem_cons_of_mem _ mw_40_9) dX7_draw_1 ?_
  refine j_aload_n C 0 dX7_draw_4 rfl rfl ?_
  refine j_get (v := .long (oL o0 41)) C 0 41 rfl rfl (Nat.le_of_ble_eq_true rfl) rfl rfl in1_X7 (List.mem_cons_of_mem _ mw_40_4) dX7_draw_5 ?_
  refine j_lmul C dX7_draw_8 ?_
  refine j_ldc2 (v := (12345 : Int64)) C (List.mem_cons_of_mem _ mw_40_10) dX7_draw_9 ?_
  refine j_ladd C dX7_draw_12 ?_
  refine j_ldc2 (v := (2147483647 : Int64)) C (List.mem_cons_of_mem _ mw_40_11) dX7_draw_13 ?_
  refine j_land C dX7_draw_16 ?_
  obtain ⟨o0_2, e_1, hF⟩ := glT hF
  refine j_putL C tyX7_ok nmX7 0 41 rfl rfl (Nat.le_of_ble_eq_true rfl) rfl in1_X7 (List.mem_cons_of_mem _ mw_40_4) rfl fd_X7_41 rfl rfl [(shX7, h0, o0_2)] (by rw [e_1]; rfl) dX7_draw_17 ?_
  refine j_aload_n C 0 dX7_draw_20 rfl rfl ?_
  refine j_get (v := .long (oL o0_2 41)) C 0 41 rfl rfl (Nat.le_of_ble_eq_true rfl) rfl rfl in1_X7 (List.mem_cons_of_mem _ mw_40_4) dX7_draw_21 ?_
  refine j_ldc2 (v := (65536 : Int64)) C (List.mem_cons_of_mem _ mw_40_12) dX7_draw_24 ?_
  refine j_ldiv C (by decide) dX7_draw_27 ?_
  refine j_iload_n C 1 dX7_draw_28 rfl rfl ?_
  refine j_i2l C dX7_draw_29 ?_
  obtain ⟨z_3, hF⟩ := gi hF
  refine j_lrem C z_3 dX7_draw_30 ?_
  refine j_l2i C dX7_draw_31 ?_
  cases hF
  exact j_iret C Rk dX7_draw_32
/-! HeadsMeetModel.runsNow -/
def LX7_runsNow_32 (x1 : Int32) (x3 : Int32) (E90 : Int32 → Int32 → Ob → Option (Int32 × Ob)) : Nat → Int32 → Int32 → Int32 → Ob → Option (Int32 × Ob)
  | 0, _, _, _, _ => none
  | n + 1, x4, x5, x6, o0 =>
    if x1 ≤ x4 then
      E90 x4 x5 o0
    else
      if x6 ≤ 0 then
        E90 x4 x5 o0
      else
        b2 (FX7_draw x6 o0) fun r_11 o0_12 =>
        b1 (FX7_meetingAt r_11 o0_12) fun r_14 =>
        b2 (FX7_meetNow r_14 o0_12) fun r_16 o0_17 =>
        lT (x4 + (1 : Int32)) fun x4_19 =>
        b1 (FX7_nodes o0_17) fun r_21 =>
        if r_21 ≤ x5 then
          b1 (FX7_meetingsNow o0_17) fun r_27 =>
          LX7_runsNow_32 x1 x3 E90 n x4_19 x5 r_27 o0_17
        else
          b1 (FX7_nodes o0_17) fun r_23 =>
          b1 (FX7_meetingsNow o0_17) fun r_25 =>
          LX7_runsNow_32 x1 x3 E90 n x4_19 r_23 r_25 o0_17
def BX7_runsNow_90 (x3 : Int32) (x4 : Int32) (x5 : Int32) (o0 : Ob) : Option (Int32 × Ob) :=
  lT (sV o0 4 (0 : Int32)) fun o0_36 =>
  if x3 = 0 then
    some (x4, o0_36)
  else
    if x3 = (1 : Int32) then
      some (x5, o0_36)
    else
      some ((oL o0_36 41).toInt32, o0_36)
def FX7_runsNow (x1 : Int32) (x2 : Int32) (x3 : Int32) (o0 : Ob) : Option (Int32 × Ob) :=
  b1 (FX7_copy (2 : Int32) (0 : Int32) o0) fun o0_1 =>
  lT (sV o0_1 4 (2 : Int32)) fun o0_4 =>
  lT (sL o0_4 41 x2.toInt64) fun o0_6 =>
  b1 (FX7_nodes o0_6) fun r_7 =>
  b1 (FX7_meetingsNow o0_6) fun r_9 =>
  LX7_runsNow_32 x1 x3 (fun x4_32 x5_33 o0_34 =>
   BX7_runsNow_90 x3 x4_32 x5_33 o0_34) fu (0 : Int32) r_7 r_9 o0_6
set_option maxRecDepth 100000 in
set_option maxHeartbeats 4000000 in
theorem lX7_runsNow_32 {g : Gl} {X : Cxt} (C : CxOk g X cX7_runsNow RX7 (Cond.code yX7_runsNow cX7_runsNow 7 (some .int) :: wsL_law) 7 4 94) {r : Int32} {o0' : Ob} (h0 : Nat → Nat) (x1 : Int32) (x3 : Int32) (E90 : Int32 → Int32 → Ob → Option (Int32 × Ob)) (Rk : RetOk g X [(shX7, h0, o0')] (some (.int r)) (some .int)) (hE90 : ∀ (x4 : Int32) (x5 : Int32) (o0 : Ob), E90 x4 x5 o0 = some (r, o0') → J g X [(shX7, h0, o0)] 90 [(0, .ref (h0 0)), (3, .int x3), (4, .int x4), (5, .int x5)] []) : ∀ (n : Nat) (x4 : Int32) (x5 : Int32) (x6 : Int32) (o0 : Ob), LX7_runsNow_32 x1 x3 E90 n x4 x5 x6 o0 = some (r, o0') → J g X [(shX7, h0, o0)] 32 [(0, .ref (h0 0)), (1, .int x1), (3, .int x3), (4, .int x4), (5, .int x5), (6, .int x6)] [] := by
  intro n
  induction n with
  | zero =>
    intro x4 x5 x6 o0 hF
    cases hF
  | succ n ih =>
    intro x4 x5 x6 o0 hF
    rw [LX7_runsNow_32.eq_2] at hF
    refine j_iload C 3 dX7_runsNow_32 rfl ?_
    refine j_iload_n C 1 dX7_runsNow_34 rfl rfl ?_
    refine j_icmp_ge C 90 dX7_runsNow_35 rfl (fun c_31 => ?_) (fun c_31 => ?_)
    · have hF := (if_pos c_31).symm.trans hF
      refine j_sub [(0, .ref (h0 0)), (3, .int x3), (4, .int x4), (5, .int x5)] [0, 2, 3, 4] rfl ?_
      exact hE90 _ _ _ hF
    · have hF := (if_neg c_31).symm.trans hF
      refine j_iload C 5 dX7_runsNow_38 rfl ?_
      refine j_if_le C 90 dX7_runsNow_40 rfl (fun c_30 => ?_) (fun c_30 => ?_)
      · have hF := (if_pos c_30).symm.trans hF
        refine j_sub [(0, .ref (h0 0)), (3, .int x3), (4, .int x4), (5, .int x5)] [0, 2, 3, 4] rfl ?_
        exact hE90 _ _ _ hF
      · have hF := (if_neg c_30).symm.trans hF
        refine j_aload_n C 0 dX7_runsNow_43 rfl rfl ?_
        refine j_aload_n C 0 dX7_runsNow_44 rfl rfl ?_
        refine j_aload_n C 0 dX7_runsNow_45 rfl rfl ?_
        refine j_iload C 5 dX7_runsNow_46 rfl ?_
        obtain ⟨r_11, o0_12, k_13, hF⟩ := gb2 hF
        refine j_callVi C (os' := [(shX7, h0, o0_12)]) [.int x6] (kX7_draw g h0 x6 o0 k_13) [0] rfl rfl rfl rfl 0 rfl rfl (wl_gV mw_40_5 mw_40_6 mw_40_7 mw_1_5 mw_40_8) rfl 1 rfl hd_X7_draw ⟨Nat.le_of_ble_eq_true rfl, Nat.le_of_ble_eq_true rfl⟩ (Nat.le_of_ble_eq_true rfl) rfl dX7_runsNow_48 ?_
        obtain ⟨r_14, k_15, hF⟩ := gb1 hF
        refine j_callVi C (os' := [(shX7, h0, o0_12)]) [.int r_11] (kX7_meetingAt g h0 r_11 o0_12 k_15) [0] rfl rfl rfl rfl 0 rfl rfl (wl_gV mw_26_5 mw_26_6 mw_26_7 mw_1_5 mw_26_8) rfl 1 rfl hd_X7_meetingAt ⟨Nat.le_of_ble_eq_true rfl, Nat.le_of_ble_eq_true rfl⟩ (Nat.le_of_ble_eq_true rfl) rfl dX7_runsNow_51 ?_
        obtain ⟨r_16, o0_17, k_18, hF⟩ := gb2 hF
        refine j_callVi C (os' := [(shX7, h0, o0_17)]) [.int r_14] (kX7_meetNow g h0 r_14 o0_12 k_18) [0] rfl rfl rfl rfl 0 rfl rfl (wl_gV mw_26_9 mw_26_10 mw_26_11 mw_1_5 mw_26_12) rfl 1 rfl hd_X7_meetNow ⟨Nat.le_of_ble_eq_true rfl, Nat.le_of_ble_eq_true rfl⟩ (Nat.le_of_ble_eq_true rfl) rfl dX7_runsNow_54 ?_
        refine j_pop C rfl dX7_runsNow_57 ?_
        obtain ⟨x4_19, e_20, hF⟩ := glT hF
        refine j_iinc C 3 [(4, .int x4_19), (0, .ref (h0 0)), (1, .int x1), (3, .int x3), (5, .int x5), (6, .int x6)] dX7_runsNow_58 rfl e_20.symm (Nat.le_of_ble_eq_true rfl) rfl ?_
        refine j_aload_n C 1 dX7_runsNow_61 rfl rfl ?_
        obtain ⟨r_21, k_22, hF⟩ := gb1 hF
        refine j_callVi C (os' := [(shX7, h0, o0_17)]) [] (kX7_nodes g h0 o0_17 k_22) [0] rfl rfl rfl rfl 0 rfl rfl (wl_gV mw_31_5 mw_31_6 mw_31_7 mw_1_5 mw_31_8) rfl 0 rfl hd_X7_nodes ⟨Nat.le_of_ble_eq_true rfl, Nat.le_of_ble_eq_true rfl⟩ (Nat.le_of_ble_eq_true rfl) rfl dX7_runsNow_62 ?_
        refine j_iload C 4 dX7_runsNow_65 rfl ?_
        refine j_icmp_le C 77 dX7_runsNow_67 rfl (fun c_29 => ?_) (fun c_29 => ?_)
        · have hF := (if_pos c_29).symm.trans hF
          refine j_iload C 4 dX7_runsNow_77 rfl ?_
          refine j_istore C [(5, .int x5), (4, .int x4_19), (0, .ref (h0 0)), (1, .int x1), (3, .int x3), (6, .int x6)] dX7_runsNow_79 (Nat.le_of_ble_eq_true rfl) rfl rfl ?_
          refine j_aload_n C 2 dX7_runsNow_81 rfl rfl ?_
          obtain ⟨r_27, k_28, hF⟩ := gb1 hF
          refine j_callVi C (os' := [(shX7, h0, o0_17)]) [] (kX7_meetingsNow g h0 o0_17 k_28) [0] rfl rfl rfl rfl 0 rfl rfl (wl_gV mw_25_21 mw_25_22 mw_25_23 mw_1_5 mw_26_0) rfl 0 rfl hd_X7_meetingsNow ⟨Nat.le_of_ble_eq_true rfl, Nat.le_of_ble_eq_true rfl⟩ (Nat.le_of_ble_eq_true rfl) rfl dX7_runsNow_82 ?_
          refine j_istore C [(6, .int r_27), (5, .int x5), (4, .int x4_19), (0, .ref (h0 0)), (1, .int x1), (3, .int x3)] dX7_runsNow_85 (Nat.le_of_ble_eq_true rfl) rfl rfl ?_
          refine j_goto C 32 dX7_runsNow_87 rfl ?_
          refine j_sub [(0, .ref (h0 0)), (1, .int x1), (3, .int x3), (4, .int x4_19), (5, .int x5), (6, .int r_27)] [3, 4, 5, 2, 1, 0] rfl ?_
          exact ih _ _ _ _ hF
        · have hF := (if_neg c_29).symm.trans hF
          refine j_aload_n C 1 dX7_runsNow_70 rfl rfl ?_
          obtain ⟨r_23, k_24, hF⟩ := gb1 hF
          refine j_callVi C (os' := [(shX7, h0, o0_17)]) [] (kX7_nodes g h0 o0_17 k_24) [0] rfl rfl rfl rfl 0 rfl rfl (wl_gV mw_31_5 mw_31_6 mw_31_7 mw_1_5 mw_31_8) rfl 0 rfl hd_X7_nodes ⟨Nat.le_of_ble_eq_true rfl, Nat.le_of_ble_eq_true rfl⟩ (Nat.le_of_ble_eq_true rfl) rfl dX7_runsNow_71 ?_
          refine j_goto C 79 dX7_runsNow_74 rfl ?_
          refine j_istore C [(5, .int r_23), (4, .int x4_19), (0, .ref (h0 0)), (1, .int x1), (3, .int x3), (6, .int x6)] dX7_runsNow_79 (Nat.le_of_ble_eq_true rfl) rfl rfl ?_
          refine j_aload_n C 2 dX7_runsNow_81 rfl rfl ?_
          obtain ⟨r_25, k_26, hF⟩ := gb1 hF
          refine j_callVi C (os' := [(shX7, h0, o0_17)]) [] (kX7_meetingsNow g h0 o0_17 k_26) [0] rfl rfl rfl rfl 0 rfl rfl (wl_gV mw_25_21 mw_25_22 mw_25_23 mw_1_5 mw_26_0) rfl 0 rfl hd_X7_meetingsNow ⟨Nat.le_of_ble_eq_true rfl, Nat.le_of_ble_eq_true rfl⟩ (Nat.le_of_ble_eq_true rfl) rfl dX7_runsNow_82 ?_
          refine j_istore C [(6, .int r_25), (5, .int r_23), (4, .int x4_19), (0, .ref (h0 0)), (1, .int x1), (3, .int x3)] dX7_runsNow_85 (Nat.le_of_ble_eq_true rfl) rfl rfl ?_
          refine j_goto C 32 dX7_runsNow_87 rfl ?_
          refine j_sub [(0, .ref (h0 0)), (1, .int x1), (3, .int x3), (4, .int x4_19), (5, .int r_23), (6, .int r_25)] [3, 4, 5, 2, 1, 0] rfl ?_
          exact ih _ _ _ _ hF
set_option maxRecDepth 100000 in
set_option maxHeartbeats 4000000 in
theorem bX7_runsNow_90 {g : Gl} {X : Cxt} (C : CxOk g X cX7_runsNow RX7 (Cond.code yX7_runsNow cX7_runsNow 7 (some .int) :: wsL_law) 7 4 94) {r : Int32} {o0' : Ob} (h0 : Nat → Nat) (x3 : Int32) (x4 : Int32) (x5 : Int32) (o0 : Ob)  (Rk : RetOk g X [(shX7, h0, o0')] (some (.int r)) (some .int))  (hF : BX7_runsNow_90  x3 x4 x5 o0 = some (r, o0')) : J g X [(shX7, h0, o0)] 90 [(0, .ref (h0 0)), (3, .int x3), (4, .int x4), (5, .int x5)] [] := by
  unfold BX7_runsNow_90 at hF
  refine j_aload_n C 0 dX7_runsNow_90 rfl rfl ?_
  refine j_iconst (v := (0 : Int32)) C dX7_runsNow_91 rfl ?_
  obtain ⟨o0_36, e_35, hF⟩ := glT hF
  refine j_putV C tyX7_ok nmX7 0 4 rfl rfl (Nat.le_of_ble_eq_true rfl) rfl in1_X7 (List.mem_cons_of_mem _ mw_5_19) rfl fd_X7_4 rfl rfl [(shX7, h0, o0_36)] (by rw [e_35]; rfl) dX7_runsNow_92 ?_
  refine j_iload_n C 1 dX7_runsNow_95 rfl rfl ?_
  refine j_if_ne C 104 dX7_runsNow_96 rfl (fun c_38 => ?_) (fun c_38 => ?_)
  · have hF := (if_neg c_38).symm.trans hF
    refine j_iload_n C 1 dX7_runsNow_104 rfl rfl ?_
    refine j_iconst (v := (1 : Int32)) C dX7_runsNow_105 rfl ?_
    refine j_icmp_ne C 114 dX7_runsNow_106 rfl (fun c_37 => ?_) (fun c_37 => ?_)
    · have hF := (if_neg c_37).symm.trans hF
      refine j_aload_n C 0 dX7_runsNow_114 rfl rfl ?_
      refine j_get (v := .long (oL o0_36 41)) C 0 41 rfl rfl (Nat.le_of_ble_eq_true rfl) rfl rfl in1_X7 (List.mem_cons_of_mem _ mw_40_4) dX7_runsNow_115 ?_
      refine j_l2i C dX7_runsNow_118 ?_
      cases hF
      exact j_iret C Rk dX7_runsNow_119
    · have hF := (if_pos c_37).symm.trans hF
      refine j_iload C 3 dX7_runsNow_109 rfl ?_
      refine j_goto C 119 dX7_runsNow_111 rfl ?_
      cases hF
      exact j_iret C Rk dX7_runsNow_119
  · have hF := (if_pos c_38).symm.trans hF
    refine j_iload C 2 dX7_runsNow_99 rfl ?_
    refine j_goto C 119 dX7_runsNow_101 rfl ?_
    cases hF
    exact j_iret C Rk dX7_runsNow_119
set_option maxRecDepth 100000 in
set_option maxHeartbeats 4000000 in
theorem kX7_runsNow (g : Gl) (h0 : Nat → Nat) (x1 : Int32) (x2 : Int32) (x3 : Int32) (o0 : Ob) {r : Int32} {o0' : Ob} (hF : FX7_runsNow x1 x2 x3 o0 = some (r, o0')) : Ctr g yX7_runsNow (Cond.code yX7_runsNow cX7_runsNow 7 (some .int) :: wsL_law) 4 94 [(shX7, h0, o0)] [(shX7, h0, o0')] [.ref (h0 0), .int x1, .int x2, .int x3] (some (.int r)) := by
  refine Ctr.of (cc := cX7_runsNow) (maxL := 7) (ret := (some .int)) (by decide) rfl (Nat.le_of_ble_eq_true rfl) ?_
  intro X C Rk
  replace C : CxOk g X cX7_runsNow RX7 (Cond.code yX7_runsNow cX7_runsNow 7 (some .int) :: wsL_law) 7 4 94 := C
  show J g X [(shX7, h0, o0)] 0 [(0, .ref (h0 0)), (1, .int x1), (2, .int x2), (3, .int x3)] []
  unfold FX7_runsNow at hF
  refine j_aload_n C 0 dX7_runsNow_0 rfl rfl ?_
  refine j_iconst (v := (2 : Int32)) C dX7_runsNow_1 rfl ?_
  refine j_iconst (v := (0 : Int32)) C dX7_runsNow_2 rfl ?_
  obtain ⟨o0_1, k_2, hF⟩ := gb1 hF
  refine j_callVv C (os' := [(shX7, h0, o0_1)]) [.int (2 : Int32), .int (0 : Int32)] (kX7_copy g h0 (2 : Int32) (0 : Int32) o0 k_2) [0] rfl rfl rfl rfl 0 rfl rfl (wl_gV mw_25_17 mw_25_18 mw_25_19 mw_1_5 mw_25_20) rfl 2 rfl hd_X7_copy ⟨Nat.le_of_ble_eq_true rfl, Nat.le_of_ble_eq_true rfl⟩ (Nat.le_of_ble_eq_true rfl) rfl dX7_runsNow_3 ?_
  refine j_aload_n C 0 dX7_runsNow_6 rfl rfl ?_
  refine j_iconst (v := (2 : Int32)) C dX7_runsNow_7 rfl ?_
  obtain ⟨o0_4, e_3, hF⟩ := glT hF
  refine j_putV C tyX7_ok nmX7 0 4 rfl rfl (Nat.le_of_ble_eq_true rfl) rfl in1_X7 (List.mem_cons_of_mem _ mw_5_19) rfl fd_X7_4 rfl rfl [(shX7, h0, o0_4)] (by rw [e_3]; rfl) dX7_runsNow_8 ?_
  refine j_aload_n C 0 dX7_runsNow_11 rfl rfl ?_
  refine j_iload_n C 2 dX7_runsNow_12 rfl rfl ?_
  refine j_i2l C dX7_runsNow_13 ?_
  obtain ⟨o0_6, e_5, hF⟩ := glT hF
  refine j_putL C tyX7_ok nmX7 0 41 rfl rfl (Nat.le_of_ble_eq_true rfl) rfl in1_X7 (List.mem_cons_of_mem _ mw_40_4) rfl fd_X7_41 rfl rfl [(shX7, h0, o0_6)] (by rw [e_5]; rfl) dX7_runsNow_14 ?_
  refine j_iconst (v := (0 : Int32)) C dX7_runsNow_17 rfl ?_
  refine j_istore C [(4, .int (0 : Int32)), (0, .ref (h0 0)), (1, .int x1), (2, .int x2), (3, .int x3)] dX7_runsNow_18 (Nat.le_of_ble_eq_true rfl) rfl rfl ?_
  refine j_aload_n C 1 dX7_runsNow_20 rfl rfl ?_
  obtain ⟨r_7, k_8, hF⟩ := gb1 hF
  refine j_callVi C (os' := [(shX7, h0, o0_6)]) [] (kX7_nodes g h0 o0_6 k_8) [0] rfl rfl rfl rfl 0 rfl rfl (wl_gV mw_31_5 mw_31_6 mw_31_7 mw_1_5 mw_31_8) rfl 0 rfl hd_X7_nodes ⟨Nat.le_of_ble_eq_true rfl, Nat.le_of_ble_eq_true rfl⟩ (Nat.le_of_ble_eq_true rfl) rfl dX7_runsNow_21 ?_
  refine j_istore C [(5, .int r_7), (4, .int (0 : Int32)), (0, .ref (h0 0)), (1, .int x1), (2, .int x2), (3, .int x3)] dX7_runsNow_24 (Nat.le_of_ble_eq_true rfl) rfl rfl ?_
  refine j_aload_n C 2 dX7_runsNow_26 rfl rfl ?_
  obtain ⟨r_9, k_10, hF⟩ := gb1 hF
  refine j_callVi C (os' := [(shX7, h0, o0_6)]) [] (kX7_meetingsNow g h0 o0_6 k_10) [0] rfl rfl rfl rfl 0 rfl rfl (wl_gV mw_25_21 mw_25_22 mw_25_23 mw_1_5 mw_26_0) rfl 0 rfl hd_X7_meetingsNow ⟨Nat.le_of_ble_eq_true rfl, Nat.le_of_ble_eq_true rfl⟩ (Nat.le_of_ble_eq_true rfl) rfl dX7_runsNow_27 ?_
  refine j_istore C [(6, .int r_9), (5, .int r_7), (4, .int (0 : Int32)), (0, .ref (h0 0)), (1, .int x1), (2, .int x2), (3, .int x3)] dX7_runsNow_30 (Nat.le_of_ble_eq_true rfl) rfl rfl ?_
  refine j_sub [(0, .ref (h0 0)), (1, .int x1), (3, .int x3), (4, .int (0 : Int32)), (5, .int r_7), (6, .int r_9)] [3, 4, 6, 2, 1, 0] rfl ?_
  refine lX7_runsNow_32 C h0 x1 x3 _ Rk (fun x4_32 x5_33 o0_34 hF => ?_) _ _ _ _ _ hF
  exact bX7_runsNow_90 C h0 _ _ _ _ Rk  hF
/-! HeadsMeetModel.runs -/
def FX7_runs (x1 : Int32) (x2 : Int32) (x3 : Int32) (o0 : Ob) : Option (Int32 × Ob) :=
  b1 (FX7_within x1 (1 : Int32) (60 : Int32)) fun r_1 =>
  if r_1 = 0 then
    some ((-102 : Int32), o0)
  else
    if x2 < 0 then
      some ((-102 : Int32), o0)
    else
      b1 (FX7_within x3 (0 : Int32) (2 : Int32)) fun r_3 =>
      if r_3 = 0 then
        some ((-102 : Int32), o0)
      else
        b1 (FX7_isNet o0) fun r_5 =>
        if r_5 = 0 then
          some ((-103 : Int32), o0)
        else
          b2 (FX7_runsNow x1 x2 x3 o0) fun r_7 o0_8 =>
          some (r_7, o0_8)
set_option maxRecDepth 100000 in
set_option maxHeartbeats 4000000 in
theorem kX7_runs (g : Gl) (h0 : Nat → Nat) (x1 : Int32) (x2 : Int32) (x3 : Int32) (o0 : Ob) {r : Int32} {o0' : Ob} (hF : FX7_runs x1 x2 x3 o0 = some (r, o0')) : Ctr g yX7_runs (Cond.code yX7_runs cX7_runs 4 (some .int) :: wsL_law) 5 120 [(shX7, h0, o0)] [(shX7, h0, o0')] [.ref (h0 0), .int x1, .int x2, .int x3] (some (.int r)) := by
  refine Ctr.of (cc := cX7_runs) (maxL := 4) (ret := (some .int)) (by decide) rfl (Nat.le_of_ble_eq_true rfl) ?_
  intro X C Rk
  replace C : CxOk g X cX7_runs RX7 (Cond.code yX7_runs cX7_runs 4 (some .int) :: wsL_law) 4 5 120 := C
  show J g X [(shX7, h0, o0)] 0 [(0, .ref (h0 0)), (1, .int x1), (2, .int x2), (3, .int x3)] []
  unfold FX7_runs at hF
  refine j_iload_n C 1 dX7_runs_0 rfl rfl ?_
  refine j_iconst (v := (1 : Int32)) C dX7_runs_1 rfl ?_
  refine j_bipush (v := (60 : Int32)) C dX7_runs_2 rfl ?_
  obtain ⟨r_1, k_2, hF⟩ := gb1 hF
  refine j_callSi C (os' := [(shX7, h0, o0)]) [.int x1, .int (1 : Int32), .int (60 : Int32)] (kX7_within g x1 (1 : Int32) (60 : Int32) k_2) [] rfl rfl rfl rfl (wl_gS mw_6_18 mw_6_19 mw_1_5 mw_6_20) rfl 3 rfl hd_X7_within ⟨Nat.le_of_ble_eq_true rfl, Nat.le_of_ble_eq_true rfl⟩ (Nat.le_of_ble_eq_true rfl) rfl dX7_runs_4 ?_
  refine j_if_eq C 23 dX7_runs_7 rfl (fun c_13 => ?_) (fun c_13 => ?_)
  · have hF := (if_pos c_13).symm.trans hF
    refine j_bipush (v := (-102 : Int32)) C dX7_runs_23 rfl ?_
    cases hF
    exact j_iret C Rk dX7_runs_25
  · have hF := (if_neg c_13).symm.trans hF
    refine j_iload_n C 2 dX7_runs_10 rfl rfl ?_
    refine j_if_lt C 23 dX7_runs_11 rfl (fun c_12 => ?_) (fun c_12 => ?_)
    · have hF := (if_pos c_12).symm.trans hF
      refine j_bipush (v := (-102 : Int32)) C dX7_runs_23 rfl ?_
      cases hF
      exact j_iret C Rk dX7_runs_25
    · have hF := (if_neg c_12).symm.trans hF
      refine j_iload_n C 3 dX7_runs_14 rfl rfl ?_
      refine j_iconst (v := (0 : Int32)) C dX7_runs_15 rfl ?_
      refine j_iconst (v := (2 : Int32)) C dX7_runs_16 rfl ?_
      obtain ⟨r_3, k_4, hF⟩ := gb1 hF
      refine j_callSi C (os' := [(shX7, h0, o0)]) [.int x3, .int (0 : Int32), .int (2 : Int32)] (kX7_within g x3 (0 : Int32) (2 : Int32) k_4) [] rfl rfl rfl rfl (wl_gS mw_6_18 mw_6_19 mw_1_5 mw_6_20) rfl 3 rfl hd_X7_within ⟨Nat.le_of_ble_eq_true rfl, Nat.le_of_ble_eq_true rfl⟩ (Nat.le_of_ble_eq_true rfl) rfl dX7_runs_17 ?_
      refine j_if_ne C 26 dX7_runs_20 rfl (fun c_11 => ?_) (fun c_11 => ?_)
      · have hF := (if_neg c_11).symm.trans hF
        refine j_aload_n C 0 dX7_runs_26 rfl rfl ?_
        obtain ⟨r_5, k_6, hF⟩ := gb1 hF
        refine j_callVi C (os' := [(shX7, h0, o0)]) [] (kX7_isNet g h0 o0 k_6) [0] rfl rfl rfl rfl 0 rfl rfl (wl_gV mw_30_7 mw_30_8 mw_30_9 mw_1_5 mw_30_10) rfl 0 rfl hd_X7_isNet ⟨Nat.le_of_ble_eq_true rfl, Nat.le_of_ble_eq_true rfl⟩ (Nat.le_of_ble_eq_true rfl) rfl dX7_runs_27 ?_
        refine j_if_eq C 43 dX7_runs_30 rfl (fun c_10 => ?_) (fun c_10 => ?_)
        · have hF := (if_pos c_10).symm.trans hF
          refine j_bipush (v := (-103 : Int32)) C dX7_runs_43 rfl ?_
          cases hF
          exact j_iret C Rk dX7_runs_45
        · have hF := (if_neg c_10).symm.trans hF
          refine j_aload_n C 0 dX7_runs_33 rfl rfl ?_
          refine j_iload_n C 1 dX7_runs_34 rfl rfl ?_
          refine j_iload_n C 2 dX7_runs_35 rfl rfl ?_
          refine j_iload_n C 3 dX7_runs_36 rfl rfl ?_
          obtain ⟨r_7, o0_8, k_9, hF⟩ := gb2 hF
          refine j_callVi C (os' := [(shX7, h0, o0_8)]) [.int x1, .int x2, .int x3] (kX7_runsNow g h0 x1 x2 x3 o0 k_9) [0] rfl rfl rfl rfl 0 rfl rfl (wl_gV mw_40_0 mw_40_1 mw_40_2 mw_1_5 mw_40_3) rfl 3 rfl hd_X7_runsNow ⟨Nat.le_of_ble_eq_true rfl, Nat.le_of_ble_eq_true rfl⟩ (Nat.le_of_ble_eq_true rfl) rfl dX7_runs_37 ?_
          refine j_goto C 45 dX7_runs_40 rfl ?_
          cases hF
          exact j_iret C Rk dX7_runs_45
      · have hF := (if_pos c_11).symm.trans hF
        refine j_bipush (v := (-102 : Int32)) C dX7_runs_23 rfl ?_
        cases hF
        exact j_iret C Rk dX7_runs_25
/-! HeadsMeetModel.doneAll -/
def FX7_doneAll  (o0 : Ob) : Option (Int32) :=
  some (((oA o0 6 (1 : Int32).toNatClampNeg) + (oA o0 6 (2 : Int32).toNatClampNeg)) + (oA o0 6 (3 : Int32).toNatClampNeg))
set_option maxRecDepth 100000 in
set_option maxHeartbeats 4000000 in
theorem kX7_doneAll (g : Gl) (h0 : Nat → Nat)  (o0 : Ob) {r : Int32} (hF : FX7_doneAll o0 = some r) : Ctr g yX7_doneAll (Cond.code yX7_doneAll cX7_doneAll 1 (some .int) :: wsL_law) 0 0 [(shX7, h0, o0)] [(shX7, h0, o0)] [.ref (h0 0)] (some (.int r)) := by
  refine Ctr.of (cc := cX7_doneAll) (maxL := 1) (ret := (some .int)) (by decide) rfl (Nat.le_of_ble_eq_true rfl) ?_
  intro X C Rk
  replace C : CxOk g X cX7_doneAll RX7 (Cond.code yX7_doneAll cX7_doneAll 1 (some .int) :: wsL_law) 1 0 0 := C
  show J g X [(shX7, h0, o0)] 0 [(0, .ref (h0 0))] []
  unfold FX7_doneAll at hF
  refine j_aload_n C 0 dX7_doneAll_0 rfl rfl ?_
  refine j_get (v := .ref (h0 7)) C 0 6 rfl rfl (Nat.le_of_ble_eq_true rfl) rfl rfl in1_X7 (List.mem_cons_of_mem _ mw_4_14) dX7_doneAll_1 ?_
  refine j_iconst (v := (1 : Int32)) C dX7_doneAll_4 rfl ?_
  refine j_iald C 0 6 rfl rfl (by decide) dX7_doneAll_5 ?_
  refine j_aload_n C 0 dX7_doneAll_6 rfl rfl ?_
  refine j_get (v := .ref (h0 7)) C 0 6 rfl rfl (Nat.le_of_ble_eq_true rfl) rfl rfl in1_X7 (List.mem_cons_of_mem _ mw_4_14) dX7_doneAll_7 ?_
  refine j_iconst (v := (2 : Int32)) C dX7_doneAll_10 rfl ?_
  refine j_iald C 0 6 rfl rfl (by decide) dX7_doneAll_11 ?_
  refine j_iadd C dX7_doneAll_12 ?_
  refine j_aload_n C 0 dX7_doneAll_13 rfl rfl ?_
  refine j_get (v := .ref (h0 7)) C 0 6 rfl rfl (Nat.le_of_ble_eq_true rfl) rfl rfl in1_X7 (List.mem_cons_of_mem _ mw_4_14) dX7_doneAll_14 ?_
  refine j_iconst (v := (3 : Int32)) C dX7_doneAll_17 rfl ?_
  refine j_iald C 0 6 rfl rfl (by decide) dX7_doneAll_18 ?_
  refine j_iadd C dX7_doneAll_19 ?_
  cases hF
  exact j_iret C Rk dX7_doneAll_20
/-! HeadsMeetModel.image -/
def LX7_image_31 (E54 : Ob → Option (Int32 × Ob)) : Nat → Int32 → Ob → Option (Int32 × Ob)
  | 0, _, _ => none
  | n + 1, x1, o0 =>
    if (4 : Int32) ≤ x1 then
      E54 o0
    else
      if inb x1 4 then
      lT (sA o0 45 x1.toNatClampNeg (oA o0 6 x1.toNatClampNeg)) fun o0_11 =>
      lT (x1 + (1 : Int32)) fun x1_12 =>
      LX7_image_31 E54 n x1_12 o0_11
      else none
def LX7_image_64 (E112 : Ob → Option (Int32 × Ob)) : Nat → Int32 → Ob → Option (Int32 × Ob)
  | 0, _, _ => none
  | n + 1, x1, o0 =>
    if (6 : Int32) ≤ x1 then
      E112 o0
    else
      if inb x1 6 then
      lT (sA o0 46 x1.toNatClampNeg (oA o0 8 x1.toNatClampNeg)) fun o0_20 =>
      lT (sA o0_20 47 x1.toNatClampNeg (oA o0_20 9 x1.toNatClampNeg)) fun o0_22 =>
      lT (sA o0_22 48 x1.toNatClampNeg (oA o0_22 10 x1.toNatClampNeg)) fun o0_24 =>
      lT (x1 + (1 : Int32)) fun x1_25 =>
      LX7_image_64 E112 n x1_25 o0_24
      else none
def FX7_image  (o0 : Ob) : Option (Int32 × Ob) :=
  b1 (FX7_isNet o0) fun r_1 =>
  if r_1 = 0 then
    some ((-103 : Int32), o0)
  else
    lT (sV o0 42 (1 : Int32)) fun o0_4 =>
    lT (sV o0_4 43 (oV o0_4 5)) fun o0_6 =>
    b1 (FX7_copy (1 : Int32) (0 : Int32) o0_6) fun o0_7 =>
    LX7_image_31 (fun o0_15 =>
     lT (sV o0_15 44 (oV o0_15 7)) fun o0_17 =>
     LX7_image_64 (fun o0_28 =>
      b1 (FX7_doneAll o0_28) fun r_29 =>
      some (r_29, o0_28)) fu (0 : Int32) o0_17) fu (0 : Int32) o0_7
set_option maxRecDepth 100000 in
set_option maxHeartbeats 4000000 in
theorem lX7_image_31 {g : Gl} {X : Cxt} (C : CxOk g X cX7_image RX7 (Cond.code yX7_image cX7_image 2 (some .int) :: wsL_law) 2 1 23) {r : Int32} {o0' : Ob} (h0 : Nat → Nat)  (E54 : Ob → Option (Int32 × Ob)) (Rk : RetOk g X [(shX7, h0, o0')] (some (.int r)) (some .int)) (hE54 : ∀ (o0 : Ob), E54 o0 = some (r, o0') → J g X [(shX7, h0, o0)] 54 [(0, .ref (h0 0))] []) : ∀ (n : Nat) (x1 : Int32) (o0 : Ob), LX7_image_31 E54 n x1 o0 = some (r, o0') → J g X [(shX7, h0, o0)] 31 [(0, .ref (h0 0)), (1, .int x1)] [] := by
  intro n
  induction n with
  | zero =>
    intro x1 o0 hF
    cases hF
  | succ n ih =>
    intro x1 o0 hF
    rw [LX7_image_31.eq_2] at hF
    refine j_iload_n C 1 dX7_image_31 rfl rfl ?_
    refine j_iconst (v := (4 : Int32)) C dX7_image_32 rfl ?_
    refine j_icmp_ge C 54 dX7_image_33 rfl (fun c_14 => ?_) (fun c_14 => ?_)
    · have hF := (if_pos c_14).symm.trans hF
      refine j_sub [(0, .ref (h0 0))] [0] rfl ?_
      exact hE54 _ hF
    · have hF := (if_neg c_14).symm.trans hF
      refine j_aload_n C 0 dX7_image_36 rfl rfl ?_
      refine j_get (v := .ref (h0 46)) C 0 45 rfl rfl (Nat.le_of_ble_eq_true rfl) rfl rfl in1_X7 (List.mem_cons_of_mem _ mw_5_15) dX7_image_37 ?_
      refine j_iload_n C 1 dX7_image_40 rfl rfl ?_
      refine j_aload_n C 0 dX7_image_41 rfl rfl ?_
      refine j_get (v := .ref (h0 7)) C 0 6 rfl rfl (Nat.le_of_ble_eq_true rfl) rfl rfl in1_X7 (List.mem_cons_of_mem _ mw_4_14) dX7_image_42 ?_
      refine j_iload_n C 1 dX7_image_45 rfl rfl ?_
      obtain ⟨z_9, hF⟩ := gi hF
      refine j_iald C 0 6 rfl rfl z_9 dX7_image_46 ?_
      obtain ⟨o0_11, e_10, hF⟩ := glT hF
      refine j_iast C 0 45 rfl rfl z_9 [(shX7, h0, o0_11)] (by rw [e_10]; rfl) dX7_image_47 ?_
      obtain ⟨x1_12, e_13, hF⟩ := glT hF
      refine j_iinc C 1 [(1, .int x1_12), (0, .ref (h0 0))] dX7_image_48 rfl e_13.symm (Nat.le_of_ble_eq_true rfl) rfl ?_
      refine j_goto C 31 dX7_image_51 rfl ?_
      refine j_sub [(0, .ref (h0 0)), (1, .int x1_12)] [1, 0] rfl ?_
      exact ih _ _ hF
set_option maxRecDepth 100000 in
set_option maxHeartbeats 4000000 in
theorem lX7_image_64 {g : Gl} {X : Cxt} (C : CxOk g X cX7_image RX7 (Cond.code yX7_image cX7_image 2 (some .int) :: wsL_law) 2 1 23) {r : Int32} {o0' : Ob} (h0 : Nat → Nat)  (E112 : Ob → Option (Int32 × Ob)) (Rk : RetOk g X [(shX7, h0, o0')] (some (.int r)) (some .int)) (hE112 : ∀ (o0 : Ob), E112 o0 = some (r, o0') → J g X [(shX7, h0, o0)] 112 [(0, .ref (h0 0))] []) : ∀ (n : Nat) (x1 : Int32) (o0 : Ob), LX7_image_64 E112 n x1 o0 = some (r, o0') → J g X [(shX7, h0, o0)] 64 [(0, .ref (h0 0)), (1, .int x1)] [] := by
  intro n
  induction n with
  | zero =>
    intro x1 o0 hF
    cases hF
  | succ n ih =>
    intro x1 o0 hF
    rw [LX7_image_64.eq_2] at hF
    refine j_iload_n C 1 dX7_image_64 rfl rfl ?_
    refine j_bipush (v := (6 : Int32)) C dX7_image_65 rfl ?_
    refine j_icmp_ge C 112 dX7_image_67 rfl (fun c_27 => ?_) (fun c_27 => ?_)
    · have hF := (if_pos c_27).symm.trans hF
      refine j_sub [(0, .ref (h0 0))] [0] rfl ?_
      exact hE112 _ hF
    · have hF := (if_neg c_27).symm.trans hF
      refine j_aload_n C 0 dX7_image_70 rfl rfl ?_
      refine j_get (v := .ref (h0 47)) C 0 46 rfl rfl (Nat.le_of_ble_eq_true rfl) rfl rfl in1_X7 (List.mem_cons_of_mem _ mw_5_16) dX7_image_71 ?_
      refine j_iload_n C 1 dX7_image_74 rfl rfl ?_
      refine j_aload_n C 0 dX7_image_75 rfl rfl ?_
      refine j_get (v := .ref (h0 9)) C 0 8 rfl rfl (Nat.le_of_ble_eq_true rfl) rfl rfl in1_X7 (List.mem_cons_of_mem _ mw_4_15) dX7_image_76 ?_
      refine j_iload_n C 1 dX7_image_79 rfl rfl ?_
      obtain ⟨z_18, hF⟩ := gi hF
      refine j_iald C 0 8 rfl rfl z_18 dX7_image_80 ?_
      obtain ⟨o0_20, e_19, hF⟩ := glT hF
      refine j_iast C 0 46 rfl rfl z_18 [(shX7, h0, o0_20)] (by rw [e_19]; rfl) dX7_image_81 ?_
      refine j_aload_n C 0 dX7_image_82 rfl rfl ?_
      refine j_get (v := .ref (h0 48)) C 0 47 rfl rfl (Nat.le_of_ble_eq_true rfl) rfl rfl in1_X7 (List.mem_cons_of_mem _ mw_5_17) dX7_image_83 ?_
      refine j_iload_n C 1 dX7_image_86 rfl rfl ?_
      refine j_aload_n C 0 dX7_image_87 rfl rfl ?_
      refine j_get (v := .ref (h0 10)) C 0 9 rfl rfl (Nat.le_of_ble_eq_true rfl) rfl rfl in1_X7 (List.mem_cons_of_mem _ mw_4_16) dX7_image_88 ?_
      refine j_iload_n C 1 dX7_image_91 rfl rfl ?_
      refine j_iald C 0 9 rfl rfl z_18 dX7_image_92 ?_
      obtain ⟨o0_22, e_21, hF⟩ := glT hF
      refine j_iast C 0 47 rfl rfl z_18 [(shX7, h0, o0_22)] (by rw [e_21]; rfl) dX7_image_93 ?_
      refine j_aload_n C 0 dX7_image_94 rfl rfl ?_
      refine j_get (v := .ref (h0 49)) C 0 48 rfl rfl (Nat.le_of_ble_eq_true rfl) rfl rfl in1_X7 (List.mem_cons_of_mem _ mw_5_18) dX7_image_95 ?_
      refine j_iload_n C 1 dX7_image_98 rfl rfl ?_
      refine j_aload_n C 0 dX7_image_99 rfl rfl ?_
      refine j_get (v := .ref (h0 11)) C 0 10 rfl rfl (Nat.le_of_ble_eq_true rfl) rfl rfl in1_X7 (List.mem_cons_of_mem _ mw_4_17) dX7_image_100 ?_
      refine j_iload_n C 1 dX7_image_103 rfl rfl ?_
      refine j_iald C 0 10 rfl rfl z_18 dX7_image_104 ?_
      obtain ⟨o0_24, e_23, hF⟩ := glT hF
      refine j_iast C 0 48 rfl rfl z_18 [(shX7, h0, o0_24)] (by rw [e_23]; rfl) dX7_image_105 ?_
      obtain ⟨x1_25, e_26, hF⟩ := glT hF
      refine j_iinc C 1 [(1, .int x1_25), (0, .ref (h0 0))] dX7_image_106 rfl e_26.symm (Nat.le_of_ble_eq_true rfl) rfl ?_
      refine j_goto C 64 dX7_image_109 rfl ?_
      refine j_sub [(0, .ref (h0 0)), (1, .int x1_25)] [1, 0] rfl ?_
      exact ih _ _ hF
set_option maxRecDepth 100000 in
set_option maxHeartbeats 4000000 in
theorem kX7_image (g : Gl) (h0 : Nat → Nat)  (o0 : Ob) {r : Int32} {o0' : Ob} (hF : FX7_image o0 = some (r, o0')) : Ctr g yX7_image (Cond.code yX7_image cX7_image 2 (some .int) :: wsL_law) 1 23 [(shX7, h0, o0)] [(shX7, h0, o0')] [.ref (h0 0)] (some (.int r)) := by
  refine Ctr.of (cc := cX7_image) (maxL := 2) (ret := (some .int)) (by decide) rfl (Nat.le_of_ble_eq_true rfl) ?_
  intro X C Rk
  replace C : CxOk g X cX7_image RX7 (Cond.code yX7_image cX7_image 2 (some .int) :: wsL_law) 2 1 23 := C
  show J g X [(shX7, h0, o0)] 0 [(0, .ref (h0 0))] []
  unfold FX7_image at hF
  refine j_aload_n C 0 dX7_image_0 rfl rfl ?_
  obtain ⟨r_1, k_2, hF⟩ := gb1 hF
  refine j_callVi C (os' := [(shX7, h0, o0)]) [] (kX7_isNet g h0 o0 k_2) [0] rfl rfl rfl rfl 0 rfl rfl (wl_gV mw_30_7 mw_30_8 mw_30_9 mw_1_5 mw_30_10) rfl 0 rfl hd_X7_isNet ⟨Nat.le_of_ble_eq_true rfl, Nat.le_of_ble_eq_true rfl⟩ (Nat.le_of_ble_eq_true rfl) rfl dX7_image_1 ?_
  refine j_if_ne C 10 dX7_image_4 rfl (fun c_31 => ?_) (fun c_31 => ?_)
  · have hF := (if_neg c_31).symm.trans hF
    refine j_aload_n C 0 dX7_image_10 rfl rfl ?_
    refine j_iconst (v := (1 : Int32)) C dX7_image_11 rfl ?_
    obtain ⟨o0_4, e_3, hF⟩ := glT hF
    refine j_putV C tyX7_ok nmX7 0 42 rfl rfl (Nat.le_of_ble_eq_true rfl) rfl in1_X7 (List.mem_cons_of_mem _ mw_38_6) rfl fd_X7_42 rfl rfl [(shX7, h0, o0_4)] (by rw [e_3]; rfl) dX7_image_12 ?_
    refine j_aload_n C 0 dX7_image_15 rfl rfl ?_
    refine j_aload_n C 0 dX7_image_16 rfl rfl ?_
    refine j_get (v := .int (oV o0_4 5)) C 0 5 rfl rfl (Nat.le_of_ble_eq_true rfl) rfl rfl in1_X7 (List.mem_cons_of_mem _ mw_18_7) dX7_image_17 ?_
    obtain ⟨o0_6, e_5, hF⟩ := glT hF
    refine j_putV C tyX7_ok nmX7 0 43 rfl rfl (Nat.le_of_ble_eq_true rfl) rfl in1_X7 (List.mem_cons_of_mem _ mw_38_7) rfl fd_X7_43 rfl rfl [(shX7, h0, o0_6)] (by rw [e_5]; rfl) dX7_image_20 ?_
    refine j_aload_n C 0 dX7_image_23 rfl rfl ?_
    refine j_iconst (v := (1 : Int32)) C dX7_image_24 rfl ?_
    refine j_iconst (v := (0 : Int32)) C dX7_image_25 rfl ?_
    obtain ⟨o0_7, k_8, hF⟩ := gb1 hF
    refine j_callVv C (os' := [(shX7, h0, o0_7)]) [.int (1 : Int32), .int (0 : Int32)] (kX7_copy g h0 (1 : Int32) (0 : Int32) o0_6 k_8) [0] rfl rfl rfl rfl 0 rfl rfl (wl_gV mw_25_17 mw_25_18 mw_25_19 mw_1_5 mw_25_20) rfl 2 rfl hd_X7_copy ⟨Nat.le_of_ble_eq_true rfl, Nat.le_of_ble_eq_true rfl⟩ (Nat.le_of_ble_eq_true rfl) rfl dX7_image_26 ?_
    refine j_iconst (v := (0 : Int32)) C dX7_image_29 rfl ?_
    refine j_istore_n C [(1, .int (0 : Int32)), (0, .ref (h0 0))] dX7_image_30 rfl (Nat.le_of_ble_eq_true rfl) rfl rfl ?_
    refine j_sub [(0, .ref (h0 0)), (1, .int (0 : Int32))] [1, 0] rfl ?_
    refine lX7_image_31 C h0  _ Rk (fun o0_15 hF => ?_) _ _ _ hF
    refine j_aload_n C 0 dX7_image_54 rfl rfl ?_
    refine j_aload_n C 0 dX7_image_55 rfl rfl ?_
    refine j_get (v := .int (oV o0_15 7)) C 0 7 rfl rfl (Nat.le_of_ble_eq_true rfl) rfl rfl in1_X7 (List.mem_cons_of_mem _ mw_18_8) dX7_image_56 ?_
    obtain ⟨o0_17, e_16, hF⟩ := glT hF
    refine j_putV C tyX7_ok nmX7 0 44 rfl rfl (Nat.le_of_ble_eq_true rfl) rfl in1_X7 (List.mem_cons_of_mem _ mw_41_2) rfl fd_X7_44 rfl rfl [(shX7, h0, o0_17)] (by rw [e_16]; rfl) dX7_image_59 ?_
    refine j_iconst (v := (0 : Int32)) C dX7_image_62 rfl ?_
    refine j_istore_n C [(1, .int (0 : Int32)), (0, .ref (h0 0))] dX7_image_63 rfl (Nat.le_of_ble_eq_true rfl) rfl rfl ?_
    refine j_sub [(0, .ref (h0 0)), (1, .int (0 : Int32))] [1, 0] rfl ?_
    refine lX7_image_64 C h0  _ Rk (fun o0_28 hF => ?_) _ _ _ hF
    refine j_aload_n C 0 dX7_image_112 rfl rfl ?_
    obtain ⟨r_29, k_30, hF⟩ := gb1 hF
    refine j_callVi C (os' := [(shX7, h0, o0_28)]) [] (kX7_doneAll g h0 o0_28 k_30) [0] rfl rfl rfl rfl 0 rfl rfl (wl_gV mw_41_3 mw_41_4 mw_41_5 mw_1_5 mw_41_6) rfl 0 rfl hd_X7_doneAll ⟨Nat.le_of_ble_eq_true rfl, Nat.le_of_ble_eq_true rfl⟩ (Nat.le_of_ble_eq_true rfl) rfl dX7_image_113 ?_
    cases hF
    exact j_iret C Rk dX7_image_116
  · have hF := (if_pos c_31).symm.trans hF
    refine j_bipush (v := (-103 : Int32)) C dX7_image_7 rfl ?_
    cases hF
    exact j_iret C Rk dX7_image_9
/-! HeadsMeetModel.restore -/
def LX7_restore_29 (E52 : Ob → Option (Int32 × Ob)) : Nat → Int32 → Ob → Option (Int32 × Ob)
  | 0, _, _ => none
  | n + 1, x1, o0 =>
    if (4 : Int32) ≤ x1 then
      E52 o0
    else
      if inb x1 4 then
      lT (sA o0 6 x1.toNatClampNeg (oA o0 45 x1.toNatClampNeg)) fun o0_5 =>
      lT (x1 + (1 : Int32)) fun x1_6 =>
      LX7_restore_29 E52 n x1_6 o0_5
      else none
def LX7_restore_62 (E110 : Ob → Option (Int32 × Ob)) : Nat → Int32 → Ob → Option (Int32 × Ob)
  | 0, _, _ => none
  | n + 1, x1, o0 =>
    if (6 : Int32) ≤ x1 then
      E110 o0
    else
      if inb x1 6 then
      lT (sA o0 8 x1.toNatClampNeg (oA o0 46 x1.toNatClampNeg)) fun o0_14 =>
      lT (sA o0_14 9 x1.toNatClampNeg (oA o0_14 47 x1.toNatClampNeg)) fun o0_16 =>
      lT (sA o0_16 10 x1.toNatClampNeg (oA o0_16 48 x1.toNatClampNeg)) fun o0_18 =>
      lT (x1 + (1 : Int32)) fun x1_19 =>
      LX7_restore_62 E110 n x1_19 o0_18
      else none
def FX7_restore  (o0 : Ob) : Option (Int32 × Ob) :=
  if (oV o0 42) = 0 then
    some ((-103 : Int32), o0)
  else
    if (oV o0 43) = (oV o0 5) then
      b1 (FX7_copy (0 : Int32) (1 : Int32) o0) fun o0_1 =>
      LX7_restore_29 (fun o0_9 =>
       lT (sV o0_9 7 (oV o0_9 44)) fun o0_11 =>
       LX7_restore_62 (fun o0_22 =>
        b1 (FX7_doneAll o0_22) fun r_23 =>
        some (r_23, o0_22)) fu (0 : Int32) o0_11) fu (0 : Int32) o0_1
    else
      some ((-103 : Int32), o0)
set_option maxRecDepth 100000 in
set_option maxHeartbeats 4000000 in
theorem lX7_restore_29 {g : Gl} {X : Cxt} (C : CxOk g X cX7_restore RX7 (Cond.code yX7_restore cX7_restore 2 (some .int) :: wsL_law) 2 1 23) {r : Int32} {o0' : Ob} (h0 : Nat → Nat)  (E52 : Ob → Option (Int32 × Ob)) (Rk : RetOk g X [(shX7, h0, o0')] (some (.int r)) (some .int)) (hE52 : ∀ (o0 : Ob), E52 o0 = some (r, o0') → J g X [(shX7, h0, o0)] 52 [(0, .ref (h0 0))] []) : ∀ (n : Nat) (x1 : Int32) (o0 : Ob), LX7_restore_29 E52 n x1 o0 = some (r, o0') → J g X [(shX7, h0, o0)] 29 [(0, .ref (h0 0)), (1, .int x1)] [] := by
  intro n
  induction n with
  | zero =>
    intro x1 o0 hF
    cases hF
  | succ n ih =>
    intro x1 o0 hF
    rw [LX7_restore_29.eq_2] at hF
    refine j_iload_n C 1 dX7_restore_29 rfl rfl ?_
    refine j_iconst (v := (4 : Int32)) C dX7_restore_30 rfl ?_
    refine j_icmp_ge C 52 dX7_restore_31 rfl (fun c_8 => ?_) (fun c_8 => ?_)
    · have hF := (if_pos c_8).symm.trans hF
      refine j_sub [(0, .ref (h0 0))] [0] rfl ?_
      exact hE52 _ hF
    · have hF := (if_neg c_8).symm.trans hF
      refine j_aload_n C 0 dX7_restore_34 rfl rfl ?_
      refine j_get (v := .ref (h0 7)) C 0 6 rfl rfl (Nat.le_of_ble_eq_true rfl) rfl rfl in1_X7 (List.mem_cons_of_mem _ mw_4_14) dX7_restore_35 ?_
      refine j_iload_n C 1 dX7_restore_38 rfl rfl ?_
      refine j_aload_n C 0 dX7_restore_39 rfl rfl ?_
      refine j_get (v := .ref (h0 46)) C 0 45 rfl rfl (Nat.le_of_ble_eq_true rfl) rfl rfl in1_X7 (List.mem_cons_of_mem _ mw_5_15) dX7_restore_40 ?_
      refine j_iload_n C 1 dX7_restore_43 rfl rfl ?_
      obtain ⟨z_3, hF⟩ := gi hF
      refine j_iald C 0 45 rfl rfl z_3 dX7_restore_44 ?_
      obtain ⟨o0_5, e_4, hF⟩ := glT hF
      refine j_iast C 0 6 rfl rfl z_3 [(shX7, h0, o0_5)] (by rw [e_4]; rfl) dX7_restore_45 ?_
      obtain ⟨x1_6, e_7, hF⟩ := glT hF
      refine j_iinc C 1 [(1, .int x1_6), (0, .ref (h0 0))] dX7_restore_46 rfl e_7.symm (Nat.le_of_ble_eq_true rfl) rfl ?_
      refine j_goto C 29 dX7_restore_49 rfl ?_
      refine j_sub [(0, .ref (h0 0)), (1, .int x1_6)] [1, 0] rfl ?_
      exact ih _ _ hF
set_option maxRecDepth 100000 in
set_option maxHeartbeats 4000000 in
theorem lX7_restore_62 {g : Gl} {X : Cxt} (C : CxOk g X cX7_restore RX7 (Cond.code yX7_restore cX7_restore 2 (some .int) :: wsL_law) 2 1 23) {r : Int32} {o0' : Ob} (h0 : Nat → Nat)  (E110 : Ob → Option (Int32 × Ob)) (Rk : RetOk g X [(shX7, h0, o0')] (some (.int r)) (some .int)) (hE110 : ∀ (o0 : Ob), E110 o0 = some (r, o0') → J g X [(shX7, h0, o0)] 110 [(0, .ref (h0 0))] []) : ∀ (n : Nat) (x1 : Int32) (o0 : Ob), LX7_restore_62 E110 n x1 o0 = some (r, o0') → J g X [(shX7, h0, o0)] 62 [(0, .ref (h0 0)), (1, .int x1)] [] := by
  intro n
  induction n with
  | zero =>
    intro x1 o0 hF
    cases hF
  | succ n ih =>
    intro x1 o0 hF
    rw [LX7_restore_62.eq_2] at hF
    refine j_iload_n C 1 dX7_restore_62 rfl rfl ?_
    refine j_bipush (v := (6 : Int32)) C dX7_restore_63 rfl ?_
    refine j_icmp_ge C 110 dX7_restore_65 rfl (fun c_21 => ?_) (fun c_21 => ?_)
    · have hF := (if_pos c_21).symm.trans hF
      refine j_sub [(0, .ref (h0 0))] [0] rfl ?_
      exact hE110 _ hF
    · have hF := (if_neg c_21).symm.trans hF
      refine j_aload_n C 0 dX7_restore_68 rfl rfl ?_
      refine j_get (v := .ref (h0 9)) C 0 8 rfl rfl (Nat.le_of_ble_eq_true rfl) rfl rfl in1_X7 (List.mem_cons_of_mem _ mw_4_15) dX7_restore_69 ?_
      refine j_iload_n C 1 dX7_restore_72 rfl rfl ?_
      refine j_aload_n C 0 dX7_restore_73 rfl rfl ?_
      refine j_get (v := .ref (h0 47)) C 0 46 rfl rfl (Nat.le_of_ble_eq_true rfl) rfl rfl in1_X7 (List.mem_cons_of_mem _ mw_5_16) dX7_restore_74 ?_
      refine j_iload_n C 1 dX7_restore_77 rfl rfl ?_
      obtain ⟨z_12, hF⟩ := gi hF
      refine j_iald C 0 46 rfl rfl z_12 dX7_restore_78 ?_
      obtain ⟨o0_14, e_13, hF⟩ := glT hF
      refine j_iast C 0 8 rfl rfl z_12 [(shX7, h0, o0_14)] (by rw [e_13]; rfl) dX7_restore_79 ?_
      refine j_aload_n C 0 dX7_restore_80 rfl rfl ?_
      refine j_get (v := .ref (h0 10)) C 0 9 rfl rfl (Nat.le_of_ble_eq_true rfl) rfl rfl in1_X7 (List.mem_cons_of_mem _ mw_4_16) dX7_restore_81 ?_
      refine j_iload_n C 1 dX7_restore_84 rfl rfl ?_
      refine j_aload_n C 0 dX7_restore_85 rfl rfl ?_
      refine j_get (v := .ref (h0 48)) C 0 47 rfl rfl (Nat.le_of_ble_eq_true rfl) rfl rfl in1_X7 (List.mem_cons_of_mem _ mw_5_17) dX7_restore_86 ?_
      refine j_iload_n C 1 dX7_restore_89 rfl rfl ?_
      refine j_iald C 0 47 rfl rfl z_12 dX7_restore_90 ?_
      obtain ⟨o0_16, e_15, hF⟩ := glT hF
      refine j_iast C 0 9 rfl rfl z_12 [(shX7, h0, o0_16)] (by rw [e_15]; rfl) dX7_restore_91 ?_
      refine j_aload_n C 0 dX7_restore_92 rfl rfl ?_
      refine j_get (v := .ref (h0 11)) C 0 10 rfl rfl (Nat.le_of_ble_eq_true rfl) rfl rfl in1_X7 (List.mem_cons_of_mem _ mw_4_17) dX7_restore_93 ?_
      refine j_iload_n C 1 dX7_restore_96 rfl rfl ?_
      refine j_aload_n C 0 dX7_restore_97 rfl rfl ?_
      refine j_get (v := .ref (h0 49)) C 0 48 rfl rfl (Nat.le_of_ble_eq_true rfl) rfl rfl in1_X7 (List.mem_cons_of_mem _ mw_5_18) dX7_restore_98 ?_
      refine j_iload_n C 1 dX7_restore_101 rfl rfl ?_
      refine j_iald C 0 48 rfl rfl z_12 dX7_restore_102 ?_
      obtain ⟨o0_18, e_17, hF⟩ := glT hF
      refine j_iast C 0 10 rfl rfl z_12 [(shX7, h0, o0_18)] (by rw [e_17]; rfl) dX7_restore_103 ?_
      obtain ⟨x1_19, e_20, hF⟩ := glT hF
      refine j_iinc C 1 [(1, .int x1_19), (0, .ref (h0 0))] dX7_restore_104 rfl e_20.symm (Nat.le_of_ble_eq_true rfl) rfl ?_
      refine j_goto C 62 dX7_restore_107 rfl ?_
      refine j_sub [(0, .ref (h0 0)), (1, .int x1_19)] [1, 0] rfl ?_
      exact ih _ _ hF
set_option maxRecDepth 100000 in
set_option maxHeartbeats 4000000 in
theorem kX7_restore (g : Gl) (h0 : Nat → Nat)  (o0 : Ob) {r : Int32} {o0' : Ob} (hF : FX7_restore o0 = some (r, o0')) : Ctr g yX7_restore (Cond.code yX7_restore cX7_restore 2 (some .int) :: wsL_law) 1 23 [(shX7, h0, o0)] [(shX7, h0, o0')] [.ref (h0 0)] (some (.int r)) := by
  refine Ctr.of (cc := cX7_restore) (maxL := 2) (ret := (some .int)) (by decide) rfl (Nat.le_of_ble_eq_true rfl) ?_
  intro X C Rk
  replace C : CxOk g X cX7_restore RX7 (Cond.code yX7_restore cX7_restore 2 (some .int) :: wsL_law) 2 1 23 := C
  show J g X [(shX7, h0, o0)] 0 [(0, .ref (h0 0))] []
  unfold FX7_restore at hF
  refine j_aload_n C 0 dX7_restore_0 rfl rfl ?_
  refine j_get (v := .int (oV o0 42)) C 0 42 rfl rfl (Nat.le_of_ble_eq_true rfl) rfl rfl in1_X7 (List.mem_cons_of_mem _ mw_38_6) dX7_restore_1 ?_
  refine j_if_eq C 18 dX7_restore_4 rfl (fun c_26 => ?_) (fun c_26 => ?_)
  · have hF := (if_pos c_26).symm.trans hF
    refine j_bipush (v := (-103 : Int32)) C dX7_restore_18 rfl ?_
    cases hF
    exact j_iret C Rk dX7_restore_20
  · have hF := (if_neg c_26).symm.trans hF
    refine j_aload_n C 0 dX7_restore_7 rfl rfl ?_
    refine j_get (v := .int (oV o0 43)) C 0 43 rfl rfl (Nat.le_of_ble_eq_true rfl) rfl rfl in1_X7 (List.mem_cons_of_mem _ mw_38_7) dX7_restore_8 ?_
    refine j_aload_n C 0 dX7_restore_11 rfl rfl ?_
    refine j_get (v := .int (oV o0 5)) C 0 5 rfl rfl (Nat.le_of_ble_eq_true rfl) rfl rfl in1_X7 (List.mem_cons_of_mem _ mw_18_7) dX7_restore_12 ?_
    refine j_icmp_eq C 21 dX7_restore_15 rfl (fun c_25 => ?_) (fun c_25 => ?_)
    · have hF := (if_pos c_25).symm.trans hF
      refine j_aload_n C 0 dX7_restore_21 rfl rfl ?_
      refine j_iconst (v := (0 : Int32)) C dX7_restore_22 rfl ?_
      refine j_iconst (v := (1 : Int32)) C dX7_restore_23 rfl ?_
      obtain ⟨o0_1, k_2, hF⟩ := gb1 hF
      refine j_callVv C (os' := [(shX7, h0, o0_1)]) [.int (0 : Int32), .int (1 : Int32)] (kX7_copy g h0 (0 : Int32) (1 : Int32) o0 k_2) [0] rfl rfl rfl rfl 0 rfl rfl (wl_gV mw_25_17 mw_25_18 mw_25_19 mw_1_5 mw_25_20) rfl 2 rfl hd_X7_copy ⟨Nat.le_of_ble_eq_true rfl, Nat.le_of_ble_eq_true rfl⟩ (Nat.le_of_ble_eq_true rfl) rfl dX7_restore_24 ?_
      refine j_iconst (v := (0 : Int32)) C dX7_restore_27 rfl ?_
      refine j_istore_n C [(1, .int (0 : Int32)), (0, .ref (h0 0))] dX7_restore_28 rfl (Nat.le_of_ble_eq_true rfl) rfl rfl ?_
      refine j_sub [(0, .ref (h0 0)), (1, .int (0 : Int32))] [1, 0] rfl ?_
      refine lX7_restore_29 C h0  _ Rk (fun o0_9 hF => ?_) _ _ _ hF
      refine j_aload_n C 0 dX7_restore_52 rfl rfl ?_
      refine j_aload_n C 0 dX7_restore_53 rfl rfl ?_
      refine j_get (v := .int (oV o0_9 44)) C 0 44 rfl rfl (Nat.le_of_ble_eq_true rfl) rfl rfl in1_X7 (List.mem_cons_of_mem _ mw_41_2) dX7_restore_54 ?_
      obtain ⟨o0_11, e_10, hF⟩ := glT hF
      refine j_putV C tyX7_ok nmX7 0 7 rfl rfl (Nat.le_of_ble_eq_true rfl) rfl in1_X7 (List.mem_cons_of_mem _ mw_18_8) rfl fd_X7_7 rfl rfl [(shX7, h0, o0_11)] (by rw [e_10]; rfl) dX7_restore_57 ?_
      refine j_iconst (v := (0 : Int32)) C dX7_restore_60 rfl ?_
      refine j_istore_n C [(1, .int (0 : Int32)), (0, .ref (h0 0))] dX7_restore_61 rfl (Nat.le_of_ble_eq_true rfl) rfl rfl ?_
      refine j_sub [(0, .ref (h0 0)), (1, .int (0 : Int32))] [1, 0] rfl ?_
      refine lX7_restore_62 C h0  _ Rk (fun o0_22 hF => ?_) _ _ _ hF
      refine j_aload_n C 0 dX7_restore_110 rfl rfl ?_
      obtain ⟨r_23, k_24, hF⟩ := gb1 hF
      refine j_callVi C (os' := [(shX7, h0, o0_22)]) [] (kX7_doneAll g h0 o0_22 k_24) [0] rfl rfl rfl rfl 0 rfl rfl (wl_gV mw_41_3 mw_41_4 mw_41_5 mw_1_5 mw_41_6) rfl 0 rfl hd_X7_doneAll ⟨Nat.le_of_ble_eq_true rfl, Nat.le_of_ble_eq_true rfl⟩ (Nat.le_of_ble_eq_true rfl) rfl dX7_restore_111 ?_
      cases hF
      exact j_iret C Rk dX7_restore_114
    · have hF := (if_neg c_25).symm.trans hF
      refine j_bipush (v := (-103 : Int32)) C dX7_restore_18 rfl ?_
      cases hF
      exact j_iret C Rk dX7_restore_20
/-! HeadsMeetModel.opens -/
def LX7_opens_4 (o0 : Ob) : Nat → Int32 → Int32 → Option (Int32)
  | 0, _, _ => none
  | n + 1, x1, x2 =>
    if (8 : Int32) ≤ x2 then
      some x1
    else
      b1 (FX7_isOpen x2 o0) fun r_1 =>
      if r_1 = 0 then
        lT (x1 + (0 : Int32)) fun x1_7 =>
        lT (x2 + (1 : Int32)) fun x2_9 =>
        LX7_opens_4 o0 n x1_7 x2_9
      else
        lT (x1 + (1 : Int32)) fun x1_3 =>
        lT (x2 + (1 : Int32)) fun x2_5 =>
        LX7_opens_4 o0 n x1_3 x2_5
def FX7_opens  (o0 : Ob) : Option (Int32) :=
  LX7_opens_4 o0 fu (0 : Int32) (0 : Int32)
set_option maxRecDepth 100000 in
set_option maxHeartbeats 4000000 in
theorem lX7_opens_4 {g : Gl} {X : Cxt} (C : CxOk g X cX7_opens RX7 (Cond.code yX7_opens cX7_opens 3 (some .int) :: wsL_law) 3 2 43) {r : Int32} (h0 : Nat → Nat) (o0 : Ob)  (Rk : RetOk g X [(shX7, h0, o0)] (some (.int r)) (some .int))  : ∀ (n : Nat) (x1 : Int32) (x2 : Int32), LX7_opens_4 o0 n x1 x2 = some r → J g X [(shX7, h0, o0)] 4 [(0, .ref (h0 0)), (1, .int x1), (2, .int x2)] [] := by
  intro n
  induction n with
  | zero =>
    intro x1 x2 hF
    cases hF
  | succ n ih =>
    intro x1 x2 hF
    rw [LX7_opens_4.eq_2] at hF
    refine j_iload_n C 2 dX7_opens_4 rfl rfl ?_
    refine j_bipush (v := (8 : Int32)) C dX7_opens_5 rfl ?_
    refine j_icmp_ge C 32 dX7_opens_7 rfl (fun c_12 => ?_) (fun c_12 => ?_)
    · have hF := (if_pos c_12).symm.trans hF
      refine j_iload_n C 1 dX7_opens_32 rfl rfl ?_
      cases hF
      exact j_iret C Rk dX7_opens_33
    · have hF := (if_neg c_12).symm.trans hF
      refine j_iload_n C 1 dX7_opens_10 rfl rfl ?_
      refine j_aload_n C 0 dX7_opens_11 rfl rfl ?_
      refine j_iload_n C 2 dX7_opens_12 rfl rfl ?_
      obtain ⟨r_1, k_2, hF⟩ := gb1 hF
      refine j_callVi C (os' := [(shX7, h0, o0)]) [.int x2] (kX7_isOpen g h0 x2 o0 k_2) [0] rfl rfl rfl rfl 0 rfl rfl (wl_gV mw_29_17 mw_29_18 mw_29_19 mw_1_5 mw_29_20) rfl 1 rfl hd_X7_isOpen ⟨Nat.le_of_ble_eq_true rfl, Nat.le_of_ble_eq_true rfl⟩ (Nat.le_of_ble_eq_true rfl) rfl dX7_opens_13 ?_
      refine j_if_eq C 23 dX7_opens_16 rfl (fun c_11 => ?_) (fun c_11 => ?_)
      · have hF := (if_pos c_11).symm.trans hF
        refine j_iconst (v := (0 : Int32)) C dX7_opens_23 rfl ?_
        refine j_iadd C dX7_opens_24 ?_
        obtain ⟨x1_7, e_8, hF⟩ := glT hF
        refine j_istore_n C [(1, .int x1_7), (0, .ref (h0 0)), (2, .int x2)] dX7_opens_25 rfl (Nat.le_of_ble_eq_true rfl) e_8 rfl ?_
        obtain ⟨x2_9, e_10, hF⟩ := glT hF
        refine j_iinc C 2 [(2, .int x2_9), (1, .int x1_7), (0, .ref (h0 0))] dX7_opens_26 rfl e_10.symm (Nat.le_of_ble_eq_true rfl) rfl ?_
        refine j_goto C 4 dX7_opens_29 rfl ?_
        refine j_sub [(0, .ref (h0 0)), (1, .int x1_7), (2, .int x2_9)] [2, 1, 0] rfl ?_
        exact ih _ _ hF
      · have hF := (if_neg c_11).symm.trans hF
        refine j_iconst (v := (1 : Int32)) C dX7_opens_19 rfl ?_
        refine j_goto C 24 dX7_opens_20 rfl ?_
        refine j_iadd C dX7_opens_24 ?_
        obtain ⟨x1_3, e_4, hF⟩ := glT hF
        refine j_istore_n C [(1, .int x1_3), (0, .ref (h0 0)), (2, .int x2)] dX7_opens_25 rfl (Nat.le_of_ble_eq_true rfl) e_4 rfl ?_
        obtain ⟨x2_5, e_6, hF⟩ := glT hF
        refine j_iinc C 2 [(2, .int x2_5), (1, .int x1_3), (0, .ref (h0 0))] dX7_opens_26 rfl e_6.symm (Nat.le_of_ble_eq_true rfl) rfl ?_
        refine j_goto C 4 dX7_opens_29 rfl ?_
        refine j_sub [(0, .ref (h0 0)), (1, .int x1_3), (2, .int x2_5)] [2, 1, 0] rfl ?_
        exact ih _ _ hF
set_option maxRecDepth 100000 in
set_option maxHeartbeats 4000000 in
theorem kX7_opens (g : Gl) (h0 : Nat → Nat)  (o0 : Ob) {r : Int32} (hF : FX7_opens o0 = some r) : Ctr g yX7_opens (Cond.code yX7_opens cX7_opens 3 (some .int) :: wsL_law) 2 43 [(shX7, h0, o0)] [(shX7, h0, o0)] [.ref (h0 0)] (some (.int r)) := by
  refine Ctr.of (cc := cX7_opens) (maxL := 3) (ret := (some .int)) (by decide) rfl (Nat.le_of_ble_eq_true rfl) ?_
  intro X C Rk
  replace C : CxOk g X cX7_opens RX7 (Cond.code yX7_opens cX7_opens 3 (some .int) :: wsL_law) 3 2 43 := C
  show J g X [(shX7, h0, o0)] 0 [(0, .ref (h0 0))] []
  unfold FX7_opens at hF
  refine j_iconst (v := (0 : Int32)) C dX7_opens_0 rfl ?_
  refine j_istore_n C [(1, .int (0 : Int32)), (0, .ref (h0 0))] dX7_opens_1 rfl (Nat.le_of_ble_eq_true rfl) rfl rfl ?_
  refine j_iconst (v := (0 : Int32)) C dX7_opens_2 rfl ?_
  refine j_istore_n C [(2, .int (0 : Int32)), (1, .int (0 : Int32)), (0, .ref (h0 0))] dX7_opens_3 rfl (Nat.le_of_ble_eq_true rfl) rfl rfl ?_
  refine j_sub [(0, .ref (h0 0)), (1, .int (0 : Int32)), (2, .int (0 : Int32))] [2, 1, 0] rfl ?_
  refine lX7_opens_4 C h0 o0 Rk  _ _ _ hF
/-! HeadsMeetModel.howMany -/
def BX7_howMany_85 (x1 : Int32) (o0 : Ob) : Option (Int32 × Ob) :=
  b1 (FX7_ofKind (x1 - (1 : Int32)) o0) fun r_27 =>
  some (r_27, o0)
def FX7_howMany (x1 : Int32) (o0 : Ob) : Option (Int32 × Ob) :=
  lT (sV o0 4 (0 : Int32)) fun o0_2 =>
  if x1 = 0 then
    b1 (FX7_nodes o0_2) fun r_29 =>
    some (r_29, o0_2)
  else
    if x1 = 1 then
      BX7_howMany_85 x1 o0_2
    else
      if x1 = 2 then
        BX7_howMany_85 x1 o0_2
      else
        if x1 = 3 then
          BX7_howMany_85 x1 o0_2
        else
          if x1 = 4 then
            BX7_howMany_85 x1 o0_2
          else
            if x1 = 5 then
              b1 (FX7_opens o0_2) fun r_25 =>
              some (r_25, o0_2)
            else
              if x1 = 6 then
                some (oA o0_2 3 (0 : Int32).toNatClampNeg, o0_2)
              else
                if x1 = 7 then
                  b1 (FX7_meetingsNow o0_2) fun r_23 =>
                  some (r_23, o0_2)
                else
                  if x1 = 8 then
                    b1 (FX7_doneAll o0_2) fun r_21 =>
                    some (r_21, o0_2)
                  else
                    if x1 = 9 then
                      if inb (x1 - (8 : Int32)) 4 then
                      some (oA o0_2 6 (x1 - (8 : Int32)).toNatClampNeg, o0_2)
                      else none
                    else
                      if x1 = 10 then
                        if inb (x1 - (8 : Int32)) 4 then
                        some (oA o0_2 6 (x1 - (8 : Int32)).toNatClampNeg, o0_2)
                        else none
                      else
                        if x1 = 11 then
                          if inb (x1 - (8 : Int32)) 4 then
                          some (oA o0_2 6 (x1 - (8 : Int32)).toNatClampNeg, o0_2)
                          else none
                        else
                          if x1 = 12 then
                            some (oV o0_2 7, o0_2)
                          else
                            if x1 = 13 then
                              some (oV o0_2 11, o0_2)
                            else
                              if x1 = 14 then
                                some (oV o0_2 5, o0_2)
                              else
                                some ((-102 : Int32), o0_2)
set_option maxRecDepth 100000 in
set_option maxHeartbeats 4000000 in
theorem bX7_howMany_85 {g : Gl} {X : Cxt} (C : CxOk g X cX7_howMany RX7 (Cond.code yX7_howMany cX7_howMany 2 (some .int) :: wsL_law) 2 4 87) {r : Int32} {o0' : Ob} (h0 : Nat → Nat) (x1 : Int32) (o0 : Ob)  (Rk : RetOk g X [(shX7, h0, o0')] (some (.int r)) (some .int))  (hF : BX7_howMany_85  x1 o0 = some (r, o0')) : J g X [(shX7, h0, o0)] 85 [(0, .ref (h0 0)), (1, .int x1)] [] := by
  unfold BX7_howMany_85 at hF
  refine j_aload_n C 0 dX7_howMany_85 rfl rfl ?_
  refine j_iload_n C 1 dX7_howMany_86 rfl rfl ?_
  refine j_iconst (v := (1 : Int32)) C dX7_howMany_87 rfl ?_
  refine j_isub C dX7_howMany_88 ?_
  obtain ⟨r_27, k_28, hF⟩ := gb1 hF
  refine j_callVi C (os' := [(shX7, h0, o0)]) [.int (x1 - (1 : Int32))] (kX7_ofKind g h0 (x1 - (1 : Int32)) o0 k_28) [0] rfl rfl rfl rfl 0 rfl rfl (wl_gV mw_42_11 mw_42_12 mw_42_13 mw_1_5 mw_42_14) rfl 1 rfl hd_X7_ofKind ⟨Nat.le_of_ble_eq_true rfl, Nat.le_of_ble_eq_true rfl⟩ (Nat.le_of_ble_eq_true rfl) rfl dX7_howMany_89 ?_
  cases hF
  exact j_iret C Rk dX7_howMany_92
set_option maxRecDepth 100000 in
set_option maxHeartbeats 4000000 in
theorem kX7_howMany (g : Gl) (h0 : Nat → Nat) (x1 : Int32) (o0 : Ob) {r : Int32} {o0' : Ob} (hF : FX7_howMany x1 o0 = some (r, o0')) : Ctr g yX7_howMany (Cond.code yX7_howMany cX7_howMany 2 (some .int) :: wsL_law) 4 87 [(shX7, h0, o0)] [(shX7, h0, o0')] [.ref (h0 0), .int x1] (some (.int r)) := by
  refine Ctr.of (cc := cX7_howMany) (maxL := 2) (ret := (some .int)) (by decide) rfl (Nat.le_of_ble_eq_true rfl) ?_
  intro X C Rk
  replace C : CxOk g X cX7_howMany RX7 (Cond.code yX7_howMany cX7_howMany 2 (some .int) :: wsL_law) 2 4 87 := C
  show J g X [(shX7, h0, o0)] 0 [(0, .ref (h0 0)), (1, .int x1)] []
  unfold FX7_howMany at hF
  refine j_aload_n C 0 dX7_howMany_0 rfl rfl ?_
  refine j_iconst (v := (0 : Int32)) C dX7_howMany_1 rfl ?_
  obtain ⟨o0_2, e_1, hF⟩ := glT hF
  refine j_putV C tyX7_ok nmX7 0 4 rfl rfl (Nat.le_of_ble_eq_true rfl) rfl in1_X7 (List.mem_cons_of_mem _ mw_5_19) rfl fd_X7_4 rfl rfl [(shX7, h0, o0_2)] (by rw [e_1]; rfl) dX7_howMany_2 ?_
  refine j_iload_n C 1 dX7_howMany_5 rfl rfl ?_
  by_cases c_3 : x1 = 0
  · have hF := (if_pos c_3).symm.trans hF
    refine j_tableIn (off := 74) C 80 dX7_howMany_6 (by rw [c_3]; decide) (by rw [c_3]; decide) (by rw [c_3]; rfl) rfl ?_
    refine j_aload_n C 0 dX7_howMany_80 rfl rfl ?_
    obtain ⟨r_29, k_30, hF⟩ := gb1 hF
    refine j_callVi C (os' := [(shX7, h0, o0_2)]) [] (kX7_nodes g h0 o0_2 k_30) [0] rfl rfl rfl rfl 0 rfl rfl (wl_gV mw_31_5 mw_31_6 mw_31_7 mw_1_5 mw_31_8) rfl 0 rfl hd_X7_nodes ⟨Nat.le_of_ble_eq_true rfl, Nat.le_of_ble_eq_true rfl⟩ (Nat.le_of_ble_eq_true rfl) rfl dX7_howMany_81 ?_
    cases hF
    exact j_iret C Rk dX7_howMany_84
  · have hF := (if_neg c_3).symm.trans hF
    by_cases c_4 : x1 = 1
    · have hF := (if_pos c_4).symm.trans hF
      refine j_tableIn (off := 79) C 85 dX7_howMany_6 (by rw [c_4]; decide) (by rw [c_4]; decide) (by rw [c_4]; rfl) rfl ?_
      exact bX7_howMany_85 C h0 _ _ Rk  hF
    · have hF := (if_neg c_4).symm.trans hF
      by_cases c_5 : x1 = 2
      · have hF := (if_pos c_5).symm.trans hF
        refine j_tableIn (off := 79) C 85 dX7_howMany_6 (by rw [c_5]; decide) (by rw [c_5]; decide) (by rw [c_5]; rfl) rfl ?_
        exact bX7_howMany_85 C h0 _ _ Rk  hF
      · have hF := (if_neg c_5).symm.trans hF
        by_cases c_6 : x1 = 3
        · have hF := (if_pos c_6).symm.trans hF
          refine j_tableIn (off := 79) C 85 dX7_howMany_6 (by rw [c_6]; decide) (by rw [c_6]; decide) (by rw [c_6]; rfl) rfl ?_
          exact bX7_howMany_85 C h0 _ _ Rk  hF
        · have hF := (if_neg c_6).symm.trans hF
          by_cases c_7 : x1 = 4
          · have hF := (if_pos c_7).symm.trans hF
            refine j_tableIn (off := 79) C 85 dX7_howMany_6 (by rw [c_7]; decide) (by rw [c_7]; decide) (by rw [c_7]; rfl) rfl ?_
            exact bX7_howMany_85 C h0 _ _ Rk  hF
          · have hF := (if_neg c_7).symm.trans hF
            by_cases c_8 : x1 = 5
            · have hF := (if_pos c_8).symm.trans hF
              refine j_tableIn (off := 87) C 93 dX7_howMany_6 (by rw [c_8]; decide) (by rw [c_8]; decide) (by rw [c_8]; rfl) rfl ?_
              refine j_aload_n C 0 dX7_howMany_93 rfl rfl ?_
              obtain ⟨r_25, k_26, hF⟩ := gb1 hF
              refine j_callVi C (os' := [(shX7, h0, o0_2)]) [] (kX7_opens g h0 o0_2 k_26) [0] rfl rfl rfl rfl 0 rfl rfl (wl_gV mw_42_15 mw_42_16 mw_42_17 mw_1_5 mw_42_18) rfl 0 rfl hd_X7_opens ⟨Nat.le_of_ble_eq_true rfl, Nat.le_of_ble_eq_true rfl⟩ (Nat.le_of_ble_eq_true rfl) rfl dX7_howMany_94 ?_
              cases hF
              exact j_iret C Rk dX7_howMany_97
            · have hF := (if_neg c_8).symm.trans hF
              by_cases c_9 : x1 = 6
              · have hF := (if_pos c_9).symm.trans hF
                refine j_tableIn (off := 92) C 98 dX7_howMany_6 (by rw [c_9]; decide) (by rw [c_9]; decide) (by rw [c_9]; rfl) rfl ?_
                refine j_aload_n C 0 dX7_howMany_98 rfl rfl ?_
                refine j_get (v := .ref (h0 4)) C 0 3 rfl rfl (Nat.le_of_ble_eq_true rfl) rfl rfl in1_X7 (List.mem_cons_of_mem _ mw_4_13) dX7_howMany_99 ?_
                refine j_iconst (v := (0 : Int32)) C dX7_howMany_102 rfl ?_
                refine j_iald C 0 3 rfl rfl (by decide) dX7_howMany_103 ?_
                cases hF
                exact j_iret C Rk dX7_howMany_104
              · have hF := (if_neg c_9).symm.trans hF
                by_cases c_10 : x1 = 7
                · have hF := (if_pos c_10).symm.trans hF
                  refine j_tableIn (off := 99) C 105 dX7_howMany_6 (by rw [c_10]; decide) (by rw [c_10]; decide) (by rw [c_10]; rfl) rfl ?_
                  refine j_aload_n C 0 dX7_howMany_105 rfl rfl ?_
                  obtain ⟨r_23, k_24, hF⟩ := gb1 hF
                  refine j_callVi C (os' := [(shX7, h0, o0_2)]) [] (kX7_meetingsNow g h0 o0_2 k_24) [0] rfl rfl rfl rfl 0 rfl rfl (wl_gV mw_25_21 mw_25_22 mw_25_23 mw_1_5 mw_26_0) rfl 0 rfl hd_X7_meetingsNow ⟨Nat.le_of_ble_eq_true rfl, Nat.le_of_ble_eq_true rfl⟩ (Nat.le_of_ble_eq_true rfl) rfl dX7_howMany_106 ?_
                  cases hF
                  exact j_iret C Rk dX7_howMany_109
                · have hF := (if_neg c_10).symm.trans hF
                  by_cases c_11 : x1 = 8
                  · have hF := (if_pos c_11).symm.trans hF
                    refine j_tableIn (off := 104) C 110 dX7_howMany_6 (by rw [c_11]; decide) (by rw [c_11]; decide) (by rw [c_11]; rfl) rfl ?_
                    refine j_aload_n C 0 dX7_howMany_110 rfl rfl ?_
                    obtain ⟨r_21, k_22, hF⟩ := gb1 hF
                    refine j_callVi C (os' := [(shX7, h0, o0_2)]) [] (kX7_doneAll g h0 o0_2 k_22) [0] rfl rfl rfl rfl 0 rfl rfl (wl_gV mw_41_3 mw_41_4 mw_41_5 mw_1_5 mw_41_6) rfl 0 rfl hd_X7_doneAll ⟨Nat.le_of_ble_eq_true rfl, Nat.le_of_ble_eq_true rfl⟩ (Nat.le_of_ble_eq_true rfl) rfl dX7_howMany_111 ?_
                    cases hF
                    exact j_iret C Rk dX7_howMany_114
                  · have hF := (if_neg c_11).symm.trans hF
                    by_cases c_12 : x1 = 9
                    · have hF := (if_pos c_12).symm.trans hF
                      refine j_tableIn (off := 109) C 115 dX7_howMany_6 (by rw [c_12]; decide) (by rw [c_12]; decide) (by rw [c_12]; rfl) rfl ?_
                      refine j_aload_n C 0 dX7_howMany_115 rfl rfl ?_
                      refine j_get (v := .ref (h0 7)) C 0 6 rfl rfl (Nat.le_of_ble_eq_true rfl) rfl rfl in1_X7 (List.mem_cons_of_mem _ mw_4_14) dX7_howMany_116 ?_
                      refine j_iload_n C 1 dX7_howMany_119 rfl rfl ?_
                      refine j_bipush (v := (8 : Int32)) C dX7_howMany_120 rfl ?_
                      refine j_isub C dX7_howMany_122 ?_
                      obtain ⟨z_20, hF⟩ := gi hF
                      refine j_iald C 0 6 rfl rfl z_20 dX7_howMany_123 ?_
                      cases hF
                      exact j_iret C Rk dX7_howMany_124
                    · have hF := (if_neg c_12).symm.trans hF
                      by_cases c_13 : x1 = 10
                      · have hF := (if_pos c_13).symm.trans hF
                        refine j_tableIn (off := 109) C 115 dX7_howMany_6 (by rw [c_13]; decide) (by rw [c_13]; decide) (by rw [c_13]; rfl) rfl ?_
                        refine j_aload_n C 0 dX7_howMany_115 rfl rfl ?_
                        refine j_get (v := .ref (h0 7)) C 0 6 rfl rfl (Nat.le_of_ble_eq_true rfl) rfl rfl in1_X7 (List.mem_cons_of_mem _ mw_4_14) dX7_howMany_116 ?_
                        refine j_iload_n C 1 dX7_howMany_119 rfl rfl ?_
                        refine j_bipush (v := (8 : Int32)) C dX7_howMany_120 rfl ?_
                        refine j_isub C dX7_howMany_122 ?_
                        obtain ⟨z_19, hF⟩ := gi hF
                        refine j_iald C 0 6 rfl rfl z_19 dX7_howMany_123 ?_
                        cases hF
                        exact j_iret C Rk dX7_howMany_124
                      · have hF := (if_neg c_13).symm.trans hF
                        by_cases c_14 : x1 = 11
                        · have hF := (if_pos c_14).symm.trans hF
                          refine j_tableIn (off := 109) C 115 dX7_howMany_6 (by rw [c_14]; decide) (by rw [c_14]; decide) (by rw [c_14]; rfl) rfl ?_
                          refine j_aload_n C 0 dX7_howMany_115 rfl rfl ?_
                          refine j_get (v := .ref (h0 7)) C 0 6 rfl rfl (Nat.le_of_ble_eq_true rfl) rfl rfl in1_X7 (List.mem_cons_of_mem _ mw_4_14) dX7_howMany_116 ?_
                          refine j_iload_n C 1 dX7_howMany_119 rfl rfl ?_
                          refine j_bipush (v := (8 : Int32)) C dX7_howMany_120 rfl ?_
                          refine j_isub C dX7_howMany_122 ?_
                          obtain ⟨z_18, hF⟩ := gi hF
                          refine j_iald C 0 6 rfl rfl z_18 dX7_howMany_123 ?_
                          cases hF
                          exact j_iret C Rk dX7_howMany_124
                        · have hF := (if_neg c_14).symm.trans hF
                          by_cases c_15 : x1 = 12
                          · have hF := (if_pos c_15).symm.trans hF
                            refine j_tableIn (off := 119) C 125 dX7_howMany_6 (by rw [c_15]; decide) (by rw [c_15]; decide) (by rw [c_15]; rfl) rfl ?_
                            refine j_aload_n C 0 dX7_howMany_125 rfl rfl ?_
                            refine j_get (v := .int (oV o0_2 7)) C 0 7 rfl rfl (Nat.le_of_ble_eq_true rfl) rfl rfl in1_X7 (List.mem_cons_of_mem _ mw_18_8) dX7_howMany_126 ?_
                            cases hF
                            exact j_iret C Rk dX7_howMany_129
                          · have hF := (if_neg c_15).symm.trans hF
                            by_cases c_16 : x1 = 13
                            · have hF := (if_pos c_16).symm.trans hF
                              refine j_tableIn (off := 124) C 130 dX7_howMany_6 (by rw [c_16]; decide) (by rw [c_16]; decide) (by rw [c_16]; rfl) rfl ?_
                              refine j_aload_n C 0 dX7_howMany_130 rfl rfl ?_
                              refine j_get (v := .int (oV o0_2 11)) C 0 11 rfl rfl (Nat.le_of_ble_eq_true rfl) rfl rfl in1_X7 (List.mem_cons_of_mem _ mw_6_17) dX7_howMany_131 ?_
                              cases hF
                              exact j_iret C Rk dX7_howMany_134
                            · have hF := (if_neg c_16).symm.trans hF
                              by_cases c_17 : x1 = 14
                              · have hF := (if_pos c_17).symm.trans hF
                                refine j_tableIn (off := 129) C 135 dX7_howMany_6 (by rw [c_17]; decide) (by rw [c_17]; decide) (by rw [c_17]; rfl) rfl ?_
                                refine j_aload_n C 0 dX7_howMany_135 rfl rfl ?_
                                refine j_get (v := .int (oV o0_2 5)) C 0 5 rfl rfl (Nat.le_of_ble_eq_true rfl) rfl rfl in1_X7 (List.mem_cons_of_mem _ mw_18_7) dX7_howMany_136 ?_
                                cases hF
                                exact j_iret C Rk dX7_howMany_139
                              · have hF := (if_neg c_17).symm.trans hF
                                refine j_tableOut C 140 dX7_howMany_6 (by have q0 := ne_i c_3 (a := 0) rfl; have q1 := ne_i c_4 (a := 1) rfl; have q2 := ne_i c_5 (a := 2) rfl; have q3 := ne_i c_6 (a := 3) rfl; have q4 := ne_i c_7 (a := 4) rfl; have q5 := ne_i c_8 (a := 5) rfl; have q6 := ne_i c_9 (a := 6) rfl; have q7 := ne_i c_10 (a := 7) rfl; have q8 := ne_i c_11 (a := 8) rfl; have q9 := ne_i c_12 (a := 9) rfl; have q10 := ne_i c_13 (a := 10) rfl; have q11 := ne_i c_14 (a := 11) rfl; have q12 := ne_i c_15 (a := 12) rfl; have q13 := ne_i c_16 (a := 13) rfl; have q14 := ne_i c_17 (a := 14) rfl; omega) rfl ?_
                                refine j_bipush (v := (-102 : Int32)) C dX7_howMany_140 rfl ?_
                                cases hF
                                exact j_iret C Rk dX7_howMany_142
/-! HeadsMeetModel.count -/
def FX7_count (x1 : Int32) (o0 : Ob) : Option (Int32 × Ob) :=
  b2 (FX7_howMany x1 o0) fun r_1 o0_2 =>
  some (r_1, o0_2)
set_option maxRecDepth 100000 in
set_option maxHeartbeats 4000000 in
theorem kX7_count (g : Gl) (h0 : Nat → Nat) (x1 : Int32) (o0 : Ob) {r : Int32} {o0' : Ob} (hF : FX7_count x1 o0 = some (r, o0')) : Ctr g yX7_count (Cond.code yX7_count cX7_count 2 (some .int) :: wsL_law) 5 108 [(shX7, h0, o0)] [(shX7, h0, o0')] [.ref (h0 0), .int x1] (some (.int r)) := by
  refine Ctr.of (cc := cX7_count) (maxL := 2) (ret := (some .int)) (by decide) rfl (Nat.le_of_ble_eq_true rfl) ?_
  intro X C Rk
  replace C : CxOk g X cX7_count RX7 (Cond.code yX7_count cX7_count 2 (some .int) :: wsL_law) 2 5 108 := C
  show J g X [(shX7, h0, o0)] 0 [(0, .ref (h0 0)), (1, .int x1)] []
  unfold FX7_count at hF
  refine j_aload_n C 0 dX7_count_0 rfl rfl ?_
  refine j_iload_n C 1 dX7_count_1 rfl rfl ?_
  obtain ⟨r_1, o0_2, k_3, hF⟩ := gb2 hF
  refine j_callVi C (os' := [(shX7, h0, o0_2)]) [.int x1] (kX7_howMany g h0 x1 o0 k_3) [0] rfl rfl rfl rfl 0 rfl rfl (wl_gV mw_42_7 mw_42_8 mw_42_9 mw_1_5 mw_42_10) rfl 1 rfl hd_X7_howMany ⟨Nat.le_of_ble_eq_true rfl, Nat.le_of_ble_eq_true rfl⟩ (Nat.le_of_ble_eq_true rfl) rfl dX7_count_2 ?_
  cases hF
  exact j_iret C Rk dX7_count_5
/-! HeadsMeetModel.mix -/
def FX7_mix (x1 : Int64) (o0 : Ob) : Option (Ob) :=
  lT (sL o0 49 (((31 : Int64) * (oL o0 49)) + x1)) fun o0_2 =>
  some o0_2
set_option maxRecDepth 100000 in
set_option maxHeartbeats 4000000 in
theorem kX7_mix (g : Gl) (h0 : Nat → Nat) (x1 : Int64) (o0 : Ob) {o0' : Ob} (hF : FX7_mix x1 o0 = some o0') : Ctr g yX7_mix (Cond.code yX7_mix cX7_mix 3 none :: wsL_law) 0 0 [(shX7, h0, o0)] [(shX7, h0, o0')] [.ref (h0 0), .long x1] none := by
  refine Ctr.of (cc := cX7_mix) (maxL := 3) (ret := none) (by decide) rfl (Nat.le_of_ble_eq_true rfl) ?_
  intro X C Rk
  replace C : CxOk g X cX7_mix RX7 (Cond.code yX7_mix cX7_mix 3 none :: wsL_law) 3 0 0 := C
  show J g X [(shX7, h0, o0)] 0 [(0, .ref (h0 0)), (1, .long x1)] []
  unfold FX7_mix at hF
  refine j_aload_n C 0 dX7_mix_0 rfl rfl ?_
  refine j_ldc2 (v := (31 : Int64)) C (List.mem_cons_of_mem _ mw_44_11) dX7_mix_1 ?_
  refine j_aload_n C 0 dX7_mix_4 rfl rfl ?_
  refine j_get (v := .long (oL o0 49)) C 0 49 rfl rfl (Nat.le_of_ble_eq_true rfl) rfl rfl in1_X7 (List.mem_cons_of_mem _ mw_44_6) dX7_mix_5 ?_
  refine j_lmul C dX7_mix_8 ?_
  refine j_lload_n C 1 dX7_mix_9 rfl rfl ?_
  refine j_ladd C dX7_mix_10 ?_
  obtain ⟨o0_2, e_1, hF⟩ := glT hF
  refine j_putL C tyX7_ok nmX7 0 49 rfl rfl (Nat.le_of_ble_eq_true rfl) rfl in1_X7 (List.mem_cons_of_mem _ mw_44_6) rfl fd_X7_49 rfl rfl [(shX7, h0, o0_2)] (by rw [e_1]; rfl) dX7_mix_11 ?_
  cases hF
  exact j_vret C Rk dX7_mix_14
/-! HeadsMeetModel.mixSigns -/
def LX7_mixSigns_2  : Nat → Int32 → Ob → Option (Ob)
  | 0, _, _ => none
  | n + 1, x1, o0 =>
    if (oV o0 34) ≤ x1 then
      some o0
    else
      if (1000 : Int32) ≤ x1 then
        some o0
      else
        if inb x1 1000 then
        b1 (FX7_mix ((oA o0 33 x1.toNatClampNeg).toInt64) o0) fun o0_2 =>
        lT (x1 + (1 : Int32)) fun x1_4 =>
        LX7_mixSigns_2 n x1_4 o0_2
        else none
def FX7_mixSigns  (o0 : Ob) : Option (Ob) :=
  LX7_mixSigns_2  fu (0 : Int32) o0
set_option maxRecDepth 100000 in
set_option maxHeartbeats 4000000 in
theorem lX7_mixSigns_2 {g : Gl} {X : Cxt} (C : CxOk g X cX7_mixSigns RX7 (Cond.code yX7_mixSigns cX7_mixSigns 2 none :: wsL_law) 2 1 22) {o0' : Ob} (h0 : Nat → Nat)   (Rk : RetOk g X [(shX7, h0, o0')] none none)  : ∀ (n : Nat) (x1 : Int32) (o0 : Ob), LX7_mixSigns_2  n x1 o0 = some o0' → J g X [(shX7, h0, o0)] 2 [(0, .ref (h0 0)), (1, .int x1)] [] := by
  intro n
  induction n with
  | zero =>
    intro x1 o0 hF
    cases hF
  | succ n ih =>
    intro x1 o0 hF
    rw [LX7_mixSigns_2.eq_2] at hF
    refine j_iload_n C 1 dX7_mixSigns_2 rfl rfl ?_
    refine j_aload_n C 0 dX7_mixSigns_3 rfl rfl ?_
    refine j_get (v := .int (oV o0 34)) C 0 34 rfl rfl (Nat.le_of_ble_eq_true rfl) rfl rfl in1_X7 (List.mem_cons_of_mem _ mw_36_13) dX7_mixSigns_4 ?_
    refine j_icmp_ge C 34 dX7_mixSigns_7 rfl (fun c_7 => ?_) (fun c_7 => ?_)
    · have hF := (if_pos c_7).symm.trans hF
      cases hF
      exact j_vret C Rk dX7_mixSigns_34
    · have hF := (if_neg c_7).symm.trans hF
      refine j_iload_n C 1 dX7_mixSigns_10 rfl rfl ?_
      refine j_sipush (v := (1000 : Int32)) C dX7_mixSigns_11 rfl ?_
      refine j_icmp_ge C 34 dX7_mixSigns_14 rfl (fun c_6 => ?_) (fun c_6 => ?_)
      · have hF := (if_pos c_6).symm.trans hF
        cases hF
        exact j_vret C Rk dX7_mixSigns_34
      · have hF := (if_neg c_6).symm.trans hF
        refine j_aload_n C 0 dX7_mixSigns_17 rfl rfl ?_
        refine j_aload_n C 0 dX7_mixSigns_18 rfl rfl ?_
        refine j_get (v := .ref (h0 34)) C 0 33 rfl rfl (Nat.le_of_ble_eq_true rfl) rfl rfl in1_X7 (List.mem_cons_of_mem _ mw_5_10) dX7_mixSigns_19 ?_
        refine j_iload_n C 1 dX7_mixSigns_22 rfl rfl ?_
        obtain ⟨z_1, hF⟩ := gi hF
        refine j_iald C 0 33 rfl rfl z_1 dX7_mixSigns_23 ?_
        refine j_i2l C dX7_mixSigns_24 ?_
        obtain ⟨o0_2, k_3, hF⟩ := gb1 hF
        refine j_callVv C (os' := [(shX7, h0, o0_2)]) [.long ((oA o0 33 x1.toNatClampNeg).toInt64)] (kX7_mix g h0 ((oA o0 33 x1.toNatClampNeg).toInt64) o0 k_3) [0] rfl rfl rfl rfl 0 rfl rfl (wl_gV mw_44_7 mw_44_8 mw_44_9 mw_1_5 mw_44_10) rfl 1 rfl hd_X7_mix ⟨Nat.le_of_ble_eq_true rfl, Nat.le_of_ble_eq_true rfl⟩ (Nat.le_of_ble_eq_true rfl) rfl dX7_mixSigns_25 ?_
        obtain ⟨x1_4, e_5, hF⟩ := glT hF
        refine j_iinc C 1 [(1, .int x1_4), (0, .ref (h0 0))] dX7_mixSigns_28 rfl e_5.symm (Nat.le_of_ble_eq_true rfl) rfl ?_
        refine j_goto C 2 dX7_mixSigns_31 rfl ?_
        refine j_sub [(0, .ref (h0 0)), (1, .int x1_4)] [1, 0] rfl ?_
        exact ih _ _ hF
set_option maxRecDepth 100000 in
set_option maxHeartbeats 4000000 in
theorem kX7_mixSigns (g : Gl) (h0 : Nat → Nat)  (o0 : Ob) {o0' : Ob} (hF : FX7_mixSigns o0 = some o0') : Ctr g yX7_mixSigns (Cond.code yX7_mixSigns cX7_mixSigns 2 none :: wsL_law) 1 22 [(shX7, h0, o0)] [(shX7, h0, o0')] [.ref (h0 0)] none := by
  refine Ctr.of (cc := cX7_mixSigns) (maxL := 2) (ret := none) (by decide) rfl (Nat.le_of_ble_eq_true rfl) ?_
  intro X C Rk
  replace C : CxOk g X cX7_mixSigns RX7 (Cond.code yX7_mixSigns cX7_mixSigns 2 none :: wsL_law) 2 1 22 := C
  show J g X [(shX7, h0, o0)] 0 [(0, .ref (h0 0))] []
  unfold FX7_mixSigns at hF
  refine j_iconst (v := (0 : Int32)) C dX7_mixSigns_0 rfl ?_
  refine j_istore_n C [(1, .int (0 : Int32)), (0, .ref (h0 0))] dX7_mixSigns_1 rfl (Nat.le_of_ble_eq_true rfl) rfl rfl ?_
  refine j_sub [(0, .ref (h0 0)), (1, .int (0 : Int32))] [1, 0] rfl ?_
  refine lX7_mixSigns_2 C h0  Rk  _ _ _ hF
/-! HeadsMeetModel.mixNet -/
def LX7_mixNet_11 (E33 : Ob → Option (Ob)) : Nat → Int32 → Ob → Option (Ob)
  | 0, _, _ => none
  | n + 1, x1, o0 =>
    if (7 : Int32) ≤ x1 then
      E33 o0
    else
      b2 (FX7_endingNow x1 o0) fun r_5 o0_6 =>
      b1 (FX7_mix r_5.toInt64 o0_6) fun o0_8 =>
      lT (x1 + (1 : Int32)) fun x1_10 =>
      LX7_mixNet_11 E33 n x1_10 o0_8
def FX7_mixNet  (o0 : Ob) : Option (Ob) :=
  b1 (FX7_layReading (0 : Int32) o0) fun o0_1 =>
  b1 (FX7_mixSigns o0_1) fun o0_3 =>
  LX7_mixNet_11 (fun o0_13 =>
   b2 (FX7_layEnding (0 : Int32) o0_13) fun r_14 o0_15 =>
   if r_14 = 0 then
    some o0_15
   else
    b1 (FX7_layReading (2 : Int32) o0_15) fun o0_17 =>
    b1 (FX7_mixSigns o0_17) fun o0_19 =>
    some o0_19) fu (0 : Int32) o0_3
set_option maxRecDepth 100000 in
set_option maxHeartbeats 4000000 in
theorem lX7_mixNet_11 {g : Gl} {X : Cxt} (C : CxOk g X cX7_mixNet RX7 (Cond.code yX7_mixNet cX7_mixNet 2 none :: wsL_law) 2 6 138) {o0' : Ob} (h0 : Nat → Nat)  (E33 : Ob → Option (Ob)) (Rk : RetOk g X [(shX7, h0, o0')] none none) (hE33 : ∀ (o0 : Ob), E33 o0 = some o0' → J g X [(shX7, h0, o0)] 33 [(0, .ref (h0 0))] []) : ∀ (n : Nat) (x1 : Int32) (o0 : Ob), LX7_mixNet_11 E33 n x1 o0 = some o0' → J g X [(shX7, h0, o0)] 11 [(0, .ref (h0 0)), (1, .int x1)] [] := by
  intro n
  induction n with
  | zero =>
    intro x1 o0 hF
    cases hF
  | succ n ih =>
    intro x1 o0 hF
    rw [LX7_mixNet_11.eq_2] at hF
    refine j_iload_n C 1 dX7_mixNet_11 rfl rfl ?_
    refine j_bipush (v := (7 : Int32)) C dX7_mixNet_12 rfl ?_
    refine j_icmp_ge C 33 dX7_mixNet_14 rfl (fun c_12 => ?_) (fun c_12 => ?_)
    · have hF := (if_pos c_12).symm.trans hF
      refine j_sub [(0, .ref (h0 0))] [0] rfl ?_
      exact hE33 _ hF
    · have hF := (if_neg c_12).symm.trans hF
      refine j_aload_n C 0 dX7_mixNet_17 rfl rfl ?_
      refine j_aload_n C 0 dX7_mixNet_18 rfl rfl ?_
      refine j_iload_n C 1 dX7_mixNet_19 rfl rfl ?_
      obtain ⟨r_5, o0_6, k_7, hF⟩ := gb2 hF
      refine j_callVi C (os' := [(shX7, h0, o0_6)]) [.int x1] (kX7_endingNow g h0 x1 o0 k_7) [0] rfl rfl rfl rfl 0 rfl rfl (wl_gV mw_34_0 mw_34_1 mw_34_2 mw_1_5 mw_34_3) rfl 1 rfl hd_X7_endingNow ⟨Nat.le_of_ble_eq_true rfl, Nat.le_of_ble_eq_true rfl⟩ (Nat.le_of_ble_eq_true rfl) rfl dX7_mixNet_20 ?_
      refine j_i2l C dX7_mixNet_23 ?_
      obtain ⟨o0_8, k_9, hF⟩ := gb1 hF
      refine j_callVv C (os' := [(shX7, h0, o0_8)]) [.long r_5.toInt64] (kX7_mix g h0 r_5.toInt64 o0_6 k_9) [0] rfl rfl rfl rfl 0 rfl rfl (wl_gV mw_44_7 mw_44_8 mw_44_9 mw_1_5 mw_44_10) rfl 1 rfl hd_X7_mix ⟨Nat.le_of_ble_eq_true rfl, Nat.le_of_ble_eq_true rfl⟩ (Nat.le_of_ble_eq_true rfl) rfl dX7_mixNet_24 ?_
      obtain ⟨x1_10, e_11, hF⟩ := glT hF
      refine j_iinc C 1 [(1, .int x1_10), (0, .ref (h0 0))] dX7_mixNet_27 rfl e_11.symm (Nat.le_of_ble_eq_true rfl) rfl ?_
      refine j_goto C 11 dX7_mixNet_30 rfl ?_
      refine j_sub [(0, .ref (h0 0)), (1, .int x1_10)] [1, 0] rfl ?_
      exact ih _ _ hF
set_option maxRecDepth 100000 in
set_option maxHeartbeats 4000000 in
theorem kX7_mixNet (g : Gl) (h0 : Nat → Nat)  (o0 : Ob) {o0' : Ob} (hF : FX7_mixNet o0 = some o0') : Ctr g yX7_mixNet (Cond.code yX7_mixNet cX7_mixNet 2 none :: wsL_law) 6 138 [(shX7, h0, o0)] [(shX7, h0, o0')] [.ref (h0 0)] none := by
  refine Ctr.of (cc := cX7_mixNet) (maxL := 2) (ret := none) (by decide) rfl (Nat.le_of_ble_eq_true rfl) ?_
  intro X C Rk
  replace C : CxOk g X cX7_mixNet RX7 (Cond.code yX7_mixNet cX7_mixNet 2 none :: wsL_law) 2 6 138 := C
  show J g X [(shX7, h0, o0)] 0 [(0, .ref (h0 0))] []
  unfold FX7_mixNet at hF
  refine j_aload_n C 0 dX7_mixNet_0 rfl rfl ?_
  refine j_iconst (v := (0 : Int32)) C dX7_mixNet_1 rfl ?_
  obtain ⟨o0_1, k_2, hF⟩ := gb1 hF
  refine j_callVv C (os' := [(shX7, h0, o0_1)]) [.int (0 : Int32)] (kX7_layReading g h0 (0 : Int32) o0 k_2) [0] rfl rfl rfl rfl 0 rfl rfl (wl_gV mw_36_9 mw_36_10 mw_36_11 mw_1_5 mw_36_12) rfl 1 rfl hd_X7_layReading ⟨Nat.le_of_ble_eq_true rfl, Nat.le_of_ble_eq_true rfl⟩ (Nat.le_of_ble_eq_true rfl) rfl dX7_mixNet_2 ?_
  refine j_aload_n C 0 dX7_mixNet_5 rfl rfl ?_
  obtain ⟨o0_3, k_4, hF⟩ := gb1 hF
  refine j_callVv C (os' := [(shX7, h0, o0_3)]) [] (kX7_mixSigns g h0 o0_1 k_4) [0] rfl rfl rfl rfl 0 rfl rfl (wl_gV mw_44_16 mw_44_17 mw_44_18 mw_1_5 mw_44_19) rfl 0 rfl hd_X7_mixSigns ⟨Nat.le_of_ble_eq_true rfl, Nat.le_of_ble_eq_true rfl⟩ (Nat.le_of_ble_eq_true rfl) rfl dX7_mixNet_6 ?_
  refine j_iconst (v := (0 : Int32)) C dX7_mixNet_9 rfl ?_
  refine j_istore_n C [(1, .int (0 : Int32)), (0, .ref (h0 0))] dX7_mixNet_10 rfl (Nat.le_of_ble_eq_true rfl) rfl rfl ?_
  refine j_sub [(0, .ref (h0 0)), (1, .int (0 : Int32))] [1, 0] rfl ?_
  refine lX7_mixNet_11 C h0  _ Rk (fun o0_13 hF => ?_) _ _ _ hF
  refine j_aload_n C 0 dX7_mixNet_33 rfl rfl ?_
  refine j_iconst (v := (0 : Int32)) C dX7_mixNet_34 rfl ?_
  obtain ⟨r_14, o0_15, k_16, hF⟩ := gb2 hF
  refine j_callVi C (os' := [(shX7, h0, o0_15)]) [.int (0 : Int32)] (kX7_layEnding g h0 (0 : Int32) o0_13 k_16) [0] rfl rfl rfl rfl 0 rfl rfl (wl_gV mw_25_13 mw_25_14 mw_25_15 mw_1_5 mw_25_16) rfl 1 rfl hd_X7_layEnding ⟨Nat.le_of_ble_eq_true rfl, Nat.le_of_ble_eq_true rfl⟩ (Nat.le_of_ble_eq_true rfl) rfl dX7_mixNet_35 ?_
  refine j_if_eq C 50 dX7_mixNet_38 rfl (fun c_21 => ?_) (fun c_21 => ?_)
  · have hF := (if_pos c_21).symm.trans hF
    cases hF
    exact j_vret C Rk dX7_mixNet_50
  · have hF := (if_neg c_21).symm.trans hF
    refine j_aload_n C 0 dX7_mixNet_41 rfl rfl ?_
    refine j_iconst (v := (2 : Int32)) C dX7_mixNet_42 rfl ?_
    obtain ⟨o0_17, k_18, hF⟩ := gb1 hF
    refine j_callVv C (os' := [(shX7, h0, o0_17)]) [.int (2 : Int32)] (kX7_layReading g h0 (2 : Int32) o0_15 k_18) [0] rfl rfl rfl rfl 0 rfl rfl (wl_gV mw_36_9 mw_36_10 mw_36_11 mw_1_5 mw_36_12) rfl 1 rfl hd_X7_layReading ⟨Nat.le_of_ble_eq_true rfl, Nat.le_of_ble_eq_true rfl⟩ (Nat.le_of_ble_eq_true rfl) rfl dX7_mixNet_43 ?_
    refine j_aload_n C 0 dX7_mixNet_46 rfl rfl ?_
    obtain ⟨o0_19, k_20, hF⟩ := gb1 hF
    refine j_callVv C (os' := [(shX7, h0, o0_19)]) [] (kX7_mixSigns g h0 o0_17 k_20) [0] rfl rfl rfl rfl 0 rfl rfl (wl_gV mw_44_16 mw_44_17 mw_44_18 mw_1_5 mw_44_19) rfl 0 rfl hd_X7_mixSigns ⟨Nat.le_of_ble_eq_true rfl, Nat.le_of_ble_eq_true rfl⟩ (Nat.le_of_ble_eq_true rfl) rfl dX7_mixNet_47 ?_
    cases hF
    exact j_vret C Rk dX7_mixNet_50
/-! HeadsMeetModel.digest -/
def LX7_digest_38 (x1 : Int32) (E60 : Ob → Option (Int64 × Ob)) : Nat → Int32 → Ob → Option (Int64 × Ob)
  | 0, _, _ => none
  | n + 1, x2, o0 =>
    if (5 : Int32) ≤ x2 then
      E60 o0
    else
      b2 (FX7_nodeNow x1 x2 o0) fun r_9 o0_10 =>
      b1 (FX7_mix r_9.toInt64 o0_10) fun o0_12 =>
      lT (x2 + (1 : Int32)) fun x2_14 =>
      LX7_digest_38 x1 E60 n x2_14 o0_12
def LX7_digest_14 (E66 : Ob → Option (Int64 × Ob)) : Nat → Int32 → Ob → Option (Int64 × Ob)
  | 0, _, _ => none
  | n + 1, x1, o0 =>
    if (180 : Int32) ≤ x1 then
      E66 o0
    else
      b1 (FX7_kindOf x1 o0) fun r_5 =>
      if r_5 = (-1 : Int32) then
        lT (x1 + (1 : Int32)) fun x1_20 =>
        LX7_digest_14 E66 n x1_20 o0
      else
        b1 (FX7_mix x1.toInt64 o0) fun o0_7 =>
        LX7_digest_38 x1 (fun o0_17 =>
         lT (x1 + (1 : Int32)) fun x1_18 =>
         LX7_digest_14 E66 n x1_18 o0_17) fu (0 : Int32) o0_7
def LX7_digest_68 (E108 : Ob → Option (Int64 × Ob)) : Nat → Int32 → Ob → Option (Int64 × Ob)
  | 0, _, _ => none
  | n + 1, x1, o0 =>
    if (8 : Int32) ≤ x1 then
      E108 o0
    else
      b1 (FX7_isOpen x1 o0) fun r_25 =>
      if r_25 = 0 then
        lT (x1 + (1 : Int32)) fun x1_35 =>
        LX7_digest_68 E108 n x1_35 o0
      else
        b1 (FX7_mix x1.toInt64 o0) fun o0_27 =>
        b1 (FX7_at ((900 : Int32) + x1) o0_27) fun r_29 =>
        b1 (FX7_mix r_29.toInt64 o0_27) fun o0_31 =>
        lT (x1 + (1 : Int32)) fun x1_33 =>
        LX7_digest_68 E108 n x1_33 o0_31
def LX7_digest_121 (E146 : Ob → Option (Int64 × Ob)) : Nat → Int32 → Ob → Option (Int64 × Ob)
  | 0, _, _ => none
  | n + 1, x1, o0 =>
    if (oV o0 11) ≤ x1 then
      E146 o0
    else
      if inb x1 80 then
      b1 (FX7_mix ((oA o0 12 x1.toNatClampNeg).toInt64) o0) fun o0_45 =>
      lT (x1 + (1 : Int32)) fun x1_47 =>
      LX7_digest_121 E146 n x1_47 o0_45
      else none
def LX7_digest_148  : Nat → Int32 → Ob → Option (Int64 × Ob)
  | 0, _, _ => none
  | n + 1, x1, o0 =>
    if (15 : Int32) ≤ x1 then
      some (oL o0 49, o0)
    else
      b2 (FX7_howMany x1 o0) fun r_51 o0_52 =>
      b1 (FX7_mix r_51.toInt64 o0_52) fun o0_54 =>
      lT (x1 + (1 : Int32)) fun x1_56 =>
      LX7_digest_148 n x1_56 o0_54
def FX7_digest  (o0 : Ob) : Option (Int64 × Ob) :=
  lT (sV o0 4 (0 : Int32)) fun o0_2 =>
  lT (sL o0_2 49 (1153 : Int64)) fun o0_4 =>
  LX7_digest_14 (fun o0_24 =>
   LX7_digest_68 (fun o0_39 =>
    b1 (FX7_isNet o0_39) fun r_40 =>
    if r_40 = 0 then
    LX7_digest_121 (fun o0_59 =>
     LX7_digest_148 fu (0 : Int32) o0_59) fu (0 : Int32) o0_39
    else
    b1 (FX7_mixNet o0_39) fun o0_42 =>
    LX7_digest_121 (fun o0_50 =>
     LX7_digest_148 fu (0 : Int32) o0_50) fu (0 : Int32) o0_42) fu (0 : Int32) o0_24) fu (0 : Int32) o0_4
set_option maxRecDepth 100000 in
set_option maxHeartbeats 4000000 in
theorem lX7_digest_38 {g : Gl} {X : Cxt} (C : CxOk g X cX7_digest RX7 (Cond.code yX7_digest cX7_digest 3 (some .long) :: wsL_law) 3 8 189) {r : Int64} {o0' : Ob} (h0 : Nat → Nat) (x1 : Int32) (E60 : Ob → Option (Int64 × Ob)) (Rk : RetOk g X [(shX7, h0, o0')] (some (.long r)) (some .long)) (hE60 : ∀ (o0 : Ob), E60 o0 = some (r, o0') → J g X [(shX7, h0, o0)] 60 [(0, .ref (h0 0)), (1, .int x1)] []) : ∀ (n : Nat) (x2 : Int32) (o0 : Ob), LX7_digest_38 x1 E60 n x2 o0 = some (r, o0') → J g X [(shX7, h0, o0)] 38 [(0, .ref (h0 0)), (1, .int x1), (2, .int x2)] [] := by
  intro n
  induction n with
  | zero =>
    intro x2 o0 hF
    cases hF
  | succ n ih =>
    intro x2 o0 hF
    rw [LX7_digest_38.eq_2] at hF
    refine j_iload_n C 2 dX7_digest_38 rfl rfl ?_
    refine j_iconst (v := (5 : Int32)) C dX7_digest_39 rfl ?_
    refine j_icmp_ge C 60 dX7_digest_40 rfl (fun c_16 => ?_) (fun c_16 => ?_)
    · have hF := (if_pos c_16).symm.trans hF
      refine j_sub [(0, .ref (h0 0)), (1, .int x1)] [0, 1] rfl ?_
      exact hE60 _ hF
    · have hF := (if_neg c_16).symm.trans hF
      refine j_aload_n C 0 dX7_digest_43 rfl rfl ?_
      refine j_aload_n C 0 dX7_digest_44 rfl rfl ?_
      refine j_iload_n C 1 dX7_digest_45 rfl rfl ?_
      refine j_iload_n C 2 dX7_digest_46 rfl rfl ?_
      obtain ⟨r_9, o0_10, k_11, hF⟩ := gb2 hF
      refine j_callVi C (os' := [(shX7, h0, o0_10)]) [.int x1, .int x2] (kX7_nodeNow g h0 x1 x2 o0 k_11) [0] rfl rfl rfl rfl 0 rfl rfl (wl_gV mw_24_13 mw_24_14 mw_24_15 mw_1_5 mw_24_16) rfl 2 rfl hd_X7_nodeNow ⟨Nat.le_of_ble_eq_true rfl, Nat.le_of_ble_eq_true rfl⟩ (Nat.le_of_ble_eq_true rfl) rfl dX7_digest_47 ?_
      refine j_i2l C dX7_digest_50 ?_
      obtain ⟨o0_12, k_13, hF⟩ := gb1 hF
      refine j_callVv C (os' := [(shX7, h0, o0_12)]) [.long r_9.toInt64] (kX7_mix g h0 r_9.toInt64 o0_10 k_13) [0] rfl rfl rfl rfl 0 rfl rfl (wl_gV mw_44_7 mw_44_8 mw_44_9 mw_1_5 mw_44_10) rfl 1 rfl hd_X7_mix ⟨Nat.le_of_ble_eq_true rfl, Nat.le_of_ble_eq_true rfl⟩ (Nat.le_of_ble_eq_true rfl) rfl dX7_digest_51 ?_
      obtain ⟨x2_14, e_15, hF⟩ := glT hF
      refine j_iinc C 2 [(2, .int x2_14), (0, .ref (h0 0)), (1, .int x1)] dX7_digest_54 rfl e_15.symm (Nat.le_of_ble_eq_true rfl) rfl ?_
      refine j_goto C 38 dX7_digest_57 rfl ?_
      refine j_sub [(0, .ref (h0 0)), (1, .int x1), (2, .int x2_14)] [1, 2, 0] rfl ?_
      exact ih _ _ hF
set_option maxRecDepth 100000 in
set_option maxHeartbeats 4000000 in
theorem lX7_digest_14 {g : Gl} {X : Cxt} (C : CxOk g X cX7_digest RX7 (Cond.code yX7_digest cX7_digest 3 (some .long) :: wsL_law) 3 8 189) {r : Int64} {o0' : Ob} (h0 : Nat → Nat)  (E66 : Ob → Option (Int64 × Ob)) (Rk : RetOk g X [(shX7, h0, o0')] (some (.long r)) (some .long)) (hE66 : ∀ (o0 : Ob), E66 o0 = some (r, o0') → J g X [(shX7, h0, o0)] 66 [(0, .ref (h0 0))] []) : ∀ (n : Nat) (x1 : Int32) (o0 : Ob), LX7_digest_14 E66 n x1 o0 = some (r, o0') → J g X [(shX7, h0, o0)] 14 [(0, .ref (h0 0)), (1, .int x1)] [] := by
  intro n
  induction n with
  | zero =>
    intro x1 o0 hF
    cases hF
  | succ n ih =>
    intro x1 o0 hF
    rw [LX7_digest_14.eq_2] at hF
    refine j_iload_n C 1 dX7_digest_14 rfl rfl ?_
    refine j_sipush (v := (180 : Int32)) C dX7_digest_15 rfl ?_
    refine j_icmp_ge C 66 dX7_digest_18 rfl (fun c_23 => ?_) (fun c_23 => ?_)
    · have hF := (if_pos c_23).symm.trans hF
      refine j_sub [(0, .ref (h0 0))] [0] rfl ?_
      exact hE66 _ hF
    · have hF := (if_neg c_23).symm.trans hF
      refine j_aload_n C 0 dX7_digest_21 rfl rfl ?_
      refine j_iload_n C 1 dX7_digest_22 rfl rfl ?_
      obtain ⟨r_5, k_6, hF⟩ := gb1 hF
      refine j_callVi C (os' := [(shX7, h0, o0)]) [.int x1] (kX7_kindOf g h0 x1 o0 k_6) [0] rfl rfl rfl rfl 0 rfl rfl (wl_gV mw_24_9 mw_24_10 mw_24_11 mw_1_5 mw_24_12) rfl 1 rfl hd_X7_kindOf ⟨Nat.le_of_ble_eq_true rfl, Nat.le_of_ble_eq_true rfl⟩ (Nat.le_of_ble_eq_true rfl) rfl dX7_digest_23 ?_
      refine j_iconst (v := (-1 : Int32)) C dX7_digest_26 rfl ?_
      refine j_icmp_eq C 60 dX7_digest_27 rfl (fun c_22 => ?_) (fun c_22 => ?_)
      · have hF := (if_pos c_22).symm.trans hF
        obtain ⟨x1_20, e_21, hF⟩ := glT hF
        refine j_iinc C 1 [(1, .int x1_20), (0, .ref (h0 0))] dX7_digest_60 rfl e_21.symm (Nat.le_of_ble_eq_true rfl) rfl ?_
        refine j_goto C 14 dX7_digest_63 rfl ?_
        refine j_sub [(0, .ref (h0 0)), (1, .int x1_20)] [1, 0] rfl ?_
        exact ih _ _ hF
      · have hF := (if_neg c_22).symm.trans hF
        refine j_aload_n C 0 dX7_digest_30 rfl rfl ?_
        refine j_iload_n C 1 dX7_digest_31 rfl rfl ?_
        refine j_i2l C dX7_digest_32 ?_
        obtain ⟨o0_7, k_8, hF⟩ := gb1 hF
        refine j_callVv C (os' := [(shX7, h0, o0_7)]) [.long x1.toInt64] (kX7_mix g h0 x1.toInt64 o0 k_8) [0] rfl rfl rfl rfl 0 rfl rfl (wl_gV mw_44_7 mw_44_8 mw_44_9 mw_1_5 mw_44_10) rfl 1 rfl hd_X7_mix ⟨Nat.le_of_ble_eq_true rfl, Nat.le_of_ble_eq_true rfl⟩ (Nat.le_of_ble_eq_true rfl) rfl dX7_digest_33 ?_
        refine j_iconst (v := (0 : Int32)) C dX7_digest_36 rfl ?_
        refine j_istore_n C [(2, .int (0 : Int32)), (0, .ref (h0 0)), (1, .int x1)] dX7_digest_37 rfl (Nat.le_of_ble_eq_true rfl) rfl rfl ?_
        refine j_sub [(0, .ref (h0 0)), (1, .int x1), (2, .int (0 : Int32))] [1, 2, 0] rfl ?_
        refine lX7_digest_38 C h0 x1 _ Rk (fun o0_17 hF => ?_) _ _ _ hF
        obtain ⟨x1_18, e_19, hF⟩ := glT hF
        refine j_iinc C 1 [(1, .int x1_18), (0, .ref (h0 0))] dX7_digest_60 rfl e_19.symm (Nat.le_of_ble_eq_true rfl) rfl ?_
        refine j_goto C 14 dX7_digest_63 rfl ?_
        refine j_sub [(0, .ref (h0 0)), (1, .int x1_18)] [1, 0] rfl ?_
        exact ih _ _ hF
set_option maxRecDepth 100000 in
set_option maxHeartbeats 4000000 in
theorem lX7_digest_68 {g : Gl} {X : Cxt} (C : CxOk g X cX7_digest RX7 (Cond.code yX7_digest cX7_digest 3 (some .long) :: wsL_law) 3 8 189) {r : Int64} {o0' : Ob} (h0 : Nat → Nat)  (E108 : Ob → Option (Int64 × Ob)) (Rk : RetOk g X [(shX7, h0, o0')] (some (.long r)) (some .long)) (hE108 : ∀ (o0 : Ob), E108 o0 = some (r, o0') → J g X [(shX7, h0, o0)] 108 [(0, .ref (h0 0))] []) : ∀ (n : Nat) (x1 : Int32) (o0 : Ob), LX7_digest_68 E108 n x1 o0 = some (r, o0') → J g X [(shX7, h0, o0)] 68 [(0, .ref (h0 0)), (1, .int x1)] [] := by
  intro n
  induction n with
  | zero =>
    intro x1 o0 hF
    cases hF
  | succ n ih =>
    intro x1 o0 hF
    rw [LX7_digest_68.eq_2] at hF
    refine j_iload_n C 1 dX7_digest_68 rfl rfl ?_
    refine j_bipush (v := (8 : Int32)) C dX7_digest_69 rfl ?_
    refine j_icmp_ge C 108 dX7_digest_71 rfl (fun c_38 => ?_) (fun c_38 => ?_)
    · have hF := (if_pos c_38).symm.trans hF
      refine j_sub [(0, .ref (h0 0))] [0] rfl ?_
      exact hE108 _ hF
    · have hF := (if_neg c_38).symm.trans hF
      refine j_aload_n C 0 dX7_digest_74 rfl rfl ?_
      refine j_iload_n C 1 dX7_digest_75 rfl rfl ?_
      obtain ⟨r_25, k_26, hF⟩ := gb1 hF
      refine j_callVi C (os' := [(shX7, h0, o0)]) [.int x1] (kX7_isOpen g h0 x1 o0 k_26) [0] rfl rfl rfl rfl 0 rfl rfl (wl_gV mw_29_17 mw_29_18 mw_29_19 mw_1_5 mw_29_20) rfl 1 rfl hd_X7_isOpen ⟨Nat.le_of_ble_eq_true rfl, Nat.le_of_ble_eq_true rfl⟩ (Nat.le_of_ble_eq_true rfl) rfl dX7_digest_76 ?_
      refine j_if_eq C 102 dX7_digest_79 rfl (fun c_37 => ?_) (fun c_37 => ?_)
      · have hF := (if_pos c_37).symm.trans hF
        obtain ⟨x1_35, e_36, hF⟩ := glT hF
        refine j_iinc C 1 [(1, .int x1_35), (0, .ref (h0 0))] dX7_digest_102 rfl e_36.symm (Nat.le_of_ble_eq_true rfl) rfl ?_
        refine j_goto C 68 dX7_digest_105 rfl ?_
        refine j_sub [(0, .ref (h0 0)), (1, .int x1_35)] [1, 0] rfl ?_
        exact ih _ _ hF
      · have hF := (if_neg c_37).symm.trans hF
        refine j_aload_n C 0 dX7_digest_82 rfl rfl ?_
        refine j_iload_n C 1 dX7_digest_83 rfl rfl ?_
        refine j_i2l C dX7_digest_84 ?_
        obtain ⟨o0_27, k_28, hF⟩ := gb1 hF
        refine j_callVv C (os' := [(shX7, h0, o0_27)]) [.long x1.toInt64] (kX7_mix g h0 x1.toInt64 o0 k_28) [0] rfl rfl rfl rfl 0 rfl rfl (wl_gV mw_44_7 mw_44_8 mw_44_9 mw_1_5 mw_44_10) rfl 1 rfl hd_X7_mix ⟨Nat.le_of_ble_eq_true rfl, Nat.le_of_ble_eq_true rfl⟩ (Nat.le_of_ble_eq_true rfl) rfl dX7_digest_85 ?_
        refine j_aload_n C 0 dX7_digest_88 rfl rfl ?_
        refine j_aload_n C 0 dX7_digest_89 rfl rfl ?_
        refine j_sipush (v := (900 : Int32)) C dX7_digest_90 rfl ?_
        refine j_iload_n C 1 dX7_digest_93 rfl rfl ?_
        refine j_iadd C dX7_digest_94 ?_
        obtain ⟨r_29, k_30, hF⟩ := gb1 hF
        refine j_callVi C (os' := [(shX7, h0, o0_27)]) [.int ((900 : Int32) + x1)] (kX7_at g h0 ((900 : Int32) + x1) o0_27 k_30) [0] rfl rfl rfl rfl 0 rfl rfl (wl_gV mw_24_21 mw_24_22 mw_24_23 mw_1_5 mw_25_0) rfl 1 rfl hd_X7_at ⟨Nat.le_of_ble_eq_true rfl, Nat.le_of_ble_eq_true rfl⟩ (Nat.le_of_ble_eq_true rfl) rfl dX7_digest_95 ?_
        refine j_i2l C dX7_digest_98 ?_
        obtain ⟨o0_31, k_32, hF⟩ := gb1 hF
        refine j_callVv C (os' := [(shX7, h0, o0_31)]) [.long r_29.toInt64] (kX7_mix g h0 r_29.toInt64 o0_27 k_32) [0] rfl rfl rfl rfl 0 rfl rfl (wl_gV mw_44_7 mw_44_8 mw_44_9 mw_1_5 mw_44_10) rfl 1 rfl hd_X7_mix ⟨Nat.le_of_ble_eq_true rfl, Nat.le_of_ble_eq_true rfl⟩ (Nat.le_of_ble_eq_true rfl) rfl dX7_digest_99 ?_
        obtain ⟨x1_33, e_34, hF⟩ := glT hF
        refine j_iinc C 1 [(1, .int x1_33), (0, .ref (h0 0))] dX7_digest_102 rfl e_34.symm (Nat.le_of_ble_eq_true rfl) rfl ?_
        refine j_goto C 68 dX7_digest_105 rfl ?_
        refine j_sub [(0, .ref (h0 0)), (1, .int x1_33)] [1, 0] rfl ?_
        exact ih _ _ hF
set_option maxRecDepth 100000 in
set_option maxHeartbeats 4000000 in
theorem lX7_digest_121 {g : Gl} {X : Cxt} (C : CxOk g X cX7_digest RX7 (Cond.code yX7_digest cX7_digest 3 (some .long) :: wsL_law) 3 8 189) {r : Int64} {o0' : Ob} (h0 : Nat → Nat)  (E146 : Ob → Option (Int64 × Ob)) (Rk : RetOk g X [(shX7, h0, o0')] (some (.long r)) (some .long)) (hE146 : ∀ (o0 : Ob), E146 o0 = some (r, o0') → J g X [(shX7, h0, o0)] 146 [(0, .ref (h0 0))] []) : ∀ (n : Nat) (x1 : Int32) (o0 : Ob), LX7_digest_121 E146 n x1 o0 = some (r, o0') → J g X [(shX7, h0, o0)] 121 [(0, .ref (h0 0)), (1, .int x1)] [] := by
  intro n
  induction n with
  | zero =>
    intro x1 o0 hF
    cases hF
  | succ n ih =>
    intro x1 o0 hF
    rw [LX7_digest_121.eq_2] at hF
    refine j_iload_n C 1 dX7_digest_121 rfl rfl ?_
    refine j_aload_n C 0 dX7_digest_122 rfl rfl ?_
    refine j_get (v := .int (oV o0 11)) C 0 11 rfl rfl (Nat.le_of_ble_eq_true rfl) rfl rfl in1_X7 (List.mem_cons_of_mem _ mw_6_17) dX7_digest_123 ?_
    refine j_icmp_ge C 146 dX7_digest_126 rfl (fun c_49 => ?_) (fun c_49 => ?_)
    · have hF := (if_pos c_49).symm.trans hF
      refine j_sub [(0, .ref (h0 0))] [0] rfl ?_
      exact hE146 _ hF
    · have hF := (if_neg c_49).symm.trans hF
      refine j_aload_n C 0 dX7_digest_129 rfl rfl ?_
      refine j_aload_n C 0 dX7_digest_130 rfl rfl ?_
      refine j_get (v := .ref (h0 13)) C 0 12 rfl rfl (Nat.le_of_ble_eq_true rfl) rfl rfl in1_X7 (List.mem_cons_of_mem _ mw_4_19) dX7_digest_131 ?_
      refine j_iload_n C 1 dX7_digest_134 rfl rfl ?_
      obtain ⟨z_44, hF⟩ := gi hF
      refine j_bald C 0 12 rfl rfl z_44 dX7_digest_135 ?_
      refine j_i2l C dX7_digest_136 ?_
      obtain ⟨o0_45, k_46, hF⟩ := gb1 hF
      refine j_callVv C (os' := [(shX7, h0, o0_45)]) [.long ((oA o0 12 x1.toNatClampNeg).toInt64)] (kX7_mix g h0 ((oA o0 12 x1.toNatClampNeg).toInt64) o0 k_46) [0] rfl rfl rfl rfl 0 rfl rfl (wl_gV mw_44_7 mw_44_8 mw_44_9 mw_1_5 mw_44_10) rfl 1 rfl hd_X7_mix ⟨Nat.le_of_ble_eq_true rfl, Nat.le_of_ble_eq_true rfl⟩ (Nat.le_of_ble_eq_true rfl) rfl dX7_digest_137 ?_
      obtain ⟨x1_47, e_48, hF⟩ := glT hF
      refine j_iinc C 1 [(1, .int x1_47), (0, .ref (h0 0))] dX7_digest_140 rfl e_48.symm (Nat.le_of_ble_eq_true rfl) rfl ?_
      refine j_goto C 121 dX7_digest_143 rfl ?_
      refine j_sub [(0, .ref (h0 0)), (1, .int x1_47)] [1, 0] rfl ?_
      exact ih _ _ hF
set_option maxRecDepth 100000 in
set_option maxHeartbeats 4000000 in
theorem lX7_digest_148 {g : Gl} {X : Cxt} (C : CxOk g X cX7_digest RX7 (Cond.code yX7_digest cX7_digest 3 (some .long) :: wsL_law) 3 8 189) {r : Int64} {o0' : Ob} (h0 : Nat → Nat)   (Rk : RetOk g X [(shX7, h0, o0')] (some (.long r)) (some .long))  : ∀ (n : Nat) (x1 : Int32) (o0 : Ob), LX7_digest_148  n x1 o0 = some (r, o0') → J g X [(shX7, h0, o0)] 148 [(0, .ref (h0 0)), (1, .int x1)] [] := by
  intro n
  induction n with
  | zero =>
    intro x1 o0 hF
    cases hF
  | succ n ih =>
    intro x1 o0 hF
    rw [LX7_digest_148.eq_2] at hF
    refine j_iload_n C 1 dX7_digest_148 rfl rfl ?_
    refine j_bipush (v := (15 : Int32)) C dX7_digest_149 rfl ?_
    refine j_icmp_ge C 170 dX7_digest_151 rfl (fun c_58 => ?_) (fun c_58 => ?_)
    · have hF := (if_pos c_58).symm.trans hF
      refine j_aload_n C 0 dX7_digest_170 rfl rfl ?_
      refine j_get (v := .long (oL o0 49)) C 0 49 rfl rfl (Nat.le_of_ble_eq_true rfl) rfl rfl in1_X7 (List.mem_cons_of_mem _ mw_44_6) dX7_digest_171 ?_
      cases hF
      exact j_lret C Rk dX7_digest_174
    · have hF := (if_neg c_58).symm.trans hF
      refine j_aload_n C 0 dX7_digest_154 rfl rfl ?_
      refine j_aload_n C 0 dX7_digest_155 rfl rfl ?_
      refine j_iload_n C 1 dX7_digest_156 rfl rfl ?_
      obtain ⟨r_51, o0_52, k_53, hF⟩ := gb2 hF
      refine j_callVi C (os' := [(shX7, h0, o0_52)]) [.int x1] (kX7_howMany g h0 x1 o0 k_53) [0] rfl rfl rfl rfl 0 rfl rfl (wl_gV mw_42_7 mw_42_8 mw_42_9 mw_1_5 mw_42_10) rfl 1 rfl hd_X7_howMany ⟨Nat.le_of_ble_eq_true rfl, Nat.le_of_ble_eq_true rfl⟩ (Nat.le_of_ble_eq_true rfl) rfl dX7_digest_157 ?_
      refine j_i2l C dX7_digest_160 ?_
      obtain ⟨o0_54, k_55, hF⟩ := gb1 hF
      refine j_callVv C (os' := [(shX7, h0, o0_54)]) [.long r_51.toInt64] (kX7_mix g h0 r_51.toInt64 o0_52 k_55) [0] rfl rfl rfl rfl 0 rfl rfl (wl_gV mw_44_7 mw_44_8 mw_44_9 mw_1_5 mw_44_10) rfl 1 rfl hd_X7_mix ⟨Nat.le_of_ble_eq_true rfl, Nat.le_of_ble_eq_true rfl⟩ (Nat.le_of_ble_eq_true rfl) rfl dX7_digest_161 ?_
      obtain ⟨x1_56, e_57, hF⟩ := glT hF
      refine j_iinc C 1 [(1, .int x1_56), (0, .ref (h0 0))] dX7_digest_164 rfl e_57.symm (Nat.le_of_ble_eq_true rfl) rfl ?_
      refine j_goto C 148 dX7_digest_167 rfl ?_
      refine j_sub [(0, .ref (h0 0)), (1, .int x1_56)] [1, 0] rfl ?_
      exact ih _ _ hF
set_option maxRecDepth 100000 in
set_option maxHeartbeats 4000000 in
theorem kX7_digest (g : Gl) (h0 : Nat → Nat)  (o0 : Ob) {r : Int64} {o0' : Ob} (hF : FX7_digest o0 = some (r, o0')) : Ctr g yX7_digest (Cond.code yX7_digest cX7_digest 3 (some .long) :: wsL_law) 8 189 [(shX7, h0, o0)] [(shX7, h0, o0')] [.ref (h0 0)] (some (.long r)) := by
  refine Ctr.of (cc := cX7_digest) (maxL := 3) (ret := (some .long)) (by decide) rfl (Nat.le_of_ble_eq_true rfl) ?_
  intro X C Rk
  replace C : CxOk g X cX7_digest RX7 (Cond.code yX7_digest cX7_digest 3 (some .long) :: wsL_law) 3 8 189 := C
  show J g X [(shX7, h0, o0)] 0 [(0, .ref (h0 0))] []
  unfold FX7_digest at hF
  refine j_aload_n C 0 dX7_digest_0 rfl rfl ?_
  refine j_iconst (v := (0 : Int32)) C dX7_digest_1 rfl ?_
  obtain ⟨o0_2, e_1, hF⟩ := glT hF
  refine j_putV C tyX7_ok nmX7 0 4 rfl rfl (Nat.le_of_ble_eq_true rfl) rfl in1_X7 (List.mem_cons_of_mem _ mw_5_19) rfl fd_X7_4 rfl rfl [(shX7, h0, o0_2)] (by rw [e_1]; rfl) dX7_digest_2 ?_
  refine j_aload_n C 0 dX7_digest_5 rfl rfl ?_
  refine j_ldc2 (v := (1153 : Int64)) C (List.mem_cons_of_mem _ mw_44_5) dX7_digest_6 ?_
  obtain ⟨o0_4, e_3, hF⟩ := glT hF
  refine j_putL C tyX7_ok nmX7 0 49 rfl rfl (Nat.le_of_ble_eq_true rfl) rfl in1_X7 (List.mem_cons_of_mem _ mw_44_6) rfl fd_X7_49 rfl rfl [(shX7, h0, o0_4)] (by rw [e_3]; rfl) dX7_digest_9 ?_
  refine j_iconst (v := (0 : Int32)) C dX7_digest_12 rfl ?_
  refine j_istore_n C [(1, .int (0 : Int32)), (0, .ref (h0 0))] dX7_digest_13 rfl (Nat.le_of_ble_eq_true rfl) rfl rfl ?_
  refine j_sub [(0, .ref (h0 0)), (1, .int (0 : Int32))] [1, 0] rfl ?_
  refine lX7_digest_14 C h0  _ Rk (fun o0_24 hF => ?_) _ _ _ hF
  refine j_iconst (v := (0 : Int32)) C dX7_digest_66 rfl ?_
  refine j_istore_n C [(1, .int (0 : Int32)), (0, .ref (h0 0))] dX7_digest_67 rfl (Nat.le_of_ble_eq_true rfl) rfl rfl ?_
  refine j_sub [(0, .ref (h0 0)), (1, .int (0 : Int32))] [1, 0] rfl ?_
  refine lX7_digest_68 C h0  _ Rk (fun o0_39 hF => ?_) _ _ _ hF
  refine j_aload_n C 0 dX7_digest_108 rfl rfl ?_
  obtain ⟨r_40, k_41, hF⟩ := gb1 hF
  refine j_callVi C (os' := [(shX7, h0, o0_39)]) [] (kX7_isNet g h0 o0_39 k_41) [0] rfl rfl rfl rfl 0 rfl rfl (wl_gV mw_30_7 mw_30_8 mw_30_9 mw_1_5 mw_30_10) rfl 0 rfl hd_X7_isNet ⟨Nat.le_of_ble_eq_true rfl, Nat.le_of_ble_eq_true rfl⟩ (Nat.le_of_ble_eq_true rfl) rfl dX7_digest_109 ?_
  refine j_if_eq C 119 dX7_digest_112 rfl (fun c_60 => ?_) (fun c_60 => ?_)
  · have hF := (if_pos c_60).symm.trans hF
    refine j_iconst (v := (0 : Int32)) C dX7_digest_119 rfl ?_
    refine j_istore_n C [(1, .int (0 : Int32)), (0, .ref (h0 0))] dX7_digest_120 rfl (Nat.le_of_ble_eq_true rfl) rfl rfl ?_
    refine j_sub [(0, .ref (h0 0)), (1, .int (0 : Int32))] [1, 0] rfl ?_
    refine lX7_digest_121 C h0  _ Rk (fun o0_59 hF => ?_) _ _ _ hF
    refine j_iconst (v := (0 : Int32)) C dX7_digest_146 rfl ?_
    refine j_istore_n C [(1, .int (0 : Int32)), (0, .ref (h0 0))] dX7_digest_147 rfl (Nat.le_of_ble_eq_true rfl) rfl rfl ?_
    refine j_sub [(0, .ref (h0 0)), (1, .int (0 : Int32))] [1, 0] rfl ?_
    refine lX7_digest_148 C h0  Rk  _ _ _ hF
  · have hF := (if_neg c_60).symm.trans hF
    refine j_aload_n C 0 dX7_digest_115 rfl rfl ?_
    obtain ⟨o0_42, k_43, hF⟩ := gb1 hF
    refine j_callVv C (os' := [(shX7, h0, o0_42)]) [] (kX7_mixNet g h0 o0_39 k_43) [0] rfl rfl rfl rfl 0 rfl rfl (wl_gV mw_44_12 mw_44_13 mw_44_14 mw_1_5 mw_44_15) rfl 0 rfl hd_X7_mixNet ⟨Nat.le_of_ble_eq_true rfl, Nat.le_of_ble_eq_true rfl⟩ (Nat.le_of_ble_eq_true rfl) rfl dX7_digest_116 ?_
    refine j_iconst (v := (0 : Int32)) C dX7_digest_119 rfl ?_
    refine j_istore_n C [(1, .int (0 : Int32)), (0, .ref (h0 0))] dX7_digest_120 rfl (Nat.le_of_ble_eq_true rfl) rfl rfl ?_
    refine j_sub [(0, .ref (h0 0)), (1, .int (0 : Int32))] [1, 0] rfl ?_
    refine lX7_digest_121 C h0  _ Rk (fun o0_50 hF => ?_) _ _ _ hF
    refine j_iconst (v := (0 : Int32)) C dX7_digest_146 rfl ?_
    refine j_istore_n C [(1, .int (0 : Int32)), (0, .ref (h0 0))] dX7_digest_147 rfl (Nat.le_of_ble_eq_true rfl) rfl rfl ?_
    refine j_sub [(0, .ref (h0 0)), (1, .int (0 : Int32))] [1, 0] rfl ?_
    refine lX7_digest_148 C h0  Rk  _ _ _ hF
