theorem hd_J0_coder_7d493 : yJ0_coder_7d493.cls = "java/lang/String" ∧ yJ0_coder_7d493.cls ≠ "java/lang/invoke/MethodHandle" ∧ yJ0_coder_7d493.cls ≠ "java/lang/invoke/VarHandle" ∧ (parseMethodDescriptor yJ0_coder_7d493.desc).map (fun d => d.parameters.length) = some 0 := by decide +kernel
theorem hd_J0_isLatin1_aae02 : yJ0_isLatin1_aae02.cls = "java/lang/String" ∧ yJ0_isLatin1_aae02.cls ≠ "java/lang/invoke/MethodHandle" ∧ yJ0_isLatin1_aae02.cls ≠ "java/lang/invoke/VarHandle" ∧ (parseMethodDescriptor yJ0_isLatin1_aae02.desc).map (fun d => d.parameters.length) = some 0 := by decide +kernel
theorem hd_J0_length_8abf5 : yJ0_length_8abf5.cls = "java/lang/String" ∧ yJ0_length_8abf5.cls ≠ "java/lang/invoke/MethodHandle" ∧ yJ0_length_8abf5.cls ≠ "java/lang/invoke/VarHandle" ∧ (parseMethodDescriptor yJ0_length_8abf5.desc).map (fun d => d.parameters.length) = some 0 := by decide +kernel
theorem hd_J3_checkIndex_8e157 : yJ3_checkIndex_8e157.cls ≠ "java/lang/invoke/MethodHandle" ∧ yJ3_checkIndex_8e157.cls ≠ "java/lang/invoke/VarHandle" ∧ (parseMethodDescriptor yJ3_checkIndex_8e157.desc).map (fun d => d.parameters.length) = some 3 := by decide +kernel
theorem hd_J0_checkIndex_df160 : yJ0_checkIndex_df160.cls ≠ "java/lang/invoke/MethodHandle" ∧ yJ0_checkIndex_df160.cls ≠ "java/lang/invoke/VarHandle" ∧ (parseMethodDescriptor yJ0_checkIndex_df160.desc).map (fun d => d.parameters.length) = some 2 := by decide +kernel
theorem hd_J1_charAt_3b067 : yJ1_charAt_3b067.cls ≠ "java/lang/invoke/MethodHandle" ∧ yJ1_charAt_3b067.cls ≠ "java/lang/invoke/VarHandle" ∧ (parseMethodDescriptor yJ1_charAt_3b067.desc).map (fun d => d.parameters.length) = some 2 := by decide +kernel
theorem hd_J0_charAt_5068e : yJ0_charAt_5068e.cls = "java/lang/String" ∧ yJ0_charAt_5068e.cls ≠ "java/lang/invoke/MethodHandle" ∧ yJ0_charAt_5068e.cls ≠ "java/lang/invoke/VarHandle" ∧ (parseMethodDescriptor yJ0_charAt_5068e.desc).map (fun d => d.parameters.length) = some 1 := by decide +kernel
theorem hd_J1_canEncode_9a6ad : yJ1_canEncode_9a6ad.cls ≠ "java/lang/invoke/MethodHandle" ∧ yJ1_canEncode_9a6ad.cls ≠ "java/lang/invoke/VarHandle" ∧ (parseMethodDescriptor yJ1_canEncode_9a6ad.desc).map (fun d => d.parameters.length) = some 1 := by decide +kernel
theorem hd_J1_indexOfChar_4cfef : yJ1_indexOfChar_4cfef.cls ≠ "java/lang/invoke/MethodHandle" ∧ yJ1_indexOfChar_4cfef.cls ≠ "java/lang/invoke/VarHandle" ∧ (parseMethodDescriptor yJ1_indexOfChar_4cfef.desc).map (fun d => d.parameters.length) = some 4 := by decide +kernel
theorem hd_J1_indexOf_4cfef : yJ1_indexOf_4cfef.cls ≠ "java/lang/invoke/MethodHandle" ∧ yJ1_indexOf_4cfef.cls ≠ "java/lang/invoke/VarHandle" ∧ (parseMethodDescriptor yJ1_indexOf_4cfef.desc).map (fun d => d.parameters.length) = some 4 := by decide +kernel
theorem hd_J0_indexOf_7cf53 : yJ0_indexOf_7cf53.cls = "java/lang/String" ∧ yJ0_indexOf_7cf53.cls ≠ "java/lang/invoke/MethodHandle" ∧ yJ0_indexOf_7cf53.cls ≠ "java/lang/invoke/VarHandle" ∧ (parseMethodDescriptor yJ0_indexOf_7cf53.desc).map (fun d => d.parameters.length) = some 2 := by decide +kernel
theorem hd_J0_indexOf_0f7a4 : yJ0_indexOf_0f7a4.cls = "java/lang/String" ∧ yJ0_indexOf_0f7a4.cls ≠ "java/lang/invoke/MethodHandle" ∧ yJ0_indexOf_0f7a4.cls ≠ "java/lang/invoke/VarHandle" ∧ (parseMethodDescriptor yJ0_indexOf_0f7a4.desc).map (fun d => d.parameters.length) = some 1 := by decide +kernel
set_option maxRecDepth 100000 in
set_option maxHeartbeats 4000000 in
/-- String.coder -/
theorem c_coder (g : Gl) (i : Nat) (hi : i < 2) : Ctr g yJ0_coder_7d493 (Cond.code yJ0_coder_7d493 cJ0_coder_7d493 1 (some .byte) :: wsL_law) 0 0 [] [] [.ref (gK g i)] (some (.int 0)) := by
  refine Ctr.of (cc := cJ0_coder_7d493) (maxL := 1) (ret := (some .byte)) (by decide) rfl (Nat.le_of_ble_eq_true rfl) ?_
  intro X C Rk
  replace C : CxOk g X cJ0_coder_7d493 RJ0 (Cond.code yJ0_coder_7d493 cJ0_coder_7d493 1 (some .byte) :: wsL_law) 1 0 0 := C
  show J g X [] 0 [(0, .ref (gK g i))] []
  refine j_compact C (List.mem_cons_of_mem _ mw_10_3) dJ0_coder_7d493_0 ?_
  refine j_if_eq C 13 dJ0_coder_7d493_3 rfl (fun c => absurd c (by decide)) (fun c => ?_)
  refine j_aload_n C 0 dJ0_coder_7d493_6 rfl rfl ?_
  refine j_scod C hi (List.mem_cons_of_mem _ mw_10_4) dJ0_coder_7d493_7 ?_
  refine j_goto C 14 dJ0_coder_7d493_10 rfl ?_
  exact j_zret C rfl Rk dJ0_coder_7d493_14
set_option maxRecDepth 100000 in
set_option maxHeartbeats 4000000 in
/-- String.isLatin1 -/
theorem c_isLatin1 (g : Gl) (i : Nat) (hi : i < 2) : Ctr g yJ0_isLatin1_aae02 (Cond.code yJ0_isLatin1_aae02 cJ0_isLatin1_aae02 1 (some .boolean) :: wsL_law) 0 0 [] [] [.ref (gK g i)] (some (.int 1)) := by
  refine Ctr.of (cc := cJ0_isLatin1_aae02) (maxL := 1) (ret := (some .boolean)) (by decide) rfl (Nat.le_of_ble_eq_true rfl) ?_
  intro X C Rk
  replace C : CxOk g X cJ0_isLatin1_aae02 RJ0 (Cond.code yJ0_isLatin1_aae02 cJ0_isLatin1_aae02 1 (some .boolean) :: wsL_law) 1 0 0 := C
  show J g X [] 0 [(0, .ref (gK g i))] []
  refine j_compact C (List.mem_cons_of_mem _ mw_10_3) dJ0_isLatin1_aae02_0 ?_
  refine j_if_eq C 17 dJ0_isLatin1_aae02_3 rfl (fun c => absurd c (by decide)) (fun c => ?_)
  refine j_aload_n C 0 dJ0_isLatin1_aae02_6 rfl rfl ?_
  refine j_scod C hi (List.mem_cons_of_mem _ mw_10_4) dJ0_isLatin1_aae02_7 ?_
  refine j_if_ne C 17 dJ0_isLatin1_aae02_10 rfl (fun c => absurd rfl c) (fun c => ?_)
  refine j_iconst (v := (1 : Int32)) C dJ0_isLatin1_aae02_13 rfl ?_
  refine j_goto C 18 dJ0_isLatin1_aae02_14 rfl ?_
  exact j_zret C rfl Rk dJ0_isLatin1_aae02_18
set_option maxRecDepth 100000 in
set_option maxHeartbeats 4000000 in
/-- String.length -/
theorem c_length (g : Gl) (i : Nat) (hi : i < 2) : Ctr g yJ0_length_8abf5 (Cond.code yJ0_length_8abf5 cJ0_length_8abf5 1 (some .int) :: wsL_law) 1 20 [] [] [.ref (gK g i)] (some (.int 4)) := by
  refine Ctr.of (cc := cJ0_length_8abf5) (maxL := 1) (ret := (some .int)) (by decide) rfl (Nat.le_of_ble_eq_true rfl) ?_
  intro X C Rk
  replace C : CxOk g X cJ0_length_8abf5 RJ0 (Cond.code yJ0_length_8abf5 cJ0_length_8abf5 1 (some .int) :: wsL_law) 1 1 20 := C
  show J g X [] 0 [(0, .ref (gK g i))] []
  refine j_aload_n C 0 dJ0_length_8abf5_0 rfl rfl ?_
  refine j_sval C hi (List.mem_cons_of_mem _ mw_9_22) dJ0_length_8abf5_1 ?_
  refine j_slen C hi dJ0_length_8abf5_4 ?_
  refine j_aload_n C 0 dJ0_length_8abf5_5 rfl rfl ?_
  refine j_callTi C (os' := []) [] (c_coder g i hi) [] rfl rfl rfl rfl hi (wl_gV mw_10_9 mw_10_10 mw_10_11 mw_9_16 mw_10_12) rfl 0 rfl hd_J0_coder_7d493 ⟨Nat.le_of_ble_eq_true rfl, Nat.le_of_ble_eq_true rfl⟩ (Nat.le_of_ble_eq_true rfl) rfl dJ0_length_8abf5_6 ?_
  refine j_ishr C dJ0_length_8abf5_9 ?_
  rw [show (4 : Int32) >>> ((0 : Int32) &&& 31) = 4 from by decide]
  exact j_iret C Rk dJ0_length_8abf5_10
set_option maxRecDepth 100000 in
set_option maxHeartbeats 4000000 in
/-- Preconditions.checkIndex, a formatter -/
theorem c_check3 (g : Gl) (x n : Int32) (t : Nat) (h0 : ¬ x < 0) (h1 : x < n) : Ctr g yJ3_checkIndex_8e157 (Cond.code yJ3_checkIndex_8e157 cJ3_checkIndex_8e157 3 (some .int) :: wsL_law) 0 0 [] [] [.int x, .int n, .ref t] (some (.int x)) := by
  refine Ctr.of (cc := cJ3_checkIndex_8e157) (maxL := 3) (ret := (some .int)) (by decide) rfl (Nat.le_of_ble_eq_true rfl) ?_
  intro X C Rk
  replace C : CxOk g X cJ3_checkIndex_8e157 RJ3 (Cond.code yJ3_checkIndex_8e157 cJ3_checkIndex_8e157 3 (some .int) :: wsL_law) 3 0 0 := C
  show J g X [] 0 [(0, .int x), (1, .int n), (2, .ref t)] []
  refine j_iload_n C 0 dJ3_checkIndex_8e157_0 rfl rfl ?_
  refine j_if_lt C 9 dJ3_checkIndex_8e157_1 rfl (fun c => absurd c h0) (fun c => ?_)
  refine j_iload_n C 0 dJ3_checkIndex_8e157_4 rfl rfl ?_
  refine j_iload_n C 1 dJ3_checkIndex_8e157_5 rfl rfl ?_
  refine j_icmp_lt C 16 dJ3_checkIndex_8e157_6 rfl (fun c => ?_) (fun c => absurd h1 c)
  refine j_iload_n C 0 dJ3_checkIndex_8e157_16 rfl rfl ?_
  exact j_iret C Rk dJ3_checkIndex_8e157_17
set_option maxRecDepth 100000 in
set_option maxHeartbeats 4000000 in
/-- Preconditions.checkIndex, null -/
theorem c_check3n (g : Gl) (x n : Int32) (h0 : ¬ x < 0) (h1 : x < n) : Ctr g yJ3_checkIndex_8e157 (Cond.code yJ3_checkIndex_8e157 cJ3_checkIndex_8e157 3 (some .int) :: wsL_law) 0 0 [] [] [.int x, .int n, .null] (some (.int x)) := by
  refine Ctr.of (cc := cJ3_checkIndex_8e157) (maxL := 3) (ret := (some .int)) (by decide) rfl (Nat.le_of_ble_eq_true rfl) ?_
  intro X C Rk
  replace C : CxOk g X cJ3_checkIndex_8e157 RJ3 (Cond.code yJ3_checkIndex_8e157 cJ3_checkIndex_8e157 3 (some .int) :: wsL_law) 3 0 0 := C
  show J g X [] 0 [(0, .int x), (1, .int n), (2, .null)] []
  refine j_iload_n C 0 dJ3_checkIndex_8e157_0 rfl rfl ?_
  refine j_if_lt C 9 dJ3_checkIndex_8e157_1 rfl (fun c => absurd c h0) (fun c => ?_)
  refine j_iload_n C 0 dJ3_checkIndex_8e157_4 rfl rfl ?_
  refine j_iload_n C 1 dJ3_checkIndex_8e157_5 rfl rfl ?_
  refine j_icmp_lt C 16 dJ3_checkIndex_8e157_6 rfl (fun c => ?_) (fun c => absurd h1 c)
  refine j_iload_n C 0 dJ3_checkIndex_8e157_16 rfl rfl ?_
  exact j_iret C Rk dJ3_checkIndex_8e157_17
set_option maxRecDepth 100000 in
set_option maxHeartbeats 4000000 in
/-- String.checkIndex -/
theorem c_check0 (g : Gl) (x n : Int32) (h0 : ¬ x < 0) (h1 : x < n) : Ctr g yJ0_checkIndex_df160 (Cond.code yJ0_checkIndex_df160 cJ0_checkIndex_df160 2 none :: wsL_law) 1 22 [] [] [.int x, .int n] none := by
  refine Ctr.of (cc := cJ0_checkIndex_df160) (maxL := 2) (ret := none) (by decide) rfl (Nat.le_of_ble_eq_true rfl) ?_
  intro X C Rk
  replace C : CxOk g X cJ0_checkIndex_df160 RJ0 (Cond.code yJ0_checkIndex_df160 cJ0_checkIndex_df160 2 none :: wsL_law) 2 1 22 := C
  show J g X [] 0 [(0, .int x), (1, .int n)] []
  refine j_iload_n C 0 dJ0_checkIndex_df160_0 rfl rfl ?_
  refine j_iload_n C 1 dJ0_checkIndex_df160_1 rfl rfl ?_
  refine j_sioobe C (List.mem_cons_of_mem _ mw_12_1) dJ0_checkIndex_df160_2 (fun v hv => ?_)
  rcases hv with rfl | ⟨t, rfl⟩
  · refine j_callSi C (os' := []) [.int x, .int n, .null] (c_check3n g x n h0 h1) [] rfl rfl rfl rfl (wl_gS mw_14_7 mw_14_8 mw_12_4 mw_14_9) rfl 3 rfl hd_J3_checkIndex_8e157 ⟨Nat.le_of_ble_eq_true rfl, Nat.le_of_ble_eq_true rfl⟩ (Nat.le_of_ble_eq_true rfl) rfl dJ0_checkIndex_df160_5 ?_
    refine j_pop C rfl dJ0_checkIndex_df160_8 ?_
    exact j_vret C Rk dJ0_checkIndex_df160_9
  · refine j_callSi C (os' := []) [.int x, .int n, .ref t] (c_check3 g x n t h0 h1) [] rfl rfl rfl rfl (wl_gS mw_14_7 mw_14_8 mw_12_4 mw_14_9) rfl 3 rfl hd_J3_checkIndex_8e157 ⟨Nat.le_of_ble_eq_true rfl, Nat.le_of_ble_eq_true rfl⟩ (Nat.le_of_ble_eq_true rfl) rfl dJ0_checkIndex_df160_5 ?_
    refine j_pop C rfl dJ0_checkIndex_df160_8 ?_
    exact j_vret C Rk dJ0_checkIndex_df160_9
def chA (i : Nat) (x : Int32) : Int32 := (((strB.getD i []).getD x.toNatClampNeg 0 &&& 255).toUInt32 % 65536).toInt32
theorem inb4 {x : Int32} (h : inb x 4) : ¬ x < 0 ∧ x < 4 := by
  refine ⟨fun c => ?_, ?_⟩
  · have := Int32.lt_iff_toInt_lt.mp c
    have e : (0 : Int32).toInt = 0 := rfl
    omega
  · refine Int32.lt_iff_toInt_lt.mpr ?_
    have e : (4 : Int32).toInt = 4 := rfl
    omega
set_option maxRecDepth 100000 in
set_option maxHeartbeats 4000000 in
/-- StringLatin1.charAt -/
theorem c_charAt1 (g : Gl) (i : Nat) (hi : i < 2) (x : Int32) (hx : inb x 4) : Ctr g yJ1_charAt_3b067 (Cond.code yJ1_charAt_3b067 cJ1_charAt_3b067 2 (some .char) :: wsL_law) 2 43 [] [] [.ref (gV g i), .int x] (some (.int (chA i x))) := by
  refine Ctr.of (cc := cJ1_charAt_3b067) (maxL := 2) (ret := (some .char)) (by decide) rfl (Nat.le_of_ble_eq_true rfl) ?_
  intro X C Rk
  replace C : CxOk g X cJ1_charAt_3b067 RJ1 (Cond.code yJ1_charAt_3b067 cJ1_charAt_3b067 2 (some .char) :: wsL_law) 2 2 43 := C
  show J g X [] 0 [(0, .ref (gV g i)), (1, .int x)] []
  refine j_iload_n C 1 dJ1_charAt_3b067_0 rfl rfl ?_
  refine j_aload_n C 0 dJ1_charAt_3b067_1 rfl rfl ?_
  refine j_slen C hi dJ1_charAt_3b067_2 ?_
  refine j_callSv C (os' := []) [.int x, .int 4] (c_check0 g x 4 (inb4 hx).1 (inb4 hx).2) [] rfl rfl rfl rfl (wl_gS mw_14_4 mw_14_5 mw_9_16 mw_14_6) rfl 2 rfl hd_J0_checkIndex_df160 ⟨Nat.le_of_ble_eq_true rfl, Nat.le_of_ble_eq_true rfl⟩ (Nat.le_of_ble_eq_true rfl) rfl dJ1_charAt_3b067_3 ?_
  refine j_aload_n C 0 dJ1_charAt_3b067_6 rfl rfl ?_
  refine j_iload_n C 1 dJ1_charAt_3b067_7 rfl rfl ?_
  refine j_sbald C hi hx dJ1_charAt_3b067_8 ?_
  refine j_sipush (v := (255 : Int32)) C dJ1_charAt_3b067_9 rfl ?_
  refine j_iand C dJ1_charAt_3b067_12 ?_
  refine j_i2c C dJ1_charAt_3b067_13 ?_
  exact j_zret C (pk_nc _) Rk dJ1_charAt_3b067_14
set_option maxRecDepth 100000 in
set_option maxHeartbeats 4000000 in
/-- String.charAt -/
theorem c_charAt (g : Gl) (i : Nat) (hi : i < 2) (x : Int32) (hx : inb x 4) : Ctr g yJ0_charAt_5068e (Cond.code yJ0_charAt_5068e cJ0_charAt_5068e 2 (some .char) :: wsL_law) 3 64 [] [] [.ref (gK g i), .int x] (some (.int (chA i x))) := by
  refine Ctr.of (cc := cJ0_charAt_5068e) (maxL := 2) (ret := (some .char)) (by decide) rfl (Nat.le_of_ble_eq_true rfl) ?_
  intro X C Rk
  replace C : CxOk g X cJ0_charAt_5068e RJ0 (Cond.code yJ0_charAt_5068e cJ0_charAt_5068e 2 (some .char) :: wsL_law) 2 3 64 := C
  show J g X [] 0 [(0, .ref (gK g i)), (1, .int x)] []
  refine j_aload_n C 0 dJ0_charAt_5068e_0 rfl rfl ?_
  refine j_callTi C (os' := []) [] (c_isLatin1 g i hi) [] rfl rfl rfl rfl hi (wl_gV mw_9_23 mw_10_0 mw_10_1 mw_9_16 mw_10_2) rfl 0 rfl hd_J0_isLatin1_aae02 ⟨Nat.le_of_ble_eq_true rfl, Nat.le_of_ble_eq_true rfl⟩ (Nat.le_of_ble_eq_true rfl) rfl dJ0_charAt_5068e_1 ?_
  refine j_if_eq C 16 dJ0_charAt_5068e_4 rfl (fun c => absurd c (by decide)) (fun c => ?_)
  refine j_aload_n C 0 dJ0_charAt_5068e_7 rfl rfl ?_
  refine j_sval C hi (List.mem_cons_of_mem _ mw_9_22) dJ0_charAt_5068e_8 ?_
  refine j_iload_n C 1 dJ0_charAt_5068e_11 rfl rfl ?_
  refine j_callSi C (os' := []) [.ref (gV g i), .int x] (c_charAt1 g i hi x hx) [] rfl rfl rfl rfl (wl_gS mw_14_1 mw_14_2 mw_10_15 mw_14_3) rfl 2 rfl hd_J1_charAt_3b067 ⟨Nat.le_of_ble_eq_true rfl, Nat.le_of_ble_eq_true rfl⟩ (Nat.le_of_ble_eq_true rfl) rfl dJ0_charAt_5068e_12 ?_
  exact j_zret C (pk_nc _) Rk dJ0_charAt_5068e_15
set_option maxRecDepth 100000 in
set_option maxHeartbeats 4000000 in
/-- StringLatin1.canEncode -/
theorem c_canEncode (g : Gl) (c : Int32) {r : Int32} (hF : (if c < 0 then (0 : Int32) else if 255 < c then 0 else 1) = r) : Ctr g yJ1_canEncode_9a6ad (Cond.code yJ1_canEncode_9a6ad cJ1_canEncode_9a6ad 1 (some .boolean) :: wsL_law) 0 0 [] [] [.int c] (some (.int r)) := by
  refine Ctr.of (cc := cJ1_canEncode_9a6ad) (maxL := 1) (ret := (some .boolean)) (by decide) rfl (Nat.le_of_ble_eq_true rfl) ?_
  intro X C Rk
  replace C : CxOk g X cJ1_canEncode_9a6ad RJ1 (Cond.code yJ1_canEncode_9a6ad cJ1_canEncode_9a6ad 1 (some .boolean) :: wsL_law) 1 0 0 := C
  show J g X [] 0 [(0, .int c)] []
  refine j_iload_n C 0 dJ1_canEncode_9a6ad_0 rfl rfl ?_
  refine j_if_lt C 15 dJ1_canEncode_9a6ad_1 rfl (fun c => ?_) (fun c => ?_)
  · rw [if_pos c] at hF
    subst hF
    refine j_iconst (v := (0 : Int32)) C dJ1_canEncode_9a6ad_15 rfl ?_
    exact j_zret C rfl Rk dJ1_canEncode_9a6ad_16
  · rw [if_neg c] at hF
    refine j_iload_n C 0 dJ1_canEncode_9a6ad_4 rfl rfl ?_
    refine j_sipush (v := (255 : Int32)) C dJ1_canEncode_9a6ad_5 rfl ?_
    refine j_icmp_gt C 15 dJ1_canEncode_9a6ad_8 rfl (fun c => ?_) (fun c => ?_)
    · rw [if_pos c] at hF
      subst hF
      refine j_iconst (v := (0 : Int32)) C dJ1_canEncode_9a6ad_15 rfl ?_
      exact j_zret C rfl Rk dJ1_canEncode_9a6ad_16
    · rw [if_neg c] at hF
      subst hF
      refine j_iconst (v := (1 : Int32)) C dJ1_canEncode_9a6ad_11 rfl ?_
      refine j_goto C 16 dJ1_canEncode_9a6ad_12 rfl ?_
      exact j_zret C rfl Rk dJ1_canEncode_9a6ad_16
/-- the place of a byte in a text of four, or -1 -/
def ixC (i : Nat) (b : Int32) : Int32 := if (strB.getD i []).getD (0 : Int32).toNatClampNeg 0 = b then 0 else if (strB.getD i []).getD (1 : Int32).toNatClampNeg 0 = b then 1 else if (strB.getD i []).getD (2 : Int32).toNatClampNeg 0 = b then 2 else if (strB.getD i []).getD (3 : Int32).toNatClampNeg 0 = b then 3 else -1
set_option maxRecDepth 100000 in
set_option maxHeartbeats 4000000 in
/-- StringLatin1.indexOfChar -/
theorem c_indexOfChar (g : Gl) (i : Nat) (hi : i < 2) (c : Int32) {r : Int32} (hF : ixC i c.toInt8.toInt32 = r) : Ctr g yJ1_indexOfChar_4cfef (Cond.code yJ1_indexOfChar_4cfef cJ1_indexOfChar_4cfef 6 (some .int) :: wsL_law) 0 0 [] [] [.ref (gV g i), .int c, .int 0, .int 4] (some (.int r)) := by
  refine Ctr.of (cc := cJ1_indexOfChar_4cfef) (maxL := 6) (ret := (some .int)) (by decide) rfl (Nat.le_of_ble_eq_true rfl) ?_
  intro X C Rk
  replace C : CxOk g X cJ1_indexOfChar_4cfef RJ1 (Cond.code yJ1_indexOfChar_4cfef cJ1_indexOfChar_4cfef 6 (some .int) :: wsL_law) 6 0 0 := C
  show J g X [] 0 [(0, .ref (gV g i)), (1, .int c), (2, .int 0), (3, .int 4)] []
  unfold ixC at hF
  refine j_iload_n C 1 dJ1_indexOfChar_4cfef_0 rfl rfl ?_
  refine j_i2b C dJ1_indexOfChar_4cfef_1 ?_
  refine j_istore C [(4, .int c.toInt8.toInt32), (0, .ref (gV g i)), (1, .int c), (2, .int 0), (3, .int 4)] dJ1_indexOfChar_4cfef_2 (Nat.le_of_ble_eq_true rfl) rfl rfl ?_
  refine j_iload_n C 3 dJ1_indexOfChar_4cfef_4 rfl rfl ?_
  refine j_istore C [(5, .int 0), (4, .int c.toInt8.toInt32), (0, .ref (gV g i)), (1, .int c), (2, .int 0), (3, .int 4)] dJ1_indexOfChar_4cfef_5 (Nat.le_of_ble_eq_true rfl) rfl rfl ?_
  refine j_iload C 0 dJ1_indexOfChar_4cfef_7 rfl ?_
  refine j_iload_n C 5 dJ1_indexOfChar_4cfef_9 rfl rfl ?_
  refine j_icmp_ge C 31 dJ1_indexOfChar_4cfef_10 rfl (fun c9 => absurd c9 (by decide)) (fun _ => ?_)
  refine j_aload_n C 2 dJ1_indexOfChar_4cfef_13 rfl rfl ?_
  refine j_iload C 0 dJ1_indexOfChar_4cfef_14 rfl ?_
  refine j_sbald C hi (by decide) dJ1_indexOfChar_4cfef_16 ?_
  refine j_iload C 1 dJ1_indexOfChar_4cfef_17 rfl ?_
  refine j_icmp_ne C 25 dJ1_indexOfChar_4cfef_19 rfl (fun c9 => ?_) (fun c9 => ?_)
  rotate_left
  · have hF := (if_pos c9).symm.trans hF
    subst hF
    refine j_iload C 0 dJ1_indexOfChar_4cfef_22 rfl ?_
    exact j_iret C Rk dJ1_indexOfChar_4cfef_24
  have hF := (if_neg c9).symm.trans hF
  refine j_iinc C 0 [(5, .int 1), (4, .int c.toInt8.toInt32), (0, .ref (gV g i)), (1, .int c), (2, .int 0), (3, .int 4)] dJ1_indexOfChar_4cfef_25 rfl (by decide) (Nat.le_of_ble_eq_true rfl) rfl ?_
  refine j_goto C 7 dJ1_indexOfChar_4cfef_28 rfl ?_
  refine j_iload C 0 dJ1_indexOfChar_4cfef_7 rfl ?_
  refine j_iload_n C 5 dJ1_indexOfChar_4cfef_9 rfl rfl ?_
  refine j_icmp_ge C 31 dJ1_indexOfChar_4cfef_10 rfl (fun c9 => absurd c9 (by decide)) (fun _ => ?_)
  refine j_aload_n C 2 dJ1_indexOfChar_4cfef_13 rfl rfl ?_
  refine j_iload C 0 dJ1_indexOfChar_4cfef_14 rfl ?_
  refine j_sbald C hi (by decide) dJ1_indexOfChar_4cfef_16 ?_
  refine j_iload C 1 dJ1_indexOfChar_4cfef_17 rfl ?_
  refine j_icmp_ne C 25 dJ1_indexOfChar_4cfef_19 rfl (fun c9 => ?_) (fun c9 => ?_)
  rotate_left
  · have hF := (if_pos c9).symm.trans hF
    subst hF
    refine j_iload C 0 dJ1_indexOfChar_4cfef_22 rfl ?_
    exact j_iret C Rk dJ1_indexOfChar_4cfef_24
  have hF := (if_neg c9).symm.trans hF
  refine j_iinc C 0 [(5, .int 2), (4, .int c.toInt8.toInt32), (0, .ref (gV g i)), (1, .int c), (2, .int 0), (3, .int 4)] dJ1_indexOfChar_4cfef_25 rfl (by decide) (Nat.le_of_ble_eq_true rfl) rfl ?_
  refine j_goto C 7 dJ1_indexOfChar_4cfef_28 rfl ?_
  refine j_iload C 0 dJ1_indexOfChar_4cfef_7 rfl ?_
  refine j_iload_n C 5 dJ1_indexOfChar_4cfef_9 rfl rfl ?_
  refine j_icmp_ge C 31 dJ1_indexOfChar_4cfef_10 rfl (fun c9 => absurd c9 (by decide)) (fun _ => ?_)
  refine j_aload_n C 2 dJ1_indexOfChar_4cfef_13 rfl rfl ?_
  refine j_iload C 0 dJ1_indexOfChar_4cfef_14 rfl ?_
  refine j_sbald C hi (by decide) dJ1_indexOfChar_4cfef_16 ?_
  refine j_iload C 1 dJ1_indexOfChar_4cfef_17 rfl ?_
  refine j_icmp_ne C 25 dJ1_indexOfChar_4cfef_19 rfl (fun c9 => ?_) (fun c9 => ?_)
  rotate_left
  · have hF := (if_pos c9).symm.trans hF
    subst hF
    refine j_iload C 0 dJ1_indexOfChar_4cfef_22 rfl ?_
    exact j_iret C Rk dJ1_indexOfChar_4cfef_24
  have hF := (if_neg c9).symm.trans hF
  refine j_iinc C 0 [(5, .int 3), (4, .int c.toInt8.toInt32), (0, .ref (gV g i)), (1, .int c), (2, .int 0), (3, .int 4)] dJ1_indexOfChar_4cfef_25 rfl (by decide) (Nat.le_of_ble_eq_true rfl) rfl ?_
  refine j_goto C 7 dJ1_indexOfChar_4cfef_28 rfl ?_
  refine j_iload C 0 dJ1_indexOfChar_4cfef_7 rfl ?_
  refine j_iload_n C 5 dJ1_indexOfChar_4cfef_9 rfl rfl ?_
  refine j_icmp_ge C 31 dJ1_indexOfChar_4cfef_10 rfl (fun c9 => absurd c9 (by decide)) (fun _ => ?_)
  refine j_aload_n C 2 dJ1_indexOfChar_4cfef_13 rfl rfl ?_
  refine j_iload C 0 dJ1_indexOfChar_4cfef_14 rfl ?_
  refine j_sbald C hi (by decide) dJ1_indexOfChar_4cfef_16 ?_
  refine j_iload C 1 dJ1_indexOfChar_4cfef_17 rfl ?_
  refine j_icmp_ne C 25 dJ1_indexOfChar_4cfef_19 rfl (fun c9 => ?_) (fun c9 => ?_)
  rotate_left
  · have hF := (if_pos c9).symm.trans hF
    subst hF
    refine j_iload C 0 dJ1_indexOfChar_4cfef_22 rfl ?_
    exact j_iret C Rk dJ1_indexOfChar_4cfef_24
  have hF := (if_neg c9).symm.trans hF
  refine j_iinc C 0 [(5, .int 4), (4, .int c.toInt8.toInt32), (0, .ref (gV g i)), (1, .int c), (2, .int 0), (3, .int 4)] dJ1_indexOfChar_4cfef_25 rfl (by decide) (Nat.le_of_ble_eq_true rfl) rfl ?_
  refine j_goto C 7 dJ1_indexOfChar_4cfef_28 rfl ?_
  refine j_iload C 0 dJ1_indexOfChar_4cfef_7 rfl ?_
  refine j_iload_n C 5 dJ1_indexOfChar_4cfef_9 rfl rfl ?_
  refine j_icmp_ge C 31 dJ1_indexOfChar_4cfef_10 rfl (fun _ => ?_) (fun c9 => absurd (by decide) c9)
  subst hF
  refine j_iconst (v := (-1 : Int32)) C dJ1_indexOfChar_4cfef_31 rfl ?_
  exact j_iret C Rk dJ1_indexOfChar_4cfef_32
/-- indexOf in a text of four -/
def ixL (i : Nat) (c : Int32) : Int32 := if c < 0 then -1 else if 255 < c then -1 else ixC i c.toInt8.toInt32
set_option maxRecDepth 100000 in
set_option maxHeartbeats 4000000 in
/-- StringLatin1.indexOf -/
theorem c_indexOf1 (g : Gl) (i : Nat) (hi : i < 2) (c : Int32) {r : Int32} (hF : ixL i c = r) : Ctr g yJ1_indexOf_4cfef (Cond.code yJ1_indexOf_4cfef cJ1_indexOf_4cfef 4 (some .int) :: wsL_law) 1 25 [] [] [.ref (gV g i), .int c, .int 0, .int 4] (some (.int r)) := by
  refine Ctr.of (cc := cJ1_indexOf_4cfef) (maxL := 4) (ret := (some .int)) (by decide) rfl (Nat.le_of_ble_eq_true rfl) ?_
  intro X C Rk
  replace C : CxOk g X cJ1_indexOf_4cfef RJ1 (Cond.code yJ1_indexOf_4cfef cJ1_indexOf_4cfef 4 (some .int) :: wsL_law) 4 1 25 := C
  show J g X [] 0 [(0, .ref (gV g i)), (1, .int c), (2, .int 0), (3, .int 4)] []
  unfold ixL at hF
  refine j_iload_n C 1 dJ1_indexOf_4cfef_0 rfl rfl ?_
  refine j_callSi C (os' := []) [.int c] (c_canEncode g c rfl) [] rfl rfl rfl rfl (wl_gS mw_11_0 mw_11_1 mw_10_15 mw_11_2) rfl 1 rfl hd_J1_canEncode_9a6ad ⟨Nat.le_of_ble_eq_true rfl, Nat.le_of_ble_eq_true rfl⟩ (Nat.le_of_ble_eq_true rfl) rfl dJ1_indexOf_4cfef_1 ?_
  by_cases h1 : c < 0
  · rw [if_pos h1] at hF ⊢
    subst hF
    refine j_if_ne C 9 dJ1_indexOf_4cfef_4 rfl (fun c9 => absurd rfl c9) (fun _ => ?_)
    refine j_iconst (v := (-1 : Int32)) C dJ1_indexOf_4cfef_7 rfl ?_
    exact j_iret C Rk dJ1_indexOf_4cfef_8
  · rw [if_neg h1] at hF ⊢
    by_cases h2 : 255 < c
    · rw [if_pos h2] at hF ⊢
      subst hF
      refine j_if_ne C 9 dJ1_indexOf_4cfef_4 rfl (fun c9 => absurd rfl c9) (fun _ => ?_)
      refine j_iconst (v := (-1 : Int32)) C dJ1_indexOf_4cfef_7 rfl ?_
      exact j_iret C Rk dJ1_indexOf_4cfef_8
    · rw [if_neg h2] at hF ⊢
      refine j_if_ne C 9 dJ1_indexOf_4cfef_4 rfl (fun _ => ?_) (fun c9 => absurd c9 (by decide))
      refine j_iload_n C 2 dJ1_indexOf_4cfef_9 rfl rfl ?_
      refine j_iconst (v := (0 : Int32)) C dJ1_indexOf_4cfef_10 rfl ?_
      refine j_mmax C (List.mem_cons_of_mem _ mw_10_17) (List.mem_cons_of_mem _ mw_10_18) (List.mem_cons_of_mem _ mw_10_19) (List.mem_cons_of_mem _ mw_10_20) (Nat.le_of_ble_eq_true rfl) (Nat.le_of_ble_eq_true rfl) dJ1_indexOf_4cfef_11 ?_
      rw [show (if (0 : Int32) < 0 then (0 : Int32) else 0) = 0 from by decide]
      refine j_istore_n C [(2, .int 0), (0, .ref (gV g i)), (1, .int c), (3, .int 4)] dJ1_indexOf_4cfef_14 rfl (Nat.le_of_ble_eq_true rfl) rfl rfl ?_
      refine j_iload_n C 3 dJ1_indexOf_4cfef_15 rfl rfl ?_
      refine j_aload_n C 1 dJ1_indexOf_4cfef_16 rfl rfl ?_
      refine j_slen C hi dJ1_indexOf_4cfef_17 ?_
      refine j_mmin C (List.mem_cons_of_mem _ mw_10_21) (List.mem_cons_of_mem _ mw_10_22) (List.mem_cons_of_mem _ mw_10_19) (List.mem_cons_of_mem _ mw_10_23) (Nat.le_of_ble_eq_true rfl) (Nat.le_of_ble_eq_true rfl) dJ1_indexOf_4cfef_18 ?_
      rw [show (if (4 : Int32) < 4 then (4 : Int32) else 4) = 4 from by decide]
      refine j_istore_n C [(3, .int 4), (2, .int 0), (0, .ref (gV g i)), (1, .int c)] dJ1_indexOf_4cfef_21 rfl (Nat.le_of_ble_eq_true rfl) rfl rfl ?_
      refine j_iload_n C 1 dJ1_indexOf_4cfef_22 rfl rfl ?_
      refine j_iload_n C 0 dJ1_indexOf_4cfef_23 rfl rfl ?_
      refine j_icmp_lt C 29 dJ1_indexOf_4cfef_24 rfl (fun _ => ?_) (fun c9 => absurd (by decide) c9)
      refine j_aload_n C 2 dJ1_indexOf_4cfef_29 rfl rfl ?_
      refine j_iload_n C 3 dJ1_indexOf_4cfef_30 rfl rfl ?_
      refine j_iload_n C 1 dJ1_indexOf_4cfef_31 rfl rfl ?_
      refine j_iload_n C 0 dJ1_indexOf_4cfef_32 rfl rfl ?_
      refine j_callSi C (os' := []) [.ref (gV g i), .int c, .int 0, .int 4] (c_indexOfChar g i hi c hF) [] rfl rfl rfl rfl (wl_gS mw_11_3 mw_11_4 mw_10_15 mw_11_5) rfl 4 rfl hd_J1_indexOfChar_4cfef ⟨Nat.le_of_ble_eq_true rfl, Nat.le_of_ble_eq_true rfl⟩ (Nat.le_of_ble_eq_true rfl) rfl dJ1_indexOf_4cfef_33 ?_
      exact j_iret C Rk dJ1_indexOf_4cfef_36
set_option maxRecDepth 100000 in
set_option maxHeartbeats 4000000 in
/-- String.indexOf(int, int) -/
theorem c_indexOf2 (g : Gl) (i : Nat) (hi : i < 2) (c : Int32) {r : Int32} (hF : ixL i c = r) : Ctr g yJ0_indexOf_7cf53 (Cond.code yJ0_indexOf_7cf53 cJ0_indexOf_7cf53 3 (some .int) :: wsL_law) 2 48 [] [] [.ref (gK g i), .int c, .int 0] (some (.int r)) := by
  refine Ctr.of (cc := cJ0_indexOf_7cf53) (maxL := 3) (ret := (some .int)) (by decide) rfl (Nat.le_of_ble_eq_true rfl) ?_
  intro X C Rk
  replace C : CxOk g X cJ0_indexOf_7cf53 RJ0 (Cond.code yJ0_indexOf_7cf53 cJ0_indexOf_7cf53 3 (some .int) :: wsL_law) 3 2 48 := C
  show J g X [] 0 [(0, .ref (gK g i)), (1, .int c), (2, .int 0)] []
  refine j_aload_n C 0 dJ0_indexOf_7cf53_0 rfl rfl ?_
  refine j_callTi C (os' := []) [] (c_isLatin1 g i hi) [] rfl rfl rfl rfl hi (wl_gV mw_9_23 mw_10_0 mw_10_1 mw_9_16 mw_10_2) rfl 0 rfl hd_J0_isLatin1_aae02 ⟨Nat.le_of_ble_eq_true rfl, Nat.le_of_ble_eq_true rfl⟩ (Nat.le_of_ble_eq_true rfl) rfl dJ0_indexOf_7cf53_1 ?_
  refine j_if_eq C 23 dJ0_indexOf_7cf53_4 rfl (fun c9 => absurd c9 (by decide)) (fun _ => ?_)
  refine j_aload_n C 0 dJ0_indexOf_7cf53_7 rfl rfl ?_
  refine j_sval C hi (List.mem_cons_of_mem _ mw_9_22) dJ0_indexOf_7cf53_8 ?_
  refine j_iload_n C 1 dJ0_indexOf_7cf53_11 rfl rfl ?_
  refine j_iload_n C 2 dJ0_indexOf_7cf53_12 rfl rfl ?_
  refine j_aload_n C 0 dJ0_indexOf_7cf53_13 rfl rfl ?_
  refine j_callTi C (os' := []) [] (c_length g i hi) [] rfl rfl rfl rfl hi (wl_gV mw_10_5 mw_10_6 mw_10_7 mw_9_16 mw_10_8) rfl 0 rfl hd_J0_length_8abf5 ⟨Nat.le_of_ble_eq_true rfl, Nat.le_of_ble_eq_true rfl⟩ (Nat.le_of_ble_eq_true rfl) rfl dJ0_indexOf_7cf53_14 ?_
  refine j_callSi C (os' := []) [.ref (gV g i), .int c, .int 0, .int 4] (c_indexOf1 g i hi c hF) [] rfl rfl rfl rfl (wl_gS mw_10_13 mw_10_14 mw_10_15 mw_10_16) rfl 4 rfl hd_J1_indexOf_4cfef ⟨Nat.le_of_ble_eq_true rfl, Nat.le_of_ble_eq_true rfl⟩ (Nat.le_of_ble_eq_true rfl) rfl dJ0_indexOf_7cf53_17 ?_
  refine j_goto C 36 dJ0_indexOf_7cf53_20 rfl ?_
  exact j_iret C Rk dJ0_indexOf_7cf53_36
set_option maxRecDepth 100000 in
set_option maxHeartbeats 4000000 in
/-- String.indexOf(int) -/
theorem c_indexOf (g : Gl) (i : Nat) (hi : i < 2) (c : Int32) {r : Int32} (hF : ixL i c = r) : Ctr g yJ0_indexOf_0f7a4 (Cond.code yJ0_indexOf_0f7a4 cJ0_indexOf_0f7a4 2 (some .int) :: wsL_law) 3 70 [] [] [.ref (gK g i), .int c] (some (.int r)) := by
  refine Ctr.of (cc := cJ0_indexOf_0f7a4) (maxL := 2) (ret := (some .int)) (by decide) rfl (Nat.le_of_ble_eq_true rfl) ?_
  intro X C Rk
  replace C : CxOk g X cJ0_indexOf_0f7a4 RJ0 (Cond.code yJ0_indexOf_0f7a4 cJ0_indexOf_0f7a4 2 (some .int) :: wsL_law) 2 3 70 := C
  show J g X [] 0 [(0, .ref (gK g i)), (1, .int c)] []
  refine j_aload_n C 0 dJ0_indexOf_0f7a4_0 rfl rfl ?_
  refine j_iload_n C 1 dJ0_indexOf_0f7a4_1 rfl rfl ?_
  refine j_iconst (v := (0 : Int32)) C dJ0_indexOf_0f7a4_2 rfl ?_
  refine j_callTi C (os' := []) [.int c, .int 0] (c_indexOf2 g i hi c hF) [] rfl rfl rfl rfl hi (wl_gV mw_9_18 mw_9_19 mw_9_20 mw_9_16 mw_9_21) rfl 2 rfl hd_J0_indexOf_7cf53 ⟨Nat.le_of_ble_eq_true rfl, Nat.le_of_ble_eq_true rfl⟩ (Nat.le_of_ble_eq_true rfl) rfl dJ0_indexOf_0f7a4_3 ?_
  exact j_iret C Rk dJ0_indexOf_0f7a4_6
