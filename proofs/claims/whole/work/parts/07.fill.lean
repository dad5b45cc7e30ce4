theorem sR_sR (o : Ob) (k : Nat) (f f' : Nat → Int32) : sR (sR o k f) k f' = sR o k f' := by
  unfold sR
  simp only
  congr 1
  funext j
  by_cases e : j = k <;> simp [e]
theorem oA_sR (o : Ob) (k : Nat) (f : Nat → Int32) : oA (sR o k f) k = f := by simp [oA, sR]
theorem sR_self (o : Ob) (k : Nat) : sR o k (oA o k) = o := by
  unfold sR oA
  obtain ⟨a, b⟩ := o
  congr 1
  funext j
  by_cases e : j = k <;> simp [e]
theorem l_fill {g : Gl} {X : Cxt} (C : CxOk g X cJ7_fill_53178 RJ7 (Cond.code yJ7_fill_53178 cJ7_fill_53178 4 none :: wsL_law) 4 0 0) (sh : Sh) (h : Nat → Nat) (o : Ob) (k n : Nat) (ht : sh.2[k]? = some (2, n)) (hn : n < 2147483648) (v : Int32) (Rk : RetOk g X [(sh, h, sR o k (fl o k n v))] none none) : ∀ (d i : Nat) (f : Nat → Int32), i + d = n → (∀ j, f j = if j < i then v else oA o k j) → J g X [(sh, h, sR o k f)] 5 [(0, .ref (h (k + 1))), (1, .int v), (2, .int (nI i)), (3, .int (Int32.ofNat n))] [] := by
  intro d
  induction d with
  | zero =>
    intro i f hi hf
    have e : i = n := by omega
    subst e
    refine j_iload_n C 2 dJ7_fill_53178_5 rfl rfl ?_
    refine j_iload_n C 3 dJ7_fill_53178_6 rfl rfl ?_
    refine j_icmp_ge C 20 dJ7_fill_53178_7 rfl (fun c => ?_) (fun c => ?_)
    · have e2 : f = fl o k i v := funext fun j => hf j
      rw [e2]
      exact j_vret C Rk dJ7_fill_53178_20
    · exact absurd (Int32.le_refl _) c
  | succ d ih =>
    intro i f hi hf
    have hlt : i < n := by omega
    refine j_iload_n C 2 dJ7_fill_53178_5 rfl rfl ?_
    refine j_iload_n C 3 dJ7_fill_53178_6 rfl rfl ?_
    refine j_icmp_ge C 20 dJ7_fill_53178_7 rfl (fun c => ?_) (fun c => ?_)
    · exact absurd c (nI_ge hlt (by omega))
    · refine j_aload_n C 0 dJ7_fill_53178_10 rfl rfl ?_
      refine j_iload_n C 2 dJ7_fill_53178_11 rfl rfl ?_
      refine j_iload_n C 1 dJ7_fill_53178_12 rfl rfl ?_
      refine j_iast C 0 k rfl ht (by unfold inb; rw [nI_toInt (by omega)]; omega) [(sh, h, sR o k (upd f i v))] ?_ dJ7_fill_53178_13 ?_
      · rw [nI_clamp (by omega)]
        unfold sA
        rw [oA_sR, sR_sR]
        rfl
      · refine j_iinc C 2 [(2, .int (nI (i + 1))), (0, .ref (h (k + 1))), (1, .int v), (3, .int (Int32.ofNat n))] dJ7_fill_53178_14 rfl (nI_1 i) (Nat.le_of_ble_eq_true rfl) rfl ?_
        refine j_goto C 5 dJ7_fill_53178_17 rfl ?_
        refine j_sub [(0, .ref (h (k + 1))), (1, .int v), (2, .int (nI (i + 1))), (3, .int (Int32.ofNat n))] [1, 2, 0, 3] rfl ?_
        refine ih (i + 1) (upd f i v) (by omega) (fun j => ?_)
        unfold upd
        by_cases e : j = i
        · subst e; simp
        · rw [if_neg e, hf j]
          by_cases e2 : j < i
          · rw [if_pos e2, if_pos (by omega)]
          · rw [if_neg e2, if_neg (by omega)]
/-- Arrays.fill of a row that is an object's field -/
theorem c_fill (g : Gl) (sh : Sh) (h : Nat → Nat) (o : Ob) (k n : Nat) (ht : sh.2[k]? = some (2, n)) (hn : n < 2147483648) (v : Int32) : Ctr g yJ7_fill_53178 (Cond.code yJ7_fill_53178 cJ7_fill_53178 4 none :: wsL_law) 0 0 [(sh, h, o)] [(sh, h, sR o k (fl o k n v))] [.ref (h (k + 1)), .int v] none := by
  refine Ctr.of (cc := cJ7_fill_53178) (maxL := 4) (ret := none) (by decide) rfl (Nat.le_of_ble_eq_true rfl) ?_
  intro X C Rk
  replace C : CxOk g X cJ7_fill_53178 RJ7 (Cond.code yJ7_fill_53178 cJ7_fill_53178 4 none :: wsL_law) 4 0 0 := C
  show J g X [(sh, h, o)] 0 [(0, .ref (h (k + 1))), (1, .int v)] []
  refine j_iconst (v := (0 : Int32)) C dJ7_fill_53178_0 rfl ?_
  refine j_istore_n C [(2, .int (nI 0)), (0, .ref (h (k + 1))), (1, .int v)] dJ7_fill_53178_1 rfl (Nat.le_of_ble_eq_true rfl) rfl rfl ?_
  refine j_aload_n C 1 dJ7_fill_53178_2 rfl rfl ?_
  refine j_alen (v := Int32.ofNat n) C 0 k rfl ht rfl dJ7_fill_53178_3 ?_
  refine j_istore_n C [(3, .int (Int32.ofNat n)), (2, .int (nI 0)), (0, .ref (h (k + 1))), (1, .int v)] dJ7_fill_53178_4 rfl (Nat.le_of_ble_eq_true rfl) rfl rfl ?_
  refine j_sub [(0, .ref (h (k + 1))), (1, .int v), (2, .int (nI 0)), (3, .int (Int32.ofNat n))] [2, 3, 1, 0] rfl ?_
  have := l_fill C sh h o k n ht hn v Rk n 0 (oA o k) (by omega) (fun j => by simp)
  rwa [sR_self] at this
theorem hd_fill : yJ7_fill_53178.cls ≠ "java/lang/invoke/MethodHandle" ∧ yJ7_fill_53178.cls ≠ "java/lang/invoke/VarHandle" ∧ (parseMethodDescriptor yJ7_fill_53178.desc).map (fun d => d.parameters.length) = some 2 := by decide +kernel
