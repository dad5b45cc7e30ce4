
def zOb : Ob := (fun _ _ => 0, fun _ => 0, fun _ => 0)
def shS (sh : Sh) (k : Nat) (t : Nat × Nat) : Sh := (sh.1, sh.2.set k t)
def hS (h : Nat → Nat) (a q : Nat) : Nat → Nat := fun b => if b = a then q else h b
def NewOk (X : Cxt) (Cm Sm : Nat) : Prop := match X with
  | (_, _, R, s, _, _, _, _, _, A, _, _) => R.cells = Cm ∧ R.slots = Sm ∧ ∀ q : Nat, s.heap.size ≤ q → A q
def CtorOk (X : Cxt) : Prop := match X with
  | (_, _, _, _, _, _, _, meth, _, _, _, _) => meth.name = "<init>"
theorem ownS {sh : Sh} {k kd n a : Nat} (h : ownb (shS sh k (kd, n)) a = true) : a = k + 1 ∨ (a ≠ k + 1 ∧ ownb sh a = true) := by
  cases a with
  | zero => exact Or.inr ⟨by omega, rfl⟩
  | succ b =>
    by_cases e : b = k
    · exact Or.inl (by omega)
    · refine Or.inr ⟨by omega, ?_⟩
      have h2 : (match (sh.2.set k (kd, n))[b]? with | some t => isar t.1 | none => false) = true := h
      rw [List.getElem?_set_ne (Ne.symm e)] at h2
      exact h2
theorem fvs_ref {sh : Sh} {h : Nat → Nat} {o : Ob} {k kd n q : Nat} (hk : k < sh.2.length) (h2 : 2 ≤ kd) (h6 : kd ≤ 5) (j : Nat) : updV (fvs sh h o) k (.ref q) j = fvs (shS sh k (kd, n)) (hS h (k + 1) q) o j := by
  unfold updV fvs shS
  by_cases e : j = k
  · subst e
    rw [if_pos rfl, List.getElem?_set_self hk]
    show Value.ref q = fv (hS h (j + 1) q) o j (kd, n)
    unfold fv hS
    rw [if_neg (by show ¬ kd = 0; omega), if_neg (by show ¬ kd = 1; omega), if_neg (by show ¬ kd = 6; omega), if_pos rfl]
  · rw [if_neg e, List.getElem?_set_ne (Ne.symm e)]
    cases sh.2[j]? with
    | none => rfl
    | some t =>
      show fv h o j t = fv (hS h (k + 1) q) o j t
      unfold fv
      rw [show hS h (k + 1) q (j + 1) = h (j + 1) from by simp [hS, e]]
section JR2
variable {g : Gl} {X : Cxt} {cc : ByteArray} {own : String} {Ts : List Cond} {nn fr lc : Nat} {os : List Od} {pc nc ns : Nat} {lv : List (Nat × Value)} {st : List Value}
theorem j_objInit (C : CxOk g X cc own Ts nn fr lc) {index a : Nat} (h1 : Cond.methodLink own index objectInit ∈ Ts) (h2 : Cond.instanceMethod objectInit ∈ Ts) (h3 : Cond.code objectInit ⟨#[0xb1]⟩ 1 none ∈ Ts) (hf : 1 ≤ fr) (hlo : (st.map fun v => v.category).sum + 12 ≤ lc) (hd : decode cc pc = .ok (.invokespecial index, 3)) (k : JC g X nc ns os (pc + 3) lv st) : JC g X nc ns os pc lv (.ref a :: st) := by
  obtain ⟨p, e, R, s, m, args, below, meth, c, A, nL, Q⟩ := X
  obtain ⟨hx, hb, hml, hown, hts, hK, hnn, hfr, hlc, hSK⟩ := C
  intro H locs ls hW hAp hF hL hl hnc hns
  subst hfr; subst hlc
  exact W.objInit hx hb hown (hts _ h1) (hts _ h2) (hts _ h3) rfl (by rw [hml]; exact hl.1) rfl hd hf (by show 2 * 0 + _ + 12 ≤ _; omega) (k H locs ls hW hAp hF hL hl hnc hns)

/-- newarray, and the field of the object that it comes to -/
theorem j_arr2 (C : CxOk g X cc own Ts nn fr lc) {Cm Sm : Nat} (Nw : NewOk X Cm Sm) (hct : CtorOk X) {Cn : String} {T : u_T} {N index : Nat} {sh : Sh} {h : Nat → Nat} {o : Ob} {ty0 : Nat → FieldType} (hty : ∀ k, k < N → parseFieldDescriptor (T k).2.2.1 = some (ty0 k)) (hnm : ∀ a, a < N → ∀ b, b < N → a ≠ b → (T a).2.1 ≠ (T b).2.1) (j k n : Nat) {x : Int32} (hj : os[j]? = some (sh, h, o)) (hc : vwCl[sh.1]? = some (Cn, T, N)) (hk : k < N) (ht : sh.2[k]? = some (6, n)) (hz : oA o k = fun _ => 0) (hx0 : ¬ x < 0) (hxn : x.toNatClampNeg = n) (hnb : n * 4 ≤ 536870912) (hin : ∀ w ∈ u_ws Cn T N, w ∈ Ts) (hm : Cond.fieldLink own index (T k).1 (T k).2.1 (T k).2.2.1 ∈ Ts) (hfin : (T k).2.2.2 = true) (hdecl : (T k).1 = own) (hpd : parseFieldDescriptor (T k).2.2.1 = some (.array FieldType.int)) (harr : Cond.arrayClass FieldType.int ∈ Ts) (hcl : nc + 1 ≤ Cm) (hsl : ns + n ≤ Sm) (hd1 : decode cc pc = .ok (.newarray .int, 2)) (hd2 : decode cc (pc + 2) = .ok (.putfield index, 3)) (kk : ∀ q : Nat, JC g X (nc + 1) (ns + n) (os.set j (shS sh k (2, n), hS h (k + 1) q, o)) (pc + 5) lv st) : JC g X nc ns os pc lv (.int x :: .ref (h 0) :: st) := by
  obtain ⟨p, e, R, s, m, args, below, meth, c, A, nL, Q⟩ := X
  obtain ⟨hx, hb, hml, hown, hts, hK, hnn, hfr, hlc, hSK⟩ := C
  obtain ⟨hCm, hSm, hGr⟩ := Nw
  intro H locs ls hW hAp hF hL hl hnc hns
  have hap := va_apart (own := own) hts hin ty0 hty hnm hK hc
  obtain ⟨⟨r, h1, cell, q1, q2, q3, q4⟩, har⟩ := hW j _ hj
  have hr : r = (Cn, T, N) := Option.some.inj (h1.symm.trans hc)
  subst hr
  obtain ⟨hS9, hfc, kC, hkC, hkind⟩ := hK.1 sh.1 _ hc
  obtain ⟨cf, kf, fi, f, hi, hsl9⟩ := hS9 k hk
  have hlay := hts _ (hin _ (u_in_lay hk))
  unfold u_lay at hlay
  rw [if_pos hfin] at hlay
  have hst := (u_facts hfc hkC (u_lays hts hin hk) hi).1
  have hcf : m.cls = cf := by
    obtain ⟨_, _, c', _, _, _, -, -, hf', -, -, -, hown2, -⟩ := Cond.laysFinal_spec hlay
    have e1 : c' = cf := by have := hi.symm.trans hf'; simp at this; exact this.1.symm
    rw [hdecl] at hown2
    rw [← e1]; exact Option.some.inj (hown.symm.trans hown2)
  have hkl : k < sh.2.length := (List.getElem?_eq_some_iff.mp ht).1
  have hlt0 : h 0 < H.size := own_lt (hW j _ hj) rfl
  have hAo : A (h 0) := hAp.2 j (sh, h, o) 0 hj rfl
  have hjl : j < os.length := (List.getElem?_eq_some_iff.mp hj).1
  subst hCm; subst hSm
  refine va_newaK (atype := .int) hx hb (hts _ harr) rfl hd1 rfl hx0 hxn (by show n * 4 ≤ _; omega) hcl hsl rfl fun H1 cA e1 z1 o1 hAr hNm => ?_
  have hcA : cA = g.2.2.1.1 := Option.some.inj (hNm.symm.trans (hK.2 0 _ rfl).2)
  subst hcA
  have e1' : H1[H.size]? = some (vp_cell g.2.2.1.1 (n, .inl (oA o k))) := by rw [hz]; exact e1
  have h6 := u_fits (v := Value.ref H.size) hfc hkC hkind (Or.inr hlay) hi hpd rfl rfl
  refine W.putFinK hx hb hown (hts _ hm) hi hst hcf hct (by rw [q2]; exact h6) ((o1 _ hlt0).trans q1) q3 (by rw [hsl9]; exact k2_hasslot (q4 k hk)) rfl rfl hd2 fun H2 f1 f2 f3 => ?_
  rw [hsl9] at f1 ⊢
  have same : ∀ q : Nat, q < H.size → q ≠ h 0 → H2[q]? = H[q]? := fun q hq hne => (f3 q hne).trans (o1 q hq)
  -- the cells of the new world: the new one, or an old one as it was
  have key : ∀ (i : Nat) (d : Od) (a : Nat), (os.set j (shS sh k (2, n), hS h (k + 1) H.size, o))[i]? = some d → ownb d.1 a = true → (i = j ∧ a = k + 1 ∧ d.2.1 a = H.size) ∨ ∃ d0 : Od, os[i]? = some d0 ∧ ownb d0.1 a = true ∧ d.2.1 a = d0.2.1 a ∧ d0.2.1 a < H.size := by
    intro i d a hi9 ha9
    by_cases ej : i = j
    · subst ej
      rw [List.getElem?_set_self hjl] at hi9
      cases hi9
      rcases ownS ha9 with e9 | ⟨e9, h9⟩
      · refine Or.inl ⟨rfl, e9, ?_⟩
        show hS h (k + 1) H.size a = H.size
        rw [e9]; simp [hS]
      · refine Or.inr ⟨_, hj, h9, ?_, own_lt (hW i _ hj) h9⟩
        show hS h (k + 1) H.size a = h a
        simp [hS, e9]
    · rw [List.getElem?_set_ne (Ne.symm ej)] at hi9
      exact Or.inr ⟨d, hi9, ha9, rfl, own_lt (hW i d hi9) ha9⟩
  refine kk H.size H2 _ ls ?_ ⟨fun i1 i2 d1 d2 a b g1 g2 w1 w2 ee => ?_, fun i d a g1 w1 => ?_⟩ ⟨by rw [f2, z1]; have := hF.1; omega, fun q hq hn => ?_⟩ (fun q hq => ?_) hl hcl hsl
  · intro i d hi9
    by_cases ej : i = j
    · subst ej
      rw [List.getElem?_set_self hjl] at hi9
      cases hi9
      refine ⟨⟨_, hc, ?_⟩, fun k2 t2 hk2 ht2 => ?_⟩
      · show t_OB (hS h (k + 1) H.size 0) _ _ _ _ _
        rw [show hS h (k + 1) H.size 0 = h 0 from by simp [hS]]
        exact t_OB.to (V := updV (fvs sh h o) k (.ref H.size)) ⟨_, f1, q2, q3, t_set q4 hap hk _⟩ (fun j9 _ => fvs_ref hkl (by omega) (by omega) j9)
      · have hk3 : (sh.2.set k (2, n))[k2]? = some t2 := hk2
        by_cases e2 : k2 = k
        · subst e2
          rw [List.getElem?_set_self hkl] at hk3
          cases hk3
          show H2[hS h (k2 + 1) H.size (k2 + 1)]? = _
          rw [show hS h (k2 + 1) H.size (k2 + 1) = H.size from by simp [hS], f3 H.size (Nat.ne_of_gt hlt0)]
          exact e1'
        · rw [List.getElem?_set_ne (Ne.symm e2)] at hk3
          show H2[hS h (k + 1) H.size (k2 + 1)]? = _
          have hlt2 : h (k2 + 1) < H.size := own_lt (hW i _ hj) (own_arr hk3 ht2)
          rw [show hS h (k + 1) H.size (k2 + 1) = h (k2 + 1) from by simp [hS, e2], same _ hlt2 (fun e9 => by have := (hAp.1 i i (sh, h, o) (sh, h, o) (k2 + 1) 0 hj hj (own_arr hk3 ht2) rfl e9).2; omega)]
          exact har k2 t2 hk3 ht2
    · rw [List.getElem?_set_ne (Ne.symm ej)] at hi9
      exact (hW i d hi9).kept (fun b hb9 => same _ (own_lt (hW i d hi9) hb9) (fun e9 => ej (hAp.1 i j d (sh, h, o) b 0 hi9 hj hb9 rfl e9).1))
  · rcases key i1 d1 a g1 w1 with ⟨a1, a2, a3⟩ | ⟨y1, a1, a2, a3, a4⟩ <;> rcases key i2 d2 b g2 w2 with ⟨b1, b2, b3⟩ | ⟨y2, b1, b2, b3, b4⟩
    · exact ⟨a1.trans b1.symm, a2.trans b2.symm⟩
    · exfalso; rw [a3, b3] at ee; omega
    · exfalso; rw [a3, b3] at ee; omega
    · exact hAp.1 i1 i2 y1 y2 a b a1 b1 a2 b2 (by rw [← a3, ← b3]; exact ee)
  · rcases key i d a g1 w1 with ⟨a1, a2, a3⟩ | ⟨y1, a1, a2, a3, a4⟩
    · rw [a3]; exact hGr _ hF.1
    · rw [a3]; exact hAp.2 i y1 a a1 a2
  · rw [same q (Nat.lt_of_lt_of_le hq hF.1) (fun e9 => hn (e9 ▸ hAo))]
    exact hF.2 q hq hn
  · rcases List.mem_append.mp hq with h9 | h9
    · exact hL q h9
    · rw [List.mem_singleton.mp h9]; exact hAo
/-- newarray, and the field of the object that it comes to -/
theorem j_arr3 (C : CxOk g X cc own Ts nn fr lc) {Cm Sm : Nat} (Nw : NewOk X Cm Sm) (hct : CtorOk X) {Cn : String} {T : u_T} {N index : Nat} {sh : Sh} {h : Nat → Nat} {o : Ob} {ty0 : Nat → FieldType} (hty : ∀ k, k < N → parseFieldDescriptor (T k).2.2.1 = some (ty0 k)) (hnm : ∀ a, a < N → ∀ b, b < N → a ≠ b → (T a).2.1 ≠ (T b).2.1) (j k n : Nat) {x : Int32} (hj : os[j]? = some (sh, h, o)) (hc : vwCl[sh.1]? = some (Cn, T, N)) (hk : k < N) (ht : sh.2[k]? = some (6, n)) (hz : oA o k = fun _ => 0) (hx0 : ¬ x < 0) (hxn : x.toNatClampNeg = n) (hnb : n * 4 ≤ 536870912) (hin : ∀ w ∈ u_ws Cn T N, w ∈ Ts) (hm : Cond.fieldLink own index (T k).1 (T k).2.1 (T k).2.2.1 ∈ Ts) (hfin : (T k).2.2.2 = true) (hdecl : (T k).1 = own) (hpd : parseFieldDescriptor (T k).2.2.1 = some (.array FieldType.byte)) (harr : Cond.arrayClass FieldType.byte ∈ Ts) (hcl : nc + 1 ≤ Cm) (hsl : ns + n ≤ Sm) (hd1 : decode cc pc = .ok (.newarray .byte, 2)) (hd2 : decode cc (pc + 2) = .ok (.putfield index, 3)) (kk : ∀ q : Nat, JC g X (nc + 1) (ns + n) (os.set j (shS sh k (3, n), hS h (k + 1) q, o)) (pc + 5) lv st) : JC g X nc ns os pc lv (.int x :: .ref (h 0) :: st) := by
  obtain ⟨p, e, R, s, m, args, below, meth, c, A, nL, Q⟩ := X
  obtain ⟨hx, hb, hml, hown, hts, hK, hnn, hfr, hlc, hSK⟩ := C
  obtain ⟨hCm, hSm, hGr⟩ := Nw
  intro H locs ls hW hAp hF hL hl hnc hns
  have hap := va_apart (own := own) hts hin ty0 hty hnm hK hc
  obtain ⟨⟨r, h1, cell, q1, q2, q3, q4⟩, har⟩ := hW j _ hj
  have hr : r = (Cn, T, N) := Option.some.inj (h1.symm.trans hc)
  subst hr
  obtain ⟨hS9, hfc, kC, hkC, hkind⟩ := hK.1 sh.1 _ hc
  obtain ⟨cf, kf, fi, f, hi, hsl9⟩ := hS9 k hk
  have hlay := hts _ (hin _ (u_in_lay hk))
  unfold u_lay at hlay
  rw [if_pos hfin] at hlay
  have hst := (u_facts hfc hkC (u_lays hts hin hk) hi).1
  have hcf : m.cls = cf := by
    obtain ⟨_, _, c', _, _, _, -, -, hf', -, -, -, hown2, -⟩ := Cond.laysFinal_spec hlay
    have e1 : c' = cf := by have := hi.symm.trans hf'; simp at this; exact this.1.symm
    rw [hdecl] at hown2
    rw [← e1]; exact Option.some.inj (hown.symm.trans hown2)
  have hkl : k < sh.2.length := (List.getElem?_eq_some_iff.mp ht).1
  have hlt0 : h 0 < H.size := own_lt (hW j _ hj) rfl
  have hAo : A (h 0) := hAp.2 j (sh, h, o) 0 hj rfl
  have hjl : j < os.length := (List.getElem?_eq_some_iff.mp hj).1
  subst hCm; subst hSm
  refine va_newaK (atype := .byte) hx hb (hts _ harr) rfl hd1 rfl hx0 hxn (by show n * 1 ≤ _; omega) hcl hsl rfl fun H1 cA e1 z1 o1 hAr hNm => ?_
  have hcA : cA = g.2.2.1.2.1 := Option.some.inj (hNm.symm.trans (hK.2 1 _ rfl).2)
  subst hcA
  have e1' : H1[H.size]? = some (vp_cell g.2.2.1.2.1 (n, .inl (oA o k))) := by rw [hz]; exact e1
  have h6 := u_fits (v := Value.ref H.size) hfc hkC hkind (Or.inr hlay) hi hpd rfl rfl
  refine W.putFinK hx hb hown (hts _ hm) hi hst hcf hct (by rw [q2]; exact h6) ((o1 _ hlt0).trans q1) q3 (by rw [hsl9]; exact k2_hasslot (q4 k hk)) rfl rfl hd2 fun H2 f1 f2 f3 => ?_
  rw [hsl9] at f1 ⊢
  have same : ∀ q : Nat, q < H.size → q ≠ h 0 → H2[q]? = H[q]? := fun q hq hne => (f3 q hne).trans (o1 q hq)
  -- the cells of the new world: the new one, or an old one as it was
  have key : ∀ (i : Nat) (d : Od) (a : Nat), (os.set j (shS sh k (3, n), hS h (k + 1) H.size, o))[i]? = some d → ownb d.1 a = true → (i = j ∧ a = k + 1 ∧ d.2.1 a = H.size) ∨ ∃ d0 : Od, os[i]? = some d0 ∧ ownb d0.1 a = true ∧ d.2.1 a = d0.2.1 a ∧ d0.2.1 a < H.size := by
    intro i d a hi9 ha9
    by_cases ej : i = j
    · subst ej
      rw [List.getElem?_set_self hjl] at hi9
      cases hi9
      rcases ownS ha9 with e9 | ⟨e9, h9⟩
      · refine Or.inl ⟨rfl, e9, ?_⟩
        show hS h (k + 1) H.size a = H.size
        rw [e9]; simp [hS]
      · refine Or.inr ⟨_, hj, h9, ?_, own_lt (hW i _ hj) h9⟩
        show hS h (k + 1) H.size a = h a
        simp [hS, e9]
    · rw [List.getElem?_set_ne (Ne.symm ej)] at hi9
      exact Or.inr ⟨d, hi9, ha9, rfl, own_lt (hW i d hi9) ha9⟩
  refine kk H.size H2 _ ls ?_ ⟨fun i1 i2 d1 d2 a b g1 g2 w1 w2 ee => ?_, fun i d a g1 w1 => ?_⟩ ⟨by rw [f2, z1]; have := hF.1; omega, fun q hq hn => ?_⟩ (fun q hq => ?_) hl hcl hsl
  · intro i d hi9
    by_cases ej : i = j
    · subst ej
      rw [List.getElem?_set_self hjl] at hi9
      cases hi9
      refine ⟨⟨_, hc, ?_⟩, fun k2 t2 hk2 ht2 => ?_⟩
      · show t_OB (hS h (k + 1) H.size 0) _ _ _ _ _
        rw [show hS h (k + 1) H.size 0 = h 0 from by simp [hS]]
        exact t_OB.to (V := updV (fvs sh h o) k (.ref H.size)) ⟨_, f1, q2, q3, t_set q4 hap hk _⟩ (fun j9 _ => fvs_ref hkl (by omega) (by omega) j9)
      · have hk3 : (sh.2.set k (3, n))[k2]? = some t2 := hk2
        by_cases e2 : k2 = k
        · subst e2
          rw [List.getElem?_set_self hkl] at hk3
          cases hk3
          show H2[hS h (k2 + 1) H.size (k2 + 1)]? = _
          rw [show hS h (k2 + 1) H.size (k2 + 1) = H.size from by simp [hS], f3 H.size (Nat.ne_of_gt hlt0)]
          exact e1'
        · rw [List.getElem?_set_ne (Ne.symm e2)] at hk3
          show H2[hS h (k + 1) H.size (k2 + 1)]? = _
          have hlt2 : h (k2 + 1) < H.size := own_lt (hW i _ hj) (own_arr hk3 ht2)
          rw [show hS h (k + 1) H.size (k2 + 1) = h (k2 + 1) from by simp [hS, e2], same _ hlt2 (fun e9 => by have := (hAp.1 i i (sh, h, o) (sh, h, o) (k2 + 1) 0 hj hj (own_arr hk3 ht2) rfl e9).2; omega)]
          exact har k2 t2 hk3 ht2
    · rw [List.getElem?_set_ne (Ne.symm ej)] at hi9
      exact (hW i d hi9).kept (fun b hb9 => same _ (own_lt (hW i d hi9) hb9) (fun e9 => ej (hAp.1 i j d (sh, h, o) b 0 hi9 hj hb9 rfl e9).1))
  · rcases key i1 d1 a g1 w1 with ⟨a1, a2, a3⟩ | ⟨y1, a1, a2, a3, a4⟩ <;> rcases key i2 d2 b g2 w2 with ⟨b1, b2, b3⟩ | ⟨y2, b1, b2, b3, b4⟩
    · exact ⟨a1.trans b1.symm, a2.trans b2.symm⟩
    · exfalso; rw [a3, b3] at ee; omega
    · exfalso; rw [a3, b3] at ee; omega
    · exact hAp.1 i1 i2 y1 y2 a b a1 b1 a2 b2 (by rw [← a3, ← b3]; exact ee)
  · rcases key i d a g1 w1 with ⟨a1, a2, a3⟩ | ⟨y1, a1, a2, a3, a4⟩
    · rw [a3]; exact hGr _ hF.1
    · rw [a3]; exact hAp.2 i y1 a a1 a2
  · rw [same q (Nat.lt_of_lt_of_le hq hF.1) (fun e9 => hn (e9 ▸ hAo))]
    exact hF.2 q hq hn
  · rcases List.mem_append.mp hq with h9 | h9
    · exact hL q h9
    · rw [List.mem_singleton.mp h9]; exact hAo
/-- newarray, and the field of the object that it comes to -/
theorem j_arr4 (C : CxOk g X cc own Ts nn fr lc) {Cm Sm : Nat} (Nw : NewOk X Cm Sm) (hct : CtorOk X) {Cn : String} {T : u_T} {N index : Nat} {sh : Sh} {h : Nat → Nat} {o : Ob} {ty0 : Nat → FieldType} (hty : ∀ k, k < N → parseFieldDescriptor (T k).2.2.1 = some (ty0 k)) (hnm : ∀ a, a < N → ∀ b, b < N → a ≠ b → (T a).2.1 ≠ (T b).2.1) (j k n : Nat) {x : Int32} (hj : os[j]? = some (sh, h, o)) (hc : vwCl[sh.1]? = some (Cn, T, N)) (hk : k < N) (ht : sh.2[k]? = some (6, n)) (hz : oA o k = fun _ => 0) (hx0 : ¬ x < 0) (hxn : x.toNatClampNeg = n) (hnb : n * 4 ≤ 536870912) (hin : ∀ w ∈ u_ws Cn T N, w ∈ Ts) (hm : Cond.fieldLink own index (T k).1 (T k).2.1 (T k).2.2.1 ∈ Ts) (hfin : (T k).2.2.2 = true) (hdecl : (T k).1 = own) (hpd : parseFieldDescriptor (T k).2.2.1 = some (.array FieldType.boolean)) (harr : Cond.arrayClass FieldType.boolean ∈ Ts) (hcl : nc + 1 ≤ Cm) (hsl : ns + n ≤ Sm) (hd1 : decode cc pc = .ok (.newarray .boolean, 2)) (hd2 : decode cc (pc + 2) = .ok (.putfield index, 3)) (kk : ∀ q : Nat, JC g X (nc + 1) (ns + n) (os.set j (shS sh k (4, n), hS h (k + 1) q, o)) (pc + 5) lv st) : JC g X nc ns os pc lv (.int x :: .ref (h 0) :: st) := by
  obtain ⟨p, e, R, s, m, args, below, meth, c, A, nL, Q⟩ := X
  obtain ⟨hx, hb, hml, hown, hts, hK, hnn, hfr, hlc, hSK⟩ := C
  obtain ⟨hCm, hSm, hGr⟩ := Nw
  intro H locs ls hW hAp hF hL hl hnc hns
  have hap := va_apart (own := own) hts hin ty0 hty hnm hK hc
  obtain ⟨⟨r, h1, cell, q1, q2, q3, q4⟩, har⟩ := hW j _ hj
  have hr : r = (Cn, T, N) := Option.some.inj (h1.symm.trans hc)
  subst hr
  obtain ⟨hS9, hfc, kC, hkC, hkind⟩ := hK.1 sh.1 _ hc
  obtain ⟨cf, kf, fi, f, hi, hsl9⟩ := hS9 k hk
  have hlay := hts _ (hin _ (u_in_lay hk))
  unfold u_lay at hlay
  rw [if_pos hfin] at hlay
  have hst := (u_facts hfc hkC (u_lays hts hin hk) hi).1
  have hcf : m.cls = cf := by
    obtain ⟨_, _, c', _, _, _, -, -, hf', -, -, -, hown2, -⟩ := Cond.laysFinal_spec hlay
    have e1 : c' = cf := by have := hi.symm.trans hf'; simp at this; exact this.1.symm
    rw [hdecl] at hown2
    rw [← e1]; exact Option.some.inj (hown.symm.trans hown2)
  have hkl : k < sh.2.length := (List.getElem?_eq_some_iff.mp ht).1
  have hlt0 : h 0 < H.size := own_lt (hW j _ hj) rfl
  have hAo : A (h 0) := hAp.2 j (sh, h, o) 0 hj rfl
  have hjl : j < os.length := (List.getElem?_eq_some_iff.mp hj).1
  subst hCm; subst hSm
  refine va_newaK (atype := .boolean) hx hb (hts _ harr) rfl hd1 rfl hx0 hxn (by show n * 1 ≤ _; omega) hcl hsl rfl fun H1 cA e1 z1 o1 hAr hNm => ?_
  have hcA : cA = g.2.2.1.2.2 := Option.some.inj (hNm.symm.trans (hK.2 2 _ rfl).2)
  subst hcA
  have e1' : H1[H.size]? = some (vp_cell g.2.2.1.2.2 (n, .inl (oA o k))) := by rw [hz]; exact e1
  have h6 := u_fits (v := Value.ref H.size) hfc hkC hkind (Or.inr hlay) hi hpd rfl rfl
  refine W.putFinK hx hb hown (hts _ hm) hi hst hcf hct (by rw [q2]; exact h6) ((o1 _ hlt0).trans q1) q3 (by rw [hsl9]; exact k2_hasslot (q4 k hk)) rfl rfl hd2 fun H2 f1 f2 f3 => ?_
  rw [hsl9] at f1 ⊢
  have same : ∀ q : Nat, q < H.size → q ≠ h 0 → H2[q]? = H[q]? := fun q hq hne => (f3 q hne).trans (o1 q hq)
  -- the cells of the new world: the new one, or an old one as it was
  have key : ∀ (i : Nat) (d : Od) (a : Nat), (os.set j (shS sh k (4, n), hS h (k + 1) H.size, o))[i]? = some d → ownb d.1 a = true → (i = j ∧ a = k + 1 ∧ d.2.1 a = H.size) ∨ ∃ d0 : Od, os[i]? = some d0 ∧ ownb d0.1 a = true ∧ d.2.1 a = d0.2.1 a ∧ d0.2.1 a < H.size := by
    intro i d a hi9 ha9
    by_cases ej : i = j
    · subst ej
      rw [List.getElem?_set_self hjl] at hi9
      cases hi9
      rcases ownS ha9 with e9 | ⟨e9, h9⟩
      · refine Or.inl ⟨rfl, e9, ?_⟩
        show hS h (k + 1) H.size a = H.size
        rw [e9]; simp [hS]
      · refine Or.inr ⟨_, hj, h9, ?_, own_lt (hW i _ hj) h9⟩
        show hS h (k + 1) H.size a = h a
        simp [hS, e9]
    · rw [List.getElem?_set_ne (Ne.symm ej)] at hi9
      exact Or.inr ⟨d, hi9, ha9, rfl, own_lt (hW i d hi9) ha9⟩
  refine kk H.size H2 _ ls ?_ ⟨fun i1 i2 d1 d2 a b g1 g2 w1 w2 ee => ?_, fun i d a g1 w1 => ?_⟩ ⟨by rw [f2, z1]; have := hF.1; omega, fun q hq hn => ?_⟩ (fun q hq => ?_) hl hcl hsl
  · intro i d hi9
    by_cases ej : i = j
    · subst ej
      rw [List.getElem?_set_self hjl] at hi9
      cases hi9
      refine ⟨⟨_, hc, ?_⟩, fun k2 t2 hk2 ht2 => ?_⟩
      · show t_OB (hS h (k + 1) H.size 0) _ _ _ _ _
        rw [show hS h (k + 1) H.size 0 = h 0 from by simp [hS]]
        exact t_OB.to (V := updV (fvs sh h o) k (.ref H.size)) ⟨_, f1, q2, q3, t_set q4 hap hk _⟩ (fun j9 _ => fvs_ref hkl (by omega) (by omega) j9)
      · have hk3 : (sh.2.set k (4, n))[k2]? = some t2 := hk2
        by_cases e2 : k2 = k
        · subst e2
          rw [List.getElem?_set_self hkl] at hk3
          cases hk3
          show H2[hS h (k2 + 1) H.size (k2 + 1)]? = _
          rw [show hS h (k2 + 1) H.size (k2 + 1) = H.size from by simp [hS], f3 H.size (Nat.ne_of_gt hlt0)]
          exact e1'
        · rw [List.getElem?_set_ne (Ne.symm e2)] at hk3
          show H2[hS h (k + 1) H.size (k2 + 1)]? = _
          have hlt2 : h (k2 + 1) < H.size := own_lt (hW i _ hj) (own_arr hk3 ht2)
          rw [show hS h (k + 1) H.size (k2 + 1) = h (k2 + 1) from by simp [hS, e2], same _ hlt2 (fun e9 => by have := (hAp.1 i i (sh, h, o) (sh, h, o) (k2 + 1) 0 hj hj (own_arr hk3 ht2) rfl e9).2; omega)]
          exact har k2 t2 hk3 ht2
    · rw [List.getElem?_set_ne (Ne.symm ej)] at hi9
      exact (hW i d hi9).kept (fun b hb9 => same _ (own_lt (hW i d hi9) hb9) (fun e9 => ej (hAp.1 i j d (sh, h, o) b 0 hi9 hj hb9 rfl e9).1))
  · rcases key i1 d1 a g1 w1 with ⟨a1, a2, a3⟩ | ⟨y1, a1, a2, a3, a4⟩ <;> rcases key i2 d2 b g2 w2 with ⟨b1, b2, b3⟩ | ⟨y2, b1, b2, b3, b4⟩
    · exact ⟨a1.trans b1.symm, a2.trans b2.symm⟩
    · exfalso; rw [a3, b3] at ee; omega
    · exfalso; rw [a3, b3] at ee; omega
    · exact hAp.1 i1 i2 y1 y2 a b a1 b1 a2 b2 (by rw [← a3, ← b3]; exact ee)
  · rcases key i d a g1 w1 with ⟨a1, a2, a3⟩ | ⟨y1, a1, a2, a3, a4⟩
    · rw [a3]; exact hGr _ hF.1
    · rw [a3]; exact hAp.2 i y1 a a1 a2
  · rw [same q (Nat.lt_of_lt_of_le hq hF.1) (fun e9 => hn (e9 ▸ hAo))]
    exact hF.2 q hq hn
  · rcases List.mem_append.mp hq with h9 | h9
    · exact hL q h9
    · rw [List.mem_singleton.mp h9]; exact hAo
/-- a field that names another object -/
theorem j_putref (C : CxOk g X cc own Ts nn fr lc) {Cm Sm : Nat} (Nw : NewOk X Cm Sm) (hct : CtorOk X) {Cn Ce : String} {T : u_T} {N index b : Nat} {sh : Sh} {h : Nat → Nat} {o : Ob} {ty0 : Nat → FieldType} (hty : ∀ k, k < N → parseFieldDescriptor (T k).2.2.1 = some (ty0 k)) (hnm : ∀ a, a < N → ∀ b, b < N → a ≠ b → (T a).2.1 ≠ (T b).2.1) (j k : Nat) (hj : os[j]? = some (sh, h, o)) (hc : vwCl[sh.1]? = some (Cn, T, N)) (hk : k < N) (ht : sh.2[k]? = some (6, 0)) (hin : ∀ w ∈ u_ws Cn T N, w ∈ Ts) (hm : Cond.fieldLink own index (T k).1 (T k).2.1 (T k).2.2.1 ∈ Ts) (hfin : (T k).2.2.2 = true) (hdecl : (T k).1 = own) (hpd : parseFieldDescriptor (T k).2.2.1 = some (.object Ce)) (hd2 : decode cc pc = .ok (.putfield index, 3)) (kk : JC g X nc ns (os.set j (shS sh k (5, 0), hS h (k + 1) b, o)) (pc + 3) lv st) : JC g X nc ns os pc lv (.ref b :: .ref (h 0) :: st) := by
  obtain ⟨p, e, R, s, m, args, below, meth, c, A, nL, Q⟩ := X
  obtain ⟨hx, hb, hml, hown, hts, hK, hnn, hfr, hlc, hSK⟩ := C
  obtain ⟨hCm, hSm, hGr⟩ := Nw
  intro H locs ls hW hAp hF hL hl hnc hns
  have hap := va_apart (own := own) hts hin ty0 hty hnm hK hc
  obtain ⟨⟨r, h1, cell, q1, q2, q3, q4⟩, har⟩ := hW j _ hj
  have hr : r = (Cn, T, N) := Option.some.inj (h1.symm.trans hc)
  subst hr
  obtain ⟨hS9, hfc, kC, hkC, hkind⟩ := hK.1 sh.1 _ hc
  obtain ⟨cf, kf, fi, f, hi, hsl9⟩ := hS9 k hk
  have hlay := hts _ (hin _ (u_in_lay hk))
  unfold u_lay at hlay
  rw [if_pos hfin] at hlay
  have hst := (u_facts hfc hkC (u_lays hts hin hk) hi).1
  have hcf : m.cls = cf := by
    obtain ⟨_, _, c', _, _, _, -, -, hf', -, -, -, hown2, -⟩ := Cond.laysFinal_spec hlay
    have e1 : c' = cf := by have := hi.symm.trans hf'; simp at this; exact this.1.symm
    rw [hdecl] at hown2
    rw [← e1]; exact Option.some.inj (hown.symm.trans hown2)
  have hkl : k < sh.2.length := (List.getElem?_eq_some_iff.mp ht).1
  have hlt0 : h 0 < H.size := own_lt (hW j _ hj) rfl
  have hAo : A (h 0) := hAp.2 j (sh, h, o) 0 hj rfl
  have hjl : j < os.length := (List.getElem?_eq_some_iff.mp hj).1
  have h6 := u_fits (v := Value.ref b) hfc hkC hkind (Or.inr hlay) hi hpd rfl rfl
  refine W.putFinK hx hb hown (hts _ hm) hi hst hcf hct (by rw [q2]; exact h6) q1 q3 (by rw [hsl9]; exact k2_hasslot (q4 k hk)) rfl rfl hd2 fun H2 f1 f2 f3 => ?_
  rw [hsl9] at f1 ⊢
  have key : ∀ (i : Nat) (d : Od) (a : Nat), (os.set j (shS sh k (5, 0), hS h (k + 1) b, o))[i]? = some d → ownb d.1 a = true → ∃ d0 : Od, os[i]? = some d0 ∧ ownb d0.1 a = true ∧ d.2.1 a = d0.2.1 a := by
    intro i d a hi9 ha9
    by_cases ej : i = j
    · subst ej
      rw [List.getElem?_set_self hjl] at hi9
      cases hi9
      rcases ownS ha9 with e9 | ⟨e9, h9⟩
      · exfalso
        subst e9
        have h2 : (match (sh.2.set k (5, 0))[k]? with | some t => isar t.1 | none => false) = true := ha9
        rw [List.getElem?_set_self hkl] at h2
        exact absurd h2 (by decide)
      · refine ⟨_, hj, h9, ?_⟩
        show hS h (k + 1) b a = h a
        simp [hS, e9]
    · rw [List.getElem?_set_ne (Ne.symm ej)] at hi9
      exact ⟨d, hi9, ha9, rfl⟩
  refine kk H2 _ ls ?_ ⟨fun i1 i2 d1 d2 a b g1 g2 w1 w2 ee => ?_, fun i d a g1 w1 => ?_⟩ (hF.put f2 f3 hAo) (fun q hq => ?_) hl hnc hns
  · intro i d hi9
    by_cases ej : i = j
    · subst ej
      rw [List.getElem?_set_self hjl] at hi9
      cases hi9
      refine ⟨⟨_, hc, ?_⟩, fun k2 t2 hk2 ht2 => ?_⟩
      · show t_OB (hS h (k + 1) b 0) _ _ _ _ _
        rw [show hS h (k + 1) b 0 = h 0 from by simp [hS]]
        exact t_OB.to (V := updV (fvs sh h o) k (.ref b)) ⟨_, f1, q2, q3, t_set q4 hap hk _⟩ (fun j9 _ => fvs_ref hkl (by omega) (by omega) j9)
      · have hk3 : (sh.2.set k (5, 0))[k2]? = some t2 := hk2
        by_cases e2 : k2 = k
        · subst e2
          rw [List.getElem?_set_self hkl] at hk3
          cases hk3
          exact absurd ht2 (by decide)
        · rw [List.getElem?_set_ne (Ne.symm e2)] at hk3
          show H2[hS h (k + 1) b (k2 + 1)]? = _
          rw [show hS h (k + 1) b (k2 + 1) = h (k2 + 1) from by simp [hS, e2], f3 _ (fun e9 => by have := (hAp.1 i i (sh, h, o) (sh, h, o) (k2 + 1) 0 hj hj (own_arr hk3 ht2) rfl e9).2; omega)]
          exact har k2 t2 hk3 ht2
    · rw [List.getElem?_set_ne (Ne.symm ej)] at hi9
      exact (hW i d hi9).kept (fun b9 hb9 => f3 _ (fun e9 => ej (hAp.1 i j d (sh, h, o) b9 0 hi9 hj hb9 rfl e9).1))
  · obtain ⟨y1, a1, a2, a3⟩ := key i1 d1 a g1 w1
    obtain ⟨y2, b1, b2, b3⟩ := key i2 d2 b g2 w2
    exact hAp.1 i1 i2 y1 y2 a b a1 b1 a2 b2 (by rw [← a3, ← b3]; exact ee)
  · obtain ⟨y1, a1, a2, a3⟩ := key i d a g1 w1
    rw [a3]; exact hAp.2 i y1 a a1 a2
  · rcases List.mem_append.mp hq with h9 | h9
    · exact hL q h9
    · rw [List.mem_singleton.mp h9]; exact hAo
theorem getElem?_snoc {os : List Od} {x d : Od} {i : Nat} (h : (os ++ [x])[i]? = some d) : os[i]? = some d ∨ (i = os.length ∧ d = x) := by
  by_cases hl : i < os.length
  · rw [List.getElem?_append_left hl] at h; exact Or.inl h
  · rw [List.getElem?_append_right (by omega)] at h
    have hz : i - os.length < 1 := (List.getElem?_eq_some_iff.mp h).1
    rw [show i - os.length = 0 by omega] at h
    cases h
    exact Or.inr ⟨by omega, rfl⟩
/-- new: an object with nothing in it -/
theorem j_new (C : CxOk g X cc own Ts nn fr lc) {Cm Sm : Nat} (Nw : NewOk X Cm Sm) {Cn : String} {T : u_T} {N index : Nat} {ty0 : Nat → FieldType} (hty : ∀ k, k < N → parseFieldDescriptor (T k).2.2.1 = some (ty0 k)) (sh0 : Sh) (hc : vwCl[sh0.1]? = some (Cn, T, N)) (hdef : ∀ (h : Nat → Nat) (j : Nat), j < N → defaultValue (ty0 j) = fvs sh0 h zOb j) (hno : ∀ (k : Nat) (t : Nat × Nat), sh0.2[k]? = some t → isar t.1 = false) (hin : ∀ w ∈ u_ws Cn T N, w ∈ Ts) (h1 : Cond.classLink own index Cn ∈ Ts) (h2 : Cond.instantiable Cn N ∈ Ts) (h3 : Cond.initialized Cn ∈ Ts) (hcl : nc + 1 ≤ Cm) (hsl : ns + N ≤ Sm) (hd : decode cc pc = .ok (.new index, 3)) (kk : ∀ h : Nat → Nat, JC g X (nc + 1) (ns + N) (os ++ [(sh0, h, zOb)]) (pc + 3) lv (.ref (h 0) :: st)) : JC g X nc ns os pc lv st := by
  obtain ⟨p, e, R, s, m, args, below, meth, c, A, nL, Q⟩ := X
  obtain ⟨hx, hb, hml, hown, hts, hK, hnn, hfr, hlc, hSK⟩ := C
  obtain ⟨hCm, hSm, hGr⟩ := Nw
  intro H locs ls hW hAp hF hL hl hnc hns
  subst hCm; subst hSm
  have hKn := hK.1 sh0.1 _ hc
  refine W.newcK hx hb hown (hts _ h1) (hts _ h2) (hts _ h3) rfl hd hcl hsl hKn.2.1 rfl fun H1 kC hkC e1 z1 o1 => ?_
  have own0 : ∀ a, ownb sh0 a = true → a = 0 := by
    intro a ha
    cases a with
    | zero => rfl
    | succ k =>
      exfalso
      have h9 : (match sh0.2[k]? with | some t => isar t.1 | none => false) = true := ha
      cases hq : sh0.2[k]? with
      | none => rw [hq] at h9; cases h9
      | some t => rw [hq] at h9; exact absurd ((hno k t hq).symm.trans h9) (by decide)
  refine kk (fun _ => H.size) H1 locs ls ?_ ⟨fun i1 i2 d1 d2 a b g1 g2 w1 w2 ee => ?_, fun i d a g1 w1 => ?_⟩ ⟨by rw [z1]; have := hF.1; omega, fun q hq hn => (o1 q (Nat.lt_of_lt_of_le hq hF.1)).trans (hF.2 q hq hn)⟩ hL hl hcl hsl
  · intro i d hi
    rcases getElem?_snoc hi with h9 | ⟨-, rfl⟩
    · exact (hW i d h9).kept (fun a ha => o1 _ (own_lt (hW i d h9) ha))
    · refine ⟨⟨_, hc, (u_born ty0 hts hin hKn hkC e1 hty).to (hdef _)⟩, fun k t hk ht => ?_⟩
      rw [hno k t hk] at ht
      cases ht
  · rcases getElem?_snoc g1 with x1 | ⟨x1, rfl⟩ <;> rcases getElem?_snoc g2 with x2 | ⟨x2, rfl⟩
    · exact hAp.1 i1 i2 d1 d2 a b x1 x2 w1 w2 ee
    · exfalso
      have := own_lt (hW i1 d1 x1) w1
      rw [ee] at this
      exact absurd this (Nat.lt_irrefl _)
    · exfalso
      have := own_lt (hW i2 d2 x2) w2
      rw [← ee] at this
      exact absurd this (Nat.lt_irrefl _)
    · exact ⟨x1.trans x2.symm, (own0 a w1).trans (own0 b w2).symm⟩
  · rcases getElem?_snoc g1 with x1 | ⟨x1, rfl⟩
    · exact hAp.2 i d a x1 w1
    · exact hGr _ hF.1
/-- a constructor's contract: it makes of an empty object at h 0 the objects of a world that Pw tells -/
def mine (a sz : Nat) : Nat → Prop := fun q => q = a ∨ sz ≤ q
def PreI (g : Gl) (sh0 : Sh) (h : Nat → Nat) (As : List Value) (sz : Nat) : Array Value → State → Prop := fun v U => v = (Value.ref (h 0) :: As).toArray ∧ U.heap.size = sz ∧ hW g.2.1 g.2.2.1 [(sh0, h, zOb)] U.heap ∧ va_K g.2.1 vwCl (tys3 g.2.2.1) U ∧ StrK g (mine (h 0) sz) U
def CtrI (g : Gl) (y : MethodName) (ws : List Cond) (fr lc mc ms : Nat) (sh0 : Sh) (Pw : (Nat → Nat) → List Od → Prop) (As : List Value) : Prop := ∀ (h : Nat → Nat) (sz : Nat), Met g.1 y ws { frames := fr, cells := mc, slots := ms, locals := lc }
  (PreI g sh0 h As sz)
  (fun _ st oc t => oc = .returned none ∧ (∃ os' : List Od, Pw h os' ∧ hW g.2.1 g.2.2.1 os' t.heap ∧ Ap (mine (h 0) sz) os') ∧ Fr (mine (h 0) sz) st.heap t.heap) mc ms (mine (h 0) sz)

theorem j_callI (C : CxOk g X cc own Ts nn fr lc) {Cm Sm : Nat} (Nw : NewOk X Cm Sm) {y : MethodName} {ws ws' : List Cond} {bytes : ByteArray} {maxL fr' lc' mc ms index : Nat} {sh0 : Sh} {Pw : (Nat → Nat) → List Od → Prop} {h : Nat → Nat} {stk : List Value} (As : List Value) (hM : CtrI g y ws fr' lc' mc ms sh0 Pw As) (hini : Cond.initialized y.cls ∈ Ts) (hlk : Cond.methodLink own index y ∈ Ts) (hins : Cond.instanceMethod y ∈ Ts) (hG : GoodIn Ts ws) (hw : ws = Cond.code y bytes maxL none :: ws') (hy1 : y.name = "<init>") (n : Nat) (hn : As.length = n) (hdd : y.cls ≠ "java/lang/invoke/MethodHandle" ∧ y.cls ≠ "java/lang/invoke/VarHandle" ∧ (parseMethodDescriptor y.desc).map (fun d => d.parameters.length) = some n) (hR : fr' + 1 ≤ fr ∧ 8 + (maxL + 11) + lc' ≤ lc) (hst : (st.map fun v => v.category).sum ≤ 8) (hsk : stk = As.reverse ++ .ref (h 0) :: st) (hcl : nc + mc ≤ Cm) (hsl : ns + ms ≤ Sm) (hd : decode cc pc = .ok (.invokespecial index, 3)) (kk : ∀ os' : List Od, Pw h os' → JC g X (nc + mc) (ns + ms) (os ++ os') (pc + 3) lv st) : JC g X nc ns (os ++ [(sh0, h, zOb)]) pc lv stk := by
  obtain ⟨p, e, R, s, m, args, below, meth, c, A, nL, Q⟩ := X
  obtain ⟨hx, hb, hml, hown, hts, hK, hnn, hfr, hlc, hSK⟩ := C
  obtain ⟨hCm, hSm, hGr⟩ := Nw
  intro H locs ls hW hAp hF hL hl hnc hns
  subst hCm; subst hSm; subst hfr; subst hlc; subst hsk; subst hn
  have hlast : (os ++ [(sh0, h, zOb)])[os.length]? = some (sh0, h, zOb) := by simp
  have hold : ∀ (i : Nat) (d : Od), os[i]? = some d → (os ++ [(sh0, h, zOb)])[i]? = some d := fun i d hi => by rw [List.getElem?_append_left (List.getElem?_eq_some_iff.mp hi).1]; exact hi
  have hAo : A (h 0) := hAp.2 _ _ 0 hlast rfl
  have hmine : ∀ q, mine (h 0) H.size q → A q := fun q hq => hq.elim (fun e9 => e9 ▸ hAo) (fun h9 => hGr q (Nat.le_trans hF.1 h9))
  have hpre : ∀ U : State, U.heap = H → s.WarmedH U.vm → PreI g sh0 h As H.size (Value.ref (h 0) :: As).toArray U := fun U hU hWm => ⟨rfl, by rw [hU], by
      intro i d hi
      rw [hU]
      cases i with
      | zero => cases hi; exact hW _ _ hlast
      | succ i => simp at hi, va_K.moved hWm.alike hK, hSK.to hF hU hWm hmine⟩
  intro T0 hT X0
  obtain ⟨v, st₀, t, T', L, h0, X', hL2, e1, e2, ⟨hv, ⟨os', hPw, hw1, hAp1⟩, hz, hk⟩, stp⟩ := (va_runI (As := As) (rest := st) (g := F0 m pc ls (As.reverse ++ .ref (h 0) :: st)) ⟨hx, hb, hml, hown, hts⟩ (hM h H.size) (cwI As.length hts hG hw rfl rfl (hts _ hini) (hts _ hlk) (hts _ hins) hy1 hdd hR) ⟨fun a U gg mk q => ⟨q.1, q.2.1, q.2.2.1, va_K.moved (u := U) (U := U.calling gg mk a) (Vm.Alike.refl U.vm) q.2.2.2.1, q.2.2.2.2.blind gg mk a⟩, hpre⟩ rfl rfl hl.1 rfl (lv_room hst) hd ⟨hcl, hsl⟩) T0 hT X0
  cases hv
  rw [h0] at hz hk
  have same : ∀ q : Nat, q < H.size → q ≠ h 0 → T'.heap[q]? = H[q]? := fun q hq hne => by rw [e1]; exact hk q hq (fun z => z.elim hne (fun h9 => absurd hq (by omega)))
  have spl : ∀ (i : Nat) (d : Od), (os ++ os')[i]? = some d → os[i]? = some d ∨ (os.length ≤ i ∧ os'[i - os.length]? = some d) := by
    intro i d hi
    by_cases hl9 : i < os.length
    · rw [List.getElem?_append_left hl9] at hi; exact Or.inl hi
    · rw [List.getElem?_append_right (by omega)] at hi; exact Or.inr ⟨by omega, hi⟩
  have oldne : ∀ (i : Nat) (d : Od) (a : Nat), os[i]? = some d → ownb d.1 a = true → d.2.1 a < H.size ∧ d.2.1 a ≠ h 0 := by
    intro i d a hi ha
    refine ⟨own_lt (hW i d (hold i d hi)) ha, fun e9 => ?_⟩
    have := (hAp.1 i os.length d (sh0, h, zOb) a 0 (hold i d hi) hlast ha rfl e9).1
    have := (List.getElem?_eq_some_iff.mp hi).1
    omega
  have newin : ∀ (i : Nat) (d : Od) (a : Nat), os'[i]? = some d → ownb d.1 a = true → mine (h 0) H.size (d.2.1 a) := fun i d a hi ha => hAp1.2 i d a hi ha
  obtain ⟨t2, a1, b1⟩ := kk os' hPw T'.heap (locs ++ L) ls (fun i d hi => by
      rcases spl i d hi with h9 | ⟨-, h9⟩
      · exact (hW i d (hold i d h9)).kept (fun a ha => same _ (oldne i d a h9 ha).1 (oldne i d a h9 ha).2)
      · rw [e1]; exact hw1 _ d h9) ⟨fun i1 i2 d1 d2 a b g1 g2 w1 w2 ee => by
      rcases spl i1 d1 g1 with x1 | ⟨l1, x1⟩ <;> rcases spl i2 d2 g2 with x2 | ⟨l2, x2⟩
      · exact hAp.1 i1 i2 d1 d2 a b (hold _ _ x1) (hold _ _ x2) w1 w2 ee
      · exfalso
        have o9 := oldne i1 d1 a x1 w1
        rcases newin _ d2 b x2 w2 with z9 | z9
        · exact o9.2 (ee.trans z9)
        · rw [← ee] at z9; omega
      · exfalso
        have o9 := oldne i2 d2 b x2 w2
        rcases newin _ d1 a x1 w1 with z9 | z9
        · exact o9.2 (ee.symm.trans z9)
        · rw [ee] at z9; omega
      · obtain ⟨p1, p2⟩ := hAp1.1 _ _ d1 d2 a b x1 x2 w1 w2 ee
        exact ⟨by omega, p2⟩, fun i d a g1 w1 => by
      rcases spl i d g1 with x1 | ⟨-, x1⟩
      · exact hAp.2 i d a (hold _ _ x1) w1
      · exact hmine _ (newin _ d a x1 w1)⟩ ⟨Nat.le_trans hF.1 (by rw [e1]; exact hz), fun q hq hn => by
      rw [e1, hk q (Nat.lt_of_lt_of_le hq hF.1) (fun z => hn (hmine q z))]
      exact hF.2 q hq hn⟩ (fun q hq => by
      rcases List.mem_append.mp hq with h9 | h9
      · exact hL q h9
      · exact hmine _ (hL2 q h9)) hl hcl hsl T' rfl X'
  exact ⟨t2, stp t2 a1, b1⟩
theorem j_callIN (C : CxOk g X cc own Ts nn fr lc) {Cm Sm : Nat} (Nw : NewOk X Cm Sm) {y : MethodName} {ws ws' : List Cond} {bytes : ByteArray} {maxL fr' lc' mc ms index : Nat} {sh0 : Sh} {Pw : (Nat → Nat) → List Od → Prop} {h : Nat → Nat} {stk : List Value} (As : List Value) (hM : CtrI g y ws fr' lc' mc ms sh0 Pw As) (hini : Cond.initialized y.cls ∈ Ts) {host : String} (hlk : ∀ (A : Nat → Prop) (s : State), StrK g A s → va_Nw (.methodLinkNest own index y host) s) (hins : Cond.instanceMethod y ∈ Ts) (hG : GoodIn Ts ws) (hw : ws = Cond.code y bytes maxL none :: ws') (hy1 : y.name = "<init>") (n : Nat) (hn : As.length = n) (hdd : y.cls ≠ "java/lang/invoke/MethodHandle" ∧ y.cls ≠ "java/lang/invoke/VarHandle" ∧ (parseMethodDescriptor y.desc).map (fun d => d.parameters.length) = some n) (hR : fr' + 1 ≤ fr ∧ 8 + (maxL + 11) + lc' ≤ lc) (hst : (st.map fun v => v.category).sum ≤ 8) (hsk : stk = As.reverse ++ .ref (h 0) :: st) (hcl : nc + mc ≤ Cm) (hsl : ns + ms ≤ Sm) (hd : decode cc pc = .ok (.invokespecial index, 3)) (kk : ∀ os' : List Od, Pw h os' → JC g X (nc + mc) (ns + ms) (os ++ os') (pc + 3) lv st) : JC g X nc ns (os ++ [(sh0, h, zOb)]) pc lv stk := by
  obtain ⟨p, e, R, s, m, args, below, meth, c, A, nL, Q⟩ := X
  obtain ⟨hx, hb, hml, hown, hts, hK, hnn, hfr, hlc, hSK⟩ := C
  obtain ⟨hCm, hSm, hGr⟩ := Nw
  intro H locs ls hW hAp hF hL hl hnc hns
  subst hCm; subst hSm; subst hfr; subst hlc; subst hsk; subst hn
  have hlast : (os ++ [(sh0, h, zOb)])[os.length]? = some (sh0, h, zOb) := by simp
  have hold : ∀ (i : Nat) (d : Od), os[i]? = some d → (os ++ [(sh0, h, zOb)])[i]? = some d := fun i d hi => by rw [List.getElem?_append_left (List.getElem?_eq_some_iff.mp hi).1]; exact hi
  have hAo : A (h 0) := hAp.2 _ _ 0 hlast rfl
  have hmine : ∀ q, mine (h 0) H.size q → A q := fun q hq => hq.elim (fun e9 => e9 ▸ hAo) (fun h9 => hGr q (Nat.le_trans hF.1 h9))
  have hpre : ∀ U : State, U.heap = H → s.WarmedH U.vm → PreI g sh0 h As H.size (Value.ref (h 0) :: As).toArray U := fun U hU hWm => ⟨rfl, by rw [hU], by
      intro i d hi
      rw [hU]
      cases i with
      | zero => cases hi; exact hW _ _ hlast
      | succ i => simp at hi, va_K.moved hWm.alike hK, hSK.to hF hU hWm hmine⟩
  intro T0 hT X0
  obtain ⟨v, st₀, t, T', L, h0, X', hL2, e1, e2, ⟨hv, ⟨os', hPw, hw1, hAp1⟩, hz, hk⟩, stp⟩ := (va_runIN (As := As) (rest := st) (g := F0 m pc ls (As.reverse ++ .ref (h 0) :: st)) ⟨hx, hb, hml, hown, hts⟩ (hM h H.size) ⟨va_cnB As.length hts hG hw rfl rfl (hlk A s hSK) (hts _ hini) hdd hR, hy1, hts _ hins⟩ ⟨fun a U gg mk q => ⟨q.1, q.2.1, q.2.2.1, va_K.moved (u := U) (U := U.calling gg mk a) (Vm.Alike.refl U.vm) q.2.2.2.1, q.2.2.2.2.blind gg mk a⟩, hpre⟩ rfl rfl hl.1 rfl (lv_room hst) hd ⟨hcl, hsl⟩) T0 hT X0
  cases hv
  rw [h0] at hz hk
  have same : ∀ q : Nat, q < H.size → q ≠ h 0 → T'.heap[q]? = H[q]? := fun q hq hne => by rw [e1]; exact hk q hq (fun z => z.elim hne (fun h9 => absurd hq (by omega)))
  have spl : ∀ (i : Nat) (d : Od), (os ++ os')[i]? = some d → os[i]? = some d ∨ (os.length ≤ i ∧ os'[i - os.length]? = some d) := by
    intro i d hi
    by_cases hl9 : i < os.length
    · rw [List.getElem?_append_left hl9] at hi; exact Or.inl hi
    · rw [List.getElem?_append_right (by omega)] at hi; exact Or.inr ⟨by omega, hi⟩
  have oldne : ∀ (i : Nat) (d : Od) (a : Nat), os[i]? = some d → ownb d.1 a = true → d.2.1 a < H.size ∧ d.2.1 a ≠ h 0 := by
    intro i d a hi ha
    refine ⟨own_lt (hW i d (hold i d hi)) ha, fun e9 => ?_⟩
    have := (hAp.1 i os.length d (sh0, h, zOb) a 0 (hold i d hi) hlast ha rfl e9).1
    have := (List.getElem?_eq_some_iff.mp hi).1
    omega
  have newin : ∀ (i : Nat) (d : Od) (a : Nat), os'[i]? = some d → ownb d.1 a = true → mine (h 0) H.size (d.2.1 a) := fun i d a hi ha => hAp1.2 i d a hi ha
  obtain ⟨t2, a1, b1⟩ := kk os' hPw T'.heap (locs ++ L) ls (fun i d hi => by
      rcases spl i d hi with h9 | ⟨-, h9⟩
      · exact (hW i d (hold i d h9)).kept (fun a ha => same _ (oldne i d a h9 ha).1 (oldne i d a h9 ha).2)
      · rw [e1]; exact hw1 _ d h9) ⟨fun i1 i2 d1 d2 a b g1 g2 w1 w2 ee => by
      rcases spl i1 d1 g1 with x1 | ⟨l1, x1⟩ <;> rcases spl i2 d2 g2 with x2 | ⟨l2, x2⟩
      · exact hAp.1 i1 i2 d1 d2 a b (hold _ _ x1) (hold _ _ x2) w1 w2 ee
      · exfalso
        have o9 := oldne i1 d1 a x1 w1
        rcases newin _ d2 b x2 w2 with z9 | z9
        · exact o9.2 (ee.trans z9)
        · rw [← ee] at z9; omega
      · exfalso
        have o9 := oldne i2 d2 b x2 w2
        rcases newin _ d1 a x1 w1 with z9 | z9
        · exact o9.2 (ee.symm.trans z9)
        · rw [ee] at z9; omega
      · obtain ⟨p1, p2⟩ := hAp1.1 _ _ d1 d2 a b x1 x2 w1 w2 ee
        exact ⟨by omega, p2⟩, fun i d a g1 w1 => by
      rcases spl i d g1 with x1 | ⟨-, x1⟩
      · exact hAp.2 i d a (hold _ _ x1) w1
      · exact hmine _ (newin _ d a x1 w1)⟩ ⟨Nat.le_trans hF.1 (by rw [e1]; exact hz), fun q hq hn => by
      rw [e1, hk q (Nat.lt_of_lt_of_le hq hF.1) (fun z => hn (hmine q z))]
      exact hF.2 q hq hn⟩ (fun q hq => by
      rcases List.mem_append.mp hq with h9 | h9
      · exact hL q h9
      · exact hmine _ (hL2 q h9)) hl hcl hsl T' rfl X'
  exact ⟨t2, stp t2 a1, b1⟩
/-- a constructor's contract out of a walk -/
theorem CtrI.of {y : MethodName} {ws ws' : List Cond} {maxL fr lc mc ms : Nat} {sh0 : Sh} {Pw : (Nat → Nat) → List Od → Prop} {As : List Value} (hy : plainName y.cls = true) (hyn : y.name = "<init>") (hw : ws = Cond.code y cc maxL none :: ws') (hn : ∀ a : Nat, (lg_sl (Value.ref a :: As)).length ≤ maxL) (hno : ∀ (k : Nat) (t : Nat × Nat), sh0.2[k]? = some t → isar t.1 = false)
    (body : ∀ (X : Cxt) (h : Nat → Nat), CxOk g X cc y.cls ws maxL fr lc → NewOk X mc ms → CtorOk X → (∀ os' : List Od, Pw h os' → RetOkC g X mc ms os' none none) → JC g X 0 0 [(sh0, h, zOb)] 0 (lv_args 0 (Value.ref (h 0) :: As)) []) : CtrI g y ws fr lc mc ms sh0 Pw As := by
  intro h sz
  refine Met.ofW (cc := cc) (maxL := maxL) (ret := none) hy hw ?_
  intro p e s m args below meth c s₁ B hml hv
  obtain ⟨rfl, rfl, hwd, hK, hSK⟩ := hv
  have hts := atoms_spec (ws := ws) B.pre
  have hown : s.vm.findClass y.cls = some m.cls := findClass_of_methodNamed B.named
  rw [lg_entry_eq]
  refine body (p, e, _, s, m, _, below, meth, c, mine (h 0) s.heap.size, maxL, _) h ⟨B.exec, B.bytes, hml, hown, hts, hK, rfl, rfl, rfl, hSK⟩ ⟨rfl, rfl, fun q hq => Or.inr hq⟩ ((name_of_methodNamed B.named B.method).1.trans hyn) (fun os' hPw => ⟨_, _, rfl, fun _ h9 => h9, fun t h1 h2 h3 => ⟨rfl, ⟨os', hPw, h1, h2⟩, h3⟩, B.returns, B.notSynchronized⟩) s.heap [] _ hwd ⟨fun i1 i2 d1 d2 a b g1 g2 w1 w2 ee => ?_, fun i d a g1 w1 => ?_⟩ Fr.rf (fun q hq => by cases hq) (lv_entry (Value.ref (h 0) :: As) (hn _)) (Nat.zero_le _) (Nat.zero_le _)
  all_goals
    have own0 : ∀ a, ownb sh0 a = true → a = 0 := by
      intro a ha
      cases a with
      | zero => rfl
      | succ k =>
        exfalso
        have h9 : (match sh0.2[k]? with | some t => isar t.1 | none => false) = true := ha
        cases hq : sh0.2[k]? with
        | none => rw [hq] at h9; cases h9
        | some t => rw [hq] at h9; exact absurd ((hno k t hq).symm.trans h9) (by decide)
    have one : ∀ (i : Nat) (d : Od), [(sh0, h, zOb)][i]? = some d → i = 0 ∧ d = (sh0, h, zOb) := by
      intro i d hi
      cases i with
      | zero => cases hi; exact ⟨rfl, rfl⟩
      | succ i => simp at hi
  · obtain ⟨rfl, rfl⟩ := one _ _ g1
    obtain ⟨rfl, rfl⟩ := one _ _ g2
    exact ⟨rfl, (own0 a w1).trans (own0 b w2).symm⟩
  · obtain ⟨rfl, rfl⟩ := one _ _ g1
    rw [own0 a w1]
    exact Or.inl rfl
end JR2
