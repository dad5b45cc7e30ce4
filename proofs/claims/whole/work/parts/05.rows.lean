/-! MY OWN WORLDS: an object is rows of ints, ints and longs by the number of its field; a world is a list of objects -/
abbrev Ob : Type := (Nat → Nat → Int32) × (Nat → Int32) × (Nat → Int64)
def oA (o : Ob) (k : Nat) : Nat → Int32 := o.1 k
def oV (o : Ob) (k : Nat) : Int32 := o.2.1 k
def oL (o : Ob) (k : Nat) : Int64 := o.2.2 k
def sR (o : Ob) (k : Nat) (f : Nat → Int32) : Ob := (fun j => if j = k then f else o.1 j, o.2.1, o.2.2)
def sA (o : Ob) (k i : Nat) (x : Int32) : Ob := sR o k (upd (oA o k) i x)
def sV (o : Ob) (k : Nat) (x : Int32) : Ob := (o.1, upd o.2.1 k x, o.2.2)
def sL (o : Ob) (k : Nat) (x : Int64) : Ob := (o.1, o.2.1, vp_updL o.2.2 k x)
/-- number of the class, its fields: 0 int, 1 long, 2 int[], 3 byte[], 4 boolean[], 5 another object, 6 null as yet; length -/
abbrev Sh : Type := Nat × List (Nat × Nat)
abbrev Od : Type := Sh × (Nat → Nat) × Ob
def fv (h : Nat → Nat) (o : Ob) (k : Nat) (t : Nat × Nat) : Value := if t.1 = 0 then .int (oV o k) else if t.1 = 1 then .long (oL o k) else if t.1 = 6 then .null else .ref (h (k + 1))
def fvs (sh : Sh) (h : Nat → Nat) (o : Ob) (k : Nat) : Value := match sh.2[k]? with
  | some t => fv h o k t
  | none => .null
def isar (kd : Nat) : Bool := kd == 2 || kd == 3 || kd == 4
def ownb (sh : Sh) (a : Nat) : Bool := match a with
  | 0 => true
  | k + 1 => match sh.2[k]? with
    | some t => isar t.1
    | none => false
abbrev Cs : Type := ClassId × ClassId × ClassId
def ca (cs : Cs) (kd : Nat) : ClassId := match kd with
  | 2 => cs.1
  | 3 => cs.2.1
  | _ => cs.2.2
abbrev tys3 (cs : Cs) : List (ClassId × FieldType) := [(cs.1, .int), (cs.2.1, .byte), (cs.2.2, .boolean)]
def hOb (D : va_G) (cs : Cs) (d : Od) (H : Heap) : Prop :=
  (∃ r : vw_C, vwCl[d.1.1]? = some r ∧ t_OB (d.2.1 0) (D.1 d.1.1) r.2.2 (D.2 d.1.1) H (fvs d.1 d.2.1 d.2.2)) ∧
  ∀ (k : Nat) (t : Nat × Nat), d.1.2[k]? = some t → isar t.1 = true → H[d.2.1 (k + 1)]? = some (vp_cell (ca cs t.1) (t.2, .inl (oA d.2.2 k)))
def hW (D : va_G) (cs : Cs) (os : List Od) (H : Heap) : Prop := ∀ (j : Nat) (d : Od), os[j]? = some d → hOb D cs d H
/-- the cells are apart, and of a kind -/
def Ap (A : Nat → Prop) (os : List Od) : Prop :=
  (∀ (i j : Nat) (d d' : Od) (a b : Nat), os[i]? = some d → os[j]? = some d' → ownb d.1 a = true → ownb d'.1 b = true → d.2.1 a = d'.2.1 b → i = j ∧ a = b) ∧
  ∀ (i : Nat) (d : Od) (a : Nat), os[i]? = some d → ownb d.1 a = true → A (d.2.1 a)
def wA (os : List Od) : Nat → Prop := fun q => ∃ (j : Nat) (d : Od) (a : Nat), os[j]? = some d ∧ ownb d.1 a = true ∧ q = d.2.1 a
def Fr (A : Nat → Prop) (H0 H : Heap) : Prop := H0.size ≤ H.size ∧ ∀ q : Nat, q < H0.size → ¬ A q → H[q]? = H0[q]?
theorem Fr.rf {A : Nat → Prop} {H : Heap} : Fr A H H := ⟨Nat.le_refl _, fun _ _ _ => rfl⟩
theorem Fr.put {A : Nat → Prop} {H0 H H1 : Heap} {a : Nat} (h : Fr A H0 H) (z : H1.size = H.size) (oq : ∀ q : Nat, q ≠ a → H1[q]? = H[q]?) (ha : A a) : Fr A H0 H1 :=
  ⟨z ▸ h.1, fun q hs hq => (oq q (fun e => hq (e ▸ ha))).trans (h.2 q hs hq)⟩
theorem hOb.kept {D : va_G} {cs : Cs} {d : Od} {H H1 : Heap} (h : hOb D cs d H) (hk : ∀ a : Nat, ownb d.1 a = true → H1[d.2.1 a]? = H[d.2.1 a]?) : hOb D cs d H1 := by
  obtain ⟨⟨r, h1, h2⟩, h3⟩ := h
  refine ⟨⟨r, h1, h2.kept (hk 0 rfl)⟩, fun k t hk2 ht => ?_⟩
  rw [hk (k + 1) (by show (match d.1.2[k]? with | some t => isar t.1 | none => false) = true; rw [hk2]; exact ht)]
  exact h3 k t hk2 ht
theorem own_lt {D : va_G} {cs : Cs} {d : Od} {H : Heap} (h : hOb D cs d H) {a : Nat} (ha : ownb d.1 a = true) : d.2.1 a < H.size := by
  obtain ⟨⟨r, h1, cell, h2, -⟩, h3⟩ := h
  cases a with
  | zero => exact (Array.getElem?_eq_some_iff.mp h2).1
  | succ k =>
    have ha2 : (match d.1.2[k]? with | some t => isar t.1 | none => false) = true := ha
    cases ht : d.1.2[k]? with
    | none => rw [ht] at ha2; cases ha2
    | some t =>
      rw [ht] at ha2
      exact (Array.getElem?_eq_some_iff.mp (h3 k t ht ha2)).1
theorem own_arr {sh : Sh} {k : Nat} {t : Nat × Nat} (hk : sh.2[k]? = some t) (ht : isar t.1 = true) : ownb sh (k + 1) = true := by
  show (match sh.2[k]? with | some t => isar t.1 | none => false) = true
  rw [hk]; exact ht
/-- one object's cell a has changed -/
theorem hW.set1 {D : va_G} {cs : Cs} {A : Nat → Prop} {os : List Od} {j : Nat} {sh : Sh} {h : Nat → Nat} {o o' : Ob} {a : Nat} {H H1 : Heap} (hw : hW D cs os H) (hA : Ap A os) (hj : os[j]? = some (sh, h, o)) (ha : ownb sh a = true) (oq : ∀ q : Nat, q ≠ h a → H1[q]? = H[q]?) (hn : hOb D cs (sh, h, o') H1) : hW D cs (os.set j (sh, h, o')) H1 := by
  intro i d hi
  by_cases e : i = j
  · subst e
    have hlt : i < os.length := (List.getElem?_eq_some_iff.mp hj).1
    rw [List.getElem?_set_self hlt] at hi
    cases hi
    exact hn
  · rw [List.getElem?_set_ne (Ne.symm e)] at hi
    refine (hw i d hi).kept (fun b hb => oq _ (fun e2 => e ?_))
    exact (hA.1 i j d (sh, h, o) b a hi hj hb ha e2).1
theorem Ap.set1 {A : Nat → Prop} {os : List Od} {j : Nat} {sh : Sh} {h : Nat → Nat} {o o' : Ob} (hA : Ap A os) (hj : os[j]? = some (sh, h, o)) : Ap A (os.set j (sh, h, o')) := by
  have key : ∀ (i : Nat) (d : Od), (os.set j (sh, h, o'))[i]? = some d → ∃ d0 : Od, os[i]? = some d0 ∧ d0.1 = d.1 ∧ d0.2.1 = d.2.1 := by
    intro i d hi
    by_cases e : i = j
    · subst e
      have hlt : i < os.length := (List.getElem?_eq_some_iff.mp hj).1
      rw [List.getElem?_set_self hlt] at hi
      cases hi
      exact ⟨_, hj, rfl, rfl⟩
    · rw [List.getElem?_set_ne (Ne.symm e)] at hi
      exact ⟨d, hi, rfl, rfl⟩
  refine ⟨fun i1 i2 d1 d2 a b h1 h2 q1 q2 e => ?_, fun i d a h1 q1 => ?_⟩
  · obtain ⟨x1, y1, z1, w1⟩ := key i1 d1 h1
    obtain ⟨x2, y2, z2, w2⟩ := key i2 d2 h2
    exact hA.1 i1 i2 x1 x2 a b y1 y2 (by rw [z1]; exact q1) (by rw [z2]; exact q2) (by rw [w1, w2]; exact e)
  · obtain ⟨x1, y1, z1, w1⟩ := key i d h1
    have := hA.2 i x1 a y1 (by rw [z1]; exact q1)
    rw [w1] at this
    exact this
/-- what a callee gave back, put where it was taken -/
def pb : List Od → List Nat → List Od → List Od
  | os, i :: is, d :: ds => pb (os.set i d) is ds
  | os, _, _ => os
abbrev shp (d : Od) : Sh × (Nat → Nat) := (d.1, d.2.1)
theorem pb_get : ∀ (is : List Nat) (os ds : List Od) (j : Nat) (d : Od), is.length = ds.length → (pb os is ds)[j]? = some d → (∃ t : Nat, is[t]? = some j ∧ ds[t]? = some d) ∨ (j ∉ is ∧ os[j]? = some d)
  | [], os, ds, j, d, _, h => Or.inr ⟨List.not_mem_nil, by cases ds <;> exact h⟩
  | i :: is, os, [], j, d, hl, _ => by simp at hl
  | i :: is, os, d0 :: ds, j, d, hl, h => by
    rcases pb_get is (os.set i d0) ds j d (by simpa using hl) h with ⟨t, h1, h2⟩ | ⟨h1, h2⟩
    · exact Or.inl ⟨t + 1, h1, h2⟩
    · by_cases e : j = i
      · subst e
        have hlt : j < os.length := by
          have := (List.getElem?_eq_some_iff.mp h2).1
          simpa using this
        rw [List.getElem?_set_self hlt] at h2
        exact Or.inl ⟨0, rfl, h2⟩
      · rw [List.getElem?_set_ne (Ne.symm e)] at h2
        exact Or.inr ⟨fun hm => (List.mem_cons.mp hm).elim e h1, h2⟩
theorem pick_get {os oc : List Od} {is : List Nat} (hp : is.map (fun i => os[i]?) = oc.map some) {t : Nat} {d : Od} (h : oc[t]? = some d) : ∃ i, is[t]? = some i ∧ os[i]? = some d := by
  have h1 : (is.map (fun i => os[i]?))[t]? = some (some d) := by rw [hp, List.getElem?_map, h]; rfl
  rw [List.getElem?_map] at h1
  cases hi : is[t]? with
  | none => rw [hi] at h1; cases h1
  | some i => rw [hi] at h1; exact ⟨i, rfl, Option.some.inj h1⟩
theorem pick_len {os oc : List Od} {is : List Nat} (hp : is.map (fun i => os[i]?) = oc.map some) : is.length = oc.length := by
  have := congrArg List.length hp
  simpa using this
theorem hW.pick {D : va_G} {cs : Cs} {os oc : List Od} {is : List Nat} {H : Heap} (hw : hW D cs os H) (hp : is.map (fun i => os[i]?) = oc.map some) : hW D cs oc H := by
  intro t d hd
  obtain ⟨i, -, h2⟩ := pick_get hp hd
  exact hw i d h2
theorem nd_inj : ∀ (is : List Nat), va_nd is = true → ∀ (a b i : Nat), is[a]? = some i → is[b]? = some i → a = b := by
  intro is
  induction is with
  | nil => intro _ a b i h; simp at h
  | cons x l ih =>
    intro hn a b i h1 h2
    have hn2 : (!l.contains x && va_nd l) = true := by simpa [va_nd] using hn
    simp only [Bool.and_eq_true, Bool.not_eq_true', List.contains_eq_mem, decide_eq_false_iff_not] at hn2
    cases a with
    | zero =>
      cases b with
      | zero => rfl
      | succ b =>
        simp only [List.getElem?_cons_zero, Option.some.injEq] at h1
        subst h1
        have h3 : l[b]? = some x := by simpa using h2
        exact absurd (List.mem_of_getElem? h3) hn2.1
    | succ a =>
      cases b with
      | zero =>
        simp only [List.getElem?_cons_zero, Option.some.injEq] at h2
        subst h2
        have h3 : l[a]? = some x := by simpa using h1
        exact absurd (List.mem_of_getElem? h3) hn2.1
      | succ b => exact congrArg (· + 1) (ih hn2.2 a b i h1 h2)
theorem Ap.pick {A : Nat → Prop} {os oc : List Od} {is : List Nat} (hA : Ap A os) (hp : is.map (fun i => os[i]?) = oc.map some) (hn : va_nd is = true) : Ap (fun _ => True) oc := by
  refine ⟨fun i j d d' a b h1 h2 q1 q2 e => ?_, fun _ _ _ _ _ => trivial⟩
  obtain ⟨i1, x1, y1⟩ := pick_get hp h1
  obtain ⟨j1, x2, y2⟩ := pick_get hp h2
  obtain ⟨e1, e2⟩ := hA.1 i1 j1 d d' a b y1 y2 q1 q2 e
  subst e1
  exact ⟨nd_inj is hn _ _ _ x1 x2, e2⟩
theorem shp_get {oc oc' : List Od} (hs : oc'.map shp = oc.map shp) {t : Nat} {d' : Od} (h : oc'[t]? = some d') : ∃ d : Od, oc[t]? = some d ∧ d.1 = d'.1 ∧ d.2.1 = d'.2.1 := by
  have h1 : (oc.map shp)[t]? = some (shp d') := by rw [← hs, List.getElem?_map, h]; rfl
  rw [List.getElem?_map] at h1
  cases hi : oc[t]? with
  | none => rw [hi] at h1; cases h1
  | some d =>
    rw [hi] at h1
    have e : shp d = shp d' := Option.some.inj h1
    exact ⟨d, rfl, (Prod.mk.inj e).1, (Prod.mk.inj e).2⟩
theorem shp_len {oc oc' : List Od} (hs : oc'.map shp = oc.map shp) : oc'.length = oc.length := by
  have := congrArg List.length hs
  simpa using this
/-- behind a call -/
theorem hW.back {D : va_G} {cs : Cs} {A : Nat → Prop} {os oc oc' : List Od} {is : List Nat} {H H1 : Heap} (hw : hW D cs os H) (hA : Ap A os) (hp : is.map (fun i => os[i]?) = oc.map some) (hs : oc'.map shp = oc.map shp) (hk : ∀ q : Nat, q < H.size → ¬ wA oc q → H1[q]? = H[q]?) (h1 : hW D cs oc' H1) : hW D cs (pb os is oc') H1 := by
  intro j d hj
  rcases pb_get is os oc' j d (by rw [pick_len hp, shp_len hs]) hj with ⟨t, a1, a2⟩ | ⟨a1, a2⟩
  · exact h1 t d a2
  · refine (hw j d a2).kept (fun b hb => hk _ (own_lt (hw j d a2) hb) ?_)
    rintro ⟨t, d2, a, b1, b2, b3⟩
    obtain ⟨i, c1, c2⟩ := pick_get hp b1
    obtain ⟨e1, -⟩ := hA.1 j i d d2 b a a2 c2 hb b2 b3
    subst e1
    exact a1 (List.mem_of_getElem? c1)
theorem Ap.back {A : Nat → Prop} {os oc oc' : List Od} {is : List Nat} (hA : Ap A os) (hp : is.map (fun i => os[i]?) = oc.map some) (hs : oc'.map shp = oc.map shp) : Ap A (pb os is oc') := by
  have key : ∀ (i : Nat) (d : Od), (pb os is oc')[i]? = some d → ∃ d0 : Od, os[i]? = some d0 ∧ d0.1 = d.1 ∧ d0.2.1 = d.2.1 := by
    intro j d hj
    rcases pb_get is os oc' j d (by rw [pick_len hp, shp_len hs]) hj with ⟨t, a1, a2⟩ | ⟨a1, a2⟩
    · obtain ⟨d1, b1, b2, b3⟩ := shp_get hs a2
      obtain ⟨i, c1, c2⟩ := pick_get hp b1
      rw [a1] at c1
      cases c1
      exact ⟨d1, c2, b2, b3⟩
    · exact ⟨d, a2, rfl, rfl⟩
  refine ⟨fun i1 i2 d1 d2 a b h1 h2 q1 q2 e => ?_, fun i d a h1 q1 => ?_⟩
  · obtain ⟨x1, y1, z1, w1⟩ := key i1 d1 h1
    obtain ⟨x2, y2, z2, w2⟩ := key i2 d2 h2
    exact hA.1 i1 i2 x1 x2 a b y1 y2 (by rw [z1]; exact q1) (by rw [z2]; exact q2) (by rw [w1, w2]; exact e)
  · obtain ⟨x1, y1, z1, w1⟩ := key i d h1
    have := hA.2 i x1 a y1 (by rw [z1]; exact q1)
    rw [w1] at this
    exact this
theorem wA.in {A : Nat → Prop} {os oc : List Od} {is : List Nat} (hA : Ap A os) (hp : is.map (fun i => os[i]?) = oc.map some) : ∀ q, wA oc q → A q := by
  rintro q ⟨t, d, a, b1, b2, rfl⟩
  obtain ⟨i, -, c2⟩ := pick_get hp b1
  exact hA.2 i d a c2 b2
theorem Ap.self {A : Nat → Prop} {os : List Od} (h : Ap A os) : Ap (wA os) os := ⟨h.1, fun i d a h1 h2 => ⟨i, d, a, h1, h2, rfl⟩⟩
/-! the judgement -/
abbrev Gl : Type := Launch × va_G × Cs × (Nat → Nat) × (Nat → Nat)
abbrev gK (g : Gl) : Nat → Nat := g.2.2.2.1
abbrev gV (g : Gl) : Nat → Nat := g.2.2.2.2
def strB : List (List Int32) := [[42, 40, 91, 123], [42, 41, 93, 125]]
/-- what is known of the two texts, and of two statics of the JDK: outside of what is written -/
def StrK (g : Gl) (A : Nat → Prop) (s : State) : Prop := vk_S 2 [4, 4] strB (gK g) (gV g) A s s.heap ∧ vk_R RX1 70 "*([{" (gK g 0) s ∧ vk_R RX1 91 "*)]}" (gK g 1) s ∧ vk_R RX5 72 "*([{" (gK g 0) s ∧ vk_R RX5 93 "*)]}" (gK g 1) s ∧ va_Z "java/lang/String" "COMPACT_STRINGS" "Z" (.int 1) A s s.heap ∧ va_Zq "jdk/internal/util/Preconditions" "SIOOBE_FORMATTER" "Ljava/util/function/BiFunction;" A s s.heap ∧ (va_Nw (.methodLinkNest RX6 11 yX3_init RX6) s ∧ va_Nw (.methodLinkNest RX6 18 yX1_init RX6) s ∧ va_Nw (.methodLinkNest RX6 40 yX4_init RX6) s ∧ va_Nw (.methodLinkNest RX6 50 yX5_init RX6) s ∧ va_Nw (.methodLinkNest RX6 60 yX0_init RX6) s)
theorem StrK.to {g : Gl} {A B : Nat → Prop} {s U : State} {H : Heap} (h : StrK g A s) (hF : Fr A s.heap H) (hU : U.heap = H) (hW : s.WarmedH U.vm) (hBA : ∀ q, B q → A q) : StrK g B U := by
  obtain ⟨h1, h2, h3, h4, h5, h6, h7, n1, n2, n3, n4, n5⟩ := h
  have kq : ∀ a : Nat, a < s.heap.size → ¬ A a → H[a]? = s.heap[a]? := fun a hs ha => hF.2 a hs ha
  refine ⟨?_, h2.warm hW, h3.warm hW, h4.warm hW, h5.warm hW, ?_, ?_, n1.warmM hW, n2.warmM hW, n3.warmM hW, n4.warmM hW, n5.warmM hW⟩
  · rw [hU]; exact ((h1.kept kq).narrow hBA).moved hW.alike
  · rw [hU]; exact ((h6.kept kq).narrow hBA).moved hW.alike
  · rw [hU]; exact ((h7.kept kq).narrow hBA).moved hW.alike
theorem StrK.blind {g : Gl} {A : Nat → Prop} {U : State} (h : StrK g A U) (gg : JFrame) (mk : MethodId) (a : Array Value) : StrK g A (U.calling gg mk a) := by
  obtain ⟨h1, h2, h3, h4, h5, h6, h7, n1, n2, n3, n4, n5⟩ := h
  exact ⟨vk_S.moved (u := U) (U := U.calling gg mk a) (Vm.Alike.refl U.vm) h1, vk_R.same rfl h2, vk_R.same rfl h3, vk_R.same rfl h4, vk_R.same rfl h5, va_Z.moved (u := U) (U := U.calling gg mk a) (Vm.Alike.refl U.vm) h6, va_Zq.moved (u := U) (U := U.calling gg mk a) (Vm.Alike.refl U.vm) h7, n1.same rfl rfl, n2.same rfl rfl, n3.same rfl rfl, n4.same rfl rfl, n5.same rfl rfl⟩
abbrev Cxt : Type := Program × Env × Room × State × MethodId × Array Value × List Frame × Method × Code × (Nat → Prop) × Nat × (State → Prop)
def JC (g : Gl) (X : Cxt) (nc ns : Nat) (os : List Od) (pc : Nat) (lv : List (Nat × Value)) (st : List Value) : Prop := match X with
  | (p, e, R, s, m, args, below, meth, c, A, nL, Q) => ∀ (H : Heap) (locs : List Loc) (ls : Array Slot), hW g.2.1 g.2.2.1 os H → Ap A os → Fr A s.heap H → (∀ q ∈ locs, A q.base) → lv_has ls nL lv → nc ≤ R.cells → ns ≤ R.slots → W p g.1 e R s m args below meth c H locs nc ns Q (F0 m pc ls st)
abbrev J (g : Gl) (X : Cxt) : List Od → Nat → List (Nat × Value) → List Value → Prop := JC g X 0 0
def CxOk (g : Gl) (X : Cxt) (cc : ByteArray) (own : String) (Ts : List Cond) (nn fr lc : Nat) : Prop := match X with
  | (p, _, R, s, m, args, _, _, c, A, nL, _) => p.tables.exec = Jvm.exec ∧ c.code = cc ∧ c.maxLocals = nL ∧ s.vm.findClass own = some m.cls ∧ (∀ w ∈ Ts, w.before args s = true) ∧ va_K g.2.1 vwCl (tys3 g.2.2.1) s ∧ nL = nn ∧ R.frames = fr ∧ R.locals = lc ∧ StrK g A s
def PreW (g : Gl) (os : List Od) (av : List Value) : Array Value → State → Prop := fun v U => v = av.toArray ∧ hW g.2.1 g.2.2.1 os U.heap ∧ va_K g.2.1 vwCl (tys3 g.2.2.1) U ∧ Ap (fun _ => True) os ∧ StrK g (wA os) U
def PostW (g : Gl) (os os' : List Od) (rv : Option Value) : Array Value → State → Outcome → State → Prop := fun _ st oc t => oc = .returned rv ∧ hW g.2.1 g.2.2.1 os' t.heap ∧ Fr (wA os) st.heap t.heap
/-- A CONTRACT: from a world that holds os, at these arguments, the method comes back with rv and the world holds os' -/
def Ctr (g : Gl) (y : MethodName) (ws : List Cond) (fr lc : Nat) (os os' : List Od) (av : List Value) (rv : Option Value) : Prop :=
  Met g.1 y ws { frames := fr, cells := 0, slots := 0, locals := lc } (PreW g os av) (PostW g os os' rv) 0 0 (wA os)
def RetOkC (g : Gl) (X : Cxt) (nc ns : Nat) (os' : List Od) (rv : Option Value) (ret : Option FieldType) : Prop := match X with
  | (_, _, _, s, _, args, below, meth, _, A, _, Q) => ∃ (Qc : Array Value → State → Outcome → State → Prop) (free : Addr → Prop), Q = MQ below Qc args s nc ns free ∧ (∀ q, A q → free q) ∧ (∀ t : State, hW g.2.1 g.2.2.1 os' t.heap → Ap A os' → Fr A s.heap t.heap → Qc args s (.returned rv) t) ∧ meth.sig.returnType = ret ∧ meth.locks = false
abbrev RetOk (g : Gl) (X : Cxt) : List Od → Option Value → Option FieldType → Prop := RetOkC g X 0 0
theorem gi {α : Type} {c : Prop} {_ : Decidable c} {k : Option α} {r : α} (h : (if c then k else none) = some r) : c ∧ k = some r := by
  by_cases hc : c
  · rw [if_pos hc] at h; exact ⟨hc, h⟩
  · rw [if_neg hc] at h; cases h
def b1 {α β : Type} (x : Option α) (f : α → Option β) : Option β := match x with
  | none => none
  | some a => f a
def b2 {α β γ : Type} (x : Option (α × β)) (f : α → β → Option γ) : Option γ := match x with
  | none => none
  | some (a, b) => f a b
def b3 {α β γ δ : Type} (x : Option (α × β × γ)) (f : α → β → γ → Option δ) : Option δ := match x with
  | none => none
  | some (a, b, c) => f a b c
def b4 {α β γ δ ε : Type} (x : Option (α × β × γ × δ)) (f : α → β → γ → δ → Option ε) : Option ε := match x with
  | none => none
  | some (a, b, c, d) => f a b c d
theorem gb1 {α β : Type} {x : Option α} {f : α → Option β} {r : β} (h : b1 x f = some r) : ∃ a, x = some a ∧ f a = some r := by
  cases x with
  | none => cases h
  | some a => exact ⟨a, rfl, h⟩
theorem gb2 {α β γ : Type} {x : Option (α × β)} {f : α → β → Option γ} {r : γ} (h : b2 x f = some r) : ∃ a b, x = some (a, b) ∧ f a b = some r := by
  cases x with
  | none => cases h
  | some a => exact ⟨a.1, a.2, rfl, h⟩
theorem gb3 {α β γ δ : Type} {x : Option (α × β × γ)} {f : α → β → γ → Option δ} {r : δ} (h : b3 x f = some r) : ∃ a b c, x = some (a, b, c) ∧ f a b c = some r := by
  cases x with
  | none => cases h
  | some a => exact ⟨a.1, a.2.1, a.2.2, rfl, h⟩
theorem gb4 {α β γ δ ε : Type} {x : Option (α × β × γ × δ)} {f : α → β → γ → δ → Option ε} {r : ε} (h : b4 x f = some r) : ∃ a b c d, x = some (a, b, c, d) ∧ f a b c d = some r := by
  cases x with
  | none => cases h
  | some a => exact ⟨a.1, a.2.1, a.2.2.1, a.2.2.2, rfl, h⟩
abbrev inb (i : Int32) (n : Nat) : Prop := 0 ≤ i.toInt ∧ i.toInt < n
abbrev isb (x : Int32) : Prop := x = 0 ∨ x = 1
theorem nb_of {x : Int32} (h : isb x) : narrow .boolean (.int x) = .int x := by
  rcases h with rfl | rfl <;> rfl
theorem fb_of {x : Int32} (h : isb x) : fits .boolean (.int x) = true := by
  rcases h with rfl | rfl <;> rfl
def lT {α β : Type} (x : α) (f : α → Option β) : Option β := f x
theorem glT {α β : Type} {x : α} {f : α → Option β} {r : β} (h : lT x f = some r) : ∃ a, a = x ∧ f a = some r := ⟨x, rfl, h⟩
/-- what fill makes of a row -/
def fl (o : Ob) (k n : Nat) (v : Int32) : Nat → Int32 := fun j => if j < n then v else oA o k j
abbrev cpok (sp dp n : Int32) (n0 n1 : Nat) : Prop := ¬ sp < 0 ∧ ¬ dp < 0 ∧ ¬ n < 0 ∧ sp.toNatClampNeg + n.toNatClampNeg ≤ n0 ∧ dp.toNatClampNeg + n.toNatClampNeg ≤ n1
/-- how often a loop may turn: far above what any needs -/
def fu : Nat := 5000
section JR
variable {g : Gl} {X : Cxt} {cc : ByteArray} {own : String} {Ts : List Cond} {nn fr lc : Nat} {os : List Od} {pc nc ns : Nat} {lv : List (Nat × Value)} {st : List Value}
theorem j_iconst (C : CxOk g X cc own Ts nn fr lc) {n : Int} {v : Int32} (hd : decode cc pc = .ok (.iconst n, 1)) (hv : Int32.ofInt n = v) (k : JC g X nc ns os (pc + 1) lv (.int v :: st)) : JC g X nc ns os pc lv st := by
  obtain ⟨p, e, R, s, m, args, below, meth, c, A, nL, Q⟩ := X
  obtain ⟨hx, hb, hml, hown, hts, hK, hnn, hfr, hlc, hSK⟩ := C
  intro H locs ls hW hAp hF hL hl hnc hns
  exact lv_iconst hx hb hd hv (k H locs ls hW hAp hF hL hl hnc hns)
theorem j_bipush (C : CxOk g X cc own Ts nn fr lc) {n : Int} {v : Int32} (hd : decode cc pc = .ok (.bipush n, 2)) (hv : (Int8.ofInt n).toInt32 = v) (k : JC g X nc ns os (pc + 2) lv (.int v :: st)) : JC g X nc ns os pc lv st := by
  obtain ⟨p, e, R, s, m, args, below, meth, c, A, nL, Q⟩ := X
  obtain ⟨hx, hb, hml, hown, hts, hK, hnn, hfr, hlc, hSK⟩ := C
  intro H locs ls hW hAp hF hL hl hnc hns
  exact lv_bipush hx hb hd hv (k H locs ls hW hAp hF hL hl hnc hns)
theorem j_sipush (C : CxOk g X cc own Ts nn fr lc) {n : Int} {v : Int32} (hd : decode cc pc = .ok (.sipush n, 3)) (hv : (Int16.ofInt n).toInt32 = v) (k : JC g X nc ns os (pc + 3) lv (.int v :: st)) : JC g X nc ns os pc lv st := by
  obtain ⟨p, e, R, s, m, args, below, meth, c, A, nL, Q⟩ := X
  obtain ⟨hx, hb, hml, hown, hts, hK, hnn, hfr, hlc, hSK⟩ := C
  intro H locs ls hW hAp hF hL hl hnc hns
  exact lv_sipush hx hb hd hv (k H locs ls hW hAp hF hL hl hnc hns)
theorem j_lconst (C : CxOk g X cc own Ts nn fr lc) {n : Fin 2} {v : Int64} (hd : decode cc pc = .ok (.lconst n, 1)) (hv : Int64.ofNat (n : Nat) = v) (k : JC g X nc ns os (pc + 1) lv (.long v :: st)) : JC g X nc ns os pc lv st := by
  obtain ⟨p, e, R, s, m, args, below, meth, c, A, nL, Q⟩ := X
  obtain ⟨hx, hb, hml, hown, hts, hK, hnn, hfr, hlc, hSK⟩ := C
  intro H locs ls hW hAp hF hL hl hnc hns
  exact lv_lconst hx hb hd hv (k H locs ls hW hAp hF hL hl hnc hns)
theorem j_iload_n (C : CxOk g X cc own Ts nn fr lc) {kf : Fin 4} {i : Nat} {x : Int32} (q : Nat) (hd : decode cc pc = .ok (.iload_n kf, 1)) (hi : (kf : Nat) = i) (hq : lv[q]? = some (i, .int x)) (k : JC g X nc ns os (pc + 1) lv (.int x :: st)) : JC g X nc ns os pc lv st := by
  obtain ⟨p, e, R, s, m, args, below, meth, c, A, nL, Q⟩ := X
  obtain ⟨hx, hb, hml, hown, hts, hK, hnn, hfr, hlc, hSK⟩ := C
  intro H locs ls hW hAp hF hL hl hnc hns
  exact lv_iload_n hx hb hd hi (lv_at hl q hq) (k H locs ls hW hAp hF hL hl hnc hns)
theorem j_iload (C : CxOk g X cc own Ts nn fr lc) {i : Nat} {x : Int32} (q : Nat) (hd : decode cc pc = .ok (.iload i, 2)) (hq : lv[q]? = some (i, .int x)) (k : JC g X nc ns os (pc + 2) lv (.int x :: st)) : JC g X nc ns os pc lv st := by
  obtain ⟨p, e, R, s, m, args, below, meth, c, A, nL, Q⟩ := X
  obtain ⟨hx, hb, hml, hown, hts, hK, hnn, hfr, hlc, hSK⟩ := C
  intro H locs ls hW hAp hF hL hl hnc hns
  exact lv_iload hx hb hd (lv_at hl q hq) (k H locs ls hW hAp hF hL hl hnc hns)
theorem j_lload_n (C : CxOk g X cc own Ts nn fr lc) {kf : Fin 4} {i : Nat} {x : Int64} (q : Nat) (hd : decode cc pc = .ok (.lload_n kf, 1)) (hi : (kf : Nat) = i) (hq : lv[q]? = some (i, .long x)) (k : JC g X nc ns os (pc + 1) lv (.long x :: st)) : JC g X nc ns os pc lv st := by
  obtain ⟨p, e, R, s, m, args, below, meth, c, A, nL, Q⟩ := X
  obtain ⟨hx, hb, hml, hown, hts, hK, hnn, hfr, hlc, hSK⟩ := C
  intro H locs ls hW hAp hF hL hl hnc hns
  exact lv_lload_n hx hb hd hi (lv_at hl q hq) (k H locs ls hW hAp hF hL hl hnc hns)
theorem j_lload (C : CxOk g X cc own Ts nn fr lc) {i : Nat} {x : Int64} (q : Nat) (hd : decode cc pc = .ok (.lload i, 2)) (hq : lv[q]? = some (i, .long x)) (k : JC g X nc ns os (pc + 2) lv (.long x :: st)) : JC g X nc ns os pc lv st := by
  obtain ⟨p, e, R, s, m, args, below, meth, c, A, nL, Q⟩ := X
  obtain ⟨hx, hb, hml, hown, hts, hK, hnn, hfr, hlc, hSK⟩ := C
  intro H locs ls hW hAp hF hL hl hnc hns
  exact lv_lload hx hb hd (lv_at hl q hq) (k H locs ls hW hAp hF hL hl hnc hns)
theorem j_aload_n (C : CxOk g X cc own Ts nn fr lc) {kf : Fin 4} {i : Nat} {x : Nat} (q : Nat) (hd : decode cc pc = .ok (.aload_n kf, 1)) (hi : (kf : Nat) = i) (hq : lv[q]? = some (i, .ref x)) (k : JC g X nc ns os (pc + 1) lv (.ref x :: st)) : JC g X nc ns os pc lv st := by
  obtain ⟨p, e, R, s, m, args, below, meth, c, A, nL, Q⟩ := X
  obtain ⟨hx, hb, hml, hown, hts, hK, hnn, hfr, hlc, hSK⟩ := C
  intro H locs ls hW hAp hF hL hl hnc hns
  exact lv_aload_n hx hb hd hi (lv_at hl q hq) (k H locs ls hW hAp hF hL hl hnc hns)
theorem j_aload (C : CxOk g X cc own Ts nn fr lc) {i : Nat} {x : Nat} (q : Nat) (hd : decode cc pc = .ok (.aload i, 2)) (hq : lv[q]? = some (i, .ref x)) (k : JC g X nc ns os (pc + 2) lv (.ref x :: st)) : JC g X nc ns os pc lv st := by
  obtain ⟨p, e, R, s, m, args, below, meth, c, A, nL, Q⟩ := X
  obtain ⟨hx, hb, hml, hown, hts, hK, hnn, hfr, hlc, hSK⟩ := C
  intro H locs ls hW hAp hF hL hl hnc hns
  exact lv_aload hx hb hd (lv_at hl q hq) (k H locs ls hW hAp hF hL hl hnc hns)
theorem j_istore_n (C : CxOk g X cc own Ts nn fr lc) {kf : Fin 4} {i : Nat} {x x' : Int32} (lv' : List (Nat × Value)) (hd : decode cc pc = .ok (.istore_n kf, 1)) (hi : (kf : Nat) = i) (hn : i < nn) (hx' : x' = x) (hq : (i, Value.int x') :: lv.filter (fun q => !(q.1 == i) && !(q.1 + 1 == i && q.2.category == 2)) = lv') (k : JC g X nc ns os (pc + 1) lv' st) : JC g X nc ns os pc lv (.int x :: st) := by
  obtain ⟨p, e, R, s, m, args, below, meth, c, A, nL, Q⟩ := X
  obtain ⟨hx, hb, hml, hown, hts, hK, hnn, hfr, hlc, hSK⟩ := C
  intro H locs ls hW hAp hF hL hl hnc hns
  subst hnn; subst hx'
  exact lv_istore_n hx hb hd hi hl hn hq (fun ls' hl' => k H locs ls' hW hAp hF hL hl' hnc hns)
theorem j_istore (C : CxOk g X cc own Ts nn fr lc) {i : Nat} {x x' : Int32} (lv' : List (Nat × Value)) (hd : decode cc pc = .ok (.istore i, 2)) (hn : i < nn) (hx' : x' = x) (hq : (i, Value.int x') :: lv.filter (fun q => !(q.1 == i) && !(q.1 + 1 == i && q.2.category == 2)) = lv') (k : JC g X nc ns os (pc + 2) lv' st) : JC g X nc ns os pc lv (.int x :: st) := by
  obtain ⟨p, e, R, s, m, args, below, meth, c, A, nL, Q⟩ := X
  obtain ⟨hx, hb, hml, hown, hts, hK, hnn, hfr, hlc, hSK⟩ := C
  intro H locs ls hW hAp hF hL hl hnc hns
  subst hnn; subst hx'
  exact lv_istore hx hb hd hl hn hq (fun ls' hl' => k H locs ls' hW hAp hF hL hl' hnc hns)
theorem j_lstore_n (C : CxOk g X cc own Ts nn fr lc) {kf : Fin 4} {i : Nat} {x x' : Int64} (lv' : List (Nat × Value)) (hd : decode cc pc = .ok (.lstore_n kf, 1)) (hi : (kf : Nat) = i) (hn : i + 1 < nn) (hx' : x' = x) (hq : (i, Value.long x') :: lv.filter (fun q => !(q.1 == i) && (!(q.1 == i + 1) && !(q.1 + 1 == i && q.2.category == 2))) = lv') (k : JC g X nc ns os (pc + 1) lv' st) : JC g X nc ns os pc lv (.long x :: st) := by
  obtain ⟨p, e, R, s, m, args, below, meth, c, A, nL, Q⟩ := X
  obtain ⟨hx, hb, hml, hown, hts, hK, hnn, hfr, hlc, hSK⟩ := C
  intro H locs ls hW hAp hF hL hl hnc hns
  subst hnn; subst hx'
  exact lv_lstore_n hx hb hd hi hl hn hq (fun ls' hl' => k H locs ls' hW hAp hF hL hl' hnc hns)
theorem j_lstore (C : CxOk g X cc own Ts nn fr lc) {i : Nat} {x x' : Int64} (lv' : List (Nat × Value)) (hd : decode cc pc = .ok (.lstore i, 2)) (hn : i + 1 < nn) (hx' : x' = x) (hq : (i, Value.long x') :: lv.filter (fun q => !(q.1 == i) && (!(q.1 == i + 1) && !(q.1 + 1 == i && q.2.category == 2))) = lv') (k : JC g X nc ns os (pc + 2) lv' st) : JC g X nc ns os pc lv (.long x :: st) := by
  obtain ⟨p, e, R, s, m, args, below, meth, c, A, nL, Q⟩ := X
  obtain ⟨hx, hb, hml, hown, hts, hK, hnn, hfr, hlc, hSK⟩ := C
  intro H locs ls hW hAp hF hL hl hnc hns
  subst hnn; subst hx'
  exact lv_lstore hx hb hd hl hn hq (fun ls' hl' => k H locs ls' hW hAp hF hL hl' hnc hns)
theorem j_iinc (C : CxOk g X cc own Ts nn fr lc) {i : Nat} {n : Int} {x v : Int32} (q : Nat) (lv' : List (Nat × Value)) (hd : decode cc pc = .ok (.iinc i n, 3)) (hk : lv[q]? = some (i, .int x)) (hv : x + Int32.ofInt n = v) (hn : i < nn) (hq : (i, Value.int v) :: lv.filter (fun q => !(q.1 == i) && !(q.1 + 1 == i && q.2.category == 2)) = lv') (k : JC g X nc ns os (pc + 3) lv' st) : JC g X nc ns os pc lv st := by
  obtain ⟨p, e, R, s, m, args, below, meth, c, A, nL, Q⟩ := X
  obtain ⟨hx, hb, hml, hown, hts, hK, hnn, hfr, hlc, hSK⟩ := C
  intro H locs ls hW hAp hF hL hl hnc hns
  subst hnn
  exact lv_iinc hx hb hd hl hk hv hn hq (fun ls' hl' => k H locs ls' hW hAp hF hL hl' hnc hns)
theorem j_iadd (C : CxOk g X cc own Ts nn fr lc) {x y : Int32} (hd : decode cc pc = .ok (.iadd, 1)) (k : JC g X nc ns os (pc + 1) lv (.int (x + y) :: st)) : JC g X nc ns os pc lv (.int y :: .int x :: st) := by
  obtain ⟨p, e, R, s, m, args, below, meth, c, A, nL, Q⟩ := X
  obtain ⟨hx, hb, hml, hown, hts, hK, hnn, hfr, hlc, hSK⟩ := C
  intro H locs ls hW hAp hF hL hl hnc hns
  exact lv_iadd hx hb hd (k H locs ls hW hAp hF hL hl hnc hns)
theorem j_isub (C : CxOk g X cc own Ts nn fr lc) {x y : Int32} (hd : decode cc pc = .ok (.isub, 1)) (k : JC g X nc ns os (pc + 1) lv (.int (x - y) :: st)) : JC g X nc ns os pc lv (.int y :: .int x :: st) := by
  obtain ⟨p, e, R, s, m, args, below, meth, c, A, nL, Q⟩ := X
  obtain ⟨hx, hb, hml, hown, hts, hK, hnn, hfr, hlc, hSK⟩ := C
  intro H locs ls hW hAp hF hL hl hnc hns
  exact lv_isub hx hb hd (k H locs ls hW hAp hF hL hl hnc hns)
theorem j_imul (C : CxOk g X cc own Ts nn fr lc) {x y : Int32} (hd : decode cc pc = .ok (.imul, 1)) (k : JC g X nc ns os (pc + 1) lv (.int (x * y) :: st)) : JC g X nc ns os pc lv (.int y :: .int x :: st) := by
  obtain ⟨p, e, R, s, m, args, below, meth, c, A, nL, Q⟩ := X
  obtain ⟨hx, hb, hml, hown, hts, hK, hnn, hfr, hlc, hSK⟩ := C
  intro H locs ls hW hAp hF hL hl hnc hns
  exact lv_imul hx hb hd (k H locs ls hW hAp hF hL hl hnc hns)
theorem j_iand (C : CxOk g X cc own Ts nn fr lc) {x y : Int32} (hd : decode cc pc = .ok (.iand, 1)) (k : JC g X nc ns os (pc + 1) lv (.int (x &&& y) :: st)) : JC g X nc ns os pc lv (.int y :: .int x :: st) := by
  obtain ⟨p, e, R, s, m, args, below, meth, c, A, nL, Q⟩ := X
  obtain ⟨hx, hb, hml, hown, hts, hK, hnn, hfr, hlc, hSK⟩ := C
  intro H locs ls hW hAp hF hL hl hnc hns
  exact lv_iand hx hb hd (k H locs ls hW hAp hF hL hl hnc hns)
theorem j_ior (C : CxOk g X cc own Ts nn fr lc) {x y : Int32} (hd : decode cc pc = .ok (.ior, 1)) (k : JC g X nc ns os (pc + 1) lv (.int (x ||| y) :: st)) : JC g X nc ns os pc lv (.int y :: .int x :: st) := by
  obtain ⟨p, e, R, s, m, args, below, meth, c, A, nL, Q⟩ := X
  obtain ⟨hx, hb, hml, hown, hts, hK, hnn, hfr, hlc, hSK⟩ := C
  intro H locs ls hW hAp hF hL hl hnc hns
  exact lv_ior hx hb hd (k H locs ls hW hAp hF hL hl hnc hns)
theorem j_ixor (C : CxOk g X cc own Ts nn fr lc) {x y : Int32} (hd : decode cc pc = .ok (.ixor, 1)) (k : JC g X nc ns os (pc + 1) lv (.int (x ^^^ y) :: st)) : JC g X nc ns os pc lv (.int y :: .int x :: st) := by
  obtain ⟨p, e, R, s, m, args, below, meth, c, A, nL, Q⟩ := X
  obtain ⟨hx, hb, hml, hown, hts, hK, hnn, hfr, hlc, hSK⟩ := C
  intro H locs ls hW hAp hF hL hl hnc hns
  exact lv_ixor hx hb hd (k H locs ls hW hAp hF hL hl hnc hns)
theorem j_ishl (C : CxOk g X cc own Ts nn fr lc) {x y : Int32} (hd : decode cc pc = .ok (.ishl, 1)) (k : JC g X nc ns os (pc + 1) lv (.int (x <<< (y &&& 31)) :: st)) : JC g X nc ns os pc lv (.int y :: .int x :: st) := by
  obtain ⟨p, e, R, s, m, args, below, meth, c, A, nL, Q⟩ := X
  obtain ⟨hx, hb, hml, hown, hts, hK, hnn, hfr, hlc, hSK⟩ := C
  intro H locs ls hW hAp hF hL hl hnc hns
  exact lv_ishl hx hb hd (k H locs ls hW hAp hF hL hl hnc hns)
theorem j_ishr (C : CxOk g X cc own Ts nn fr lc) {x y : Int32} (hd : decode cc pc = .ok (.ishr, 1)) (k : JC g X nc ns os (pc + 1) lv (.int (x >>> (y &&& 31)) :: st)) : JC g X nc ns os pc lv (.int y :: .int x :: st) := by
  obtain ⟨p, e, R, s, m, args, below, meth, c, A, nL, Q⟩ := X
  obtain ⟨hx, hb, hml, hown, hts, hK, hnn, hfr, hlc, hSK⟩ := C
  intro H locs ls hW hAp hF hL hl hnc hns
  exact lv_ishr hx hb hd (k H locs ls hW hAp hF hL hl hnc hns)
theorem j_idiv (C : CxOk g X cc own Ts nn fr lc) {x y : Int32} (hne : ¬ y = 0) (hd : decode cc pc = .ok (.idiv, 1)) (k : JC g X nc ns os (pc + 1) lv (.int (x / y) :: st)) : JC g X nc ns os pc lv (.int y :: .int x :: st) := by
  obtain ⟨p, e, R, s, m, args, below, meth, c, A, nL, Q⟩ := X
  obtain ⟨hx, hb, hml, hown, hts, hK, hnn, hfr, hlc, hSK⟩ := C
  intro H locs ls hW hAp hF hL hl hnc hns
  exact lv_idiv hx hb hd hne (k H locs ls hW hAp hF hL hl hnc hns)
theorem j_irem (C : CxOk g X cc own Ts nn fr lc) {x y : Int32} (hne : ¬ y = 0) (hd : decode cc pc = .ok (.irem, 1)) (k : JC g X nc ns os (pc + 1) lv (.int (x - x / y * y) :: st)) : JC g X nc ns os pc lv (.int y :: .int x :: st) := by
  obtain ⟨p, e, R, s, m, args, below, meth, c, A, nL, Q⟩ := X
  obtain ⟨hx, hb, hml, hown, hts, hK, hnn, hfr, hlc, hSK⟩ := C
  intro H locs ls hW hAp hF hL hl hnc hns
  exact lv_irem hx hb hd hne (k H locs ls hW hAp hF hL hl hnc hns)
theorem j_ladd (C : CxOk g X cc own Ts nn fr lc) {x y : Int64} (hd : decode cc pc = .ok (.ladd, 1)) (k : JC g X nc ns os (pc + 1) lv (.long (x + y) :: st)) : JC g X nc ns os pc lv (.long y :: .long x :: st) := by
  obtain ⟨p, e, R, s, m, args, below, meth, c, A, nL, Q⟩ := X
  obtain ⟨hx, hb, hml, hown, hts, hK, hnn, hfr, hlc, hSK⟩ := C
  intro H locs ls hW hAp hF hL hl hnc hns
  exact lv_ladd hx hb hd (k H locs ls hW hAp hF hL hl hnc hns)
theorem j_lmul (C : CxOk g X cc own Ts nn fr lc) {x y : Int64} (hd : decode cc pc = .ok (.lmul, 1)) (k : JC g X nc ns os (pc + 1) lv (.long (x * y) :: st)) : JC g X nc ns os pc lv (.long y :: .long x :: st) := by
  obtain ⟨p, e, R, s, m, args, below, meth, c, A, nL, Q⟩ := X
  obtain ⟨hx, hb, hml, hown, hts, hK, hnn, hfr, hlc, hSK⟩ := C
  intro H locs ls hW hAp hF hL hl hnc hns
  exact lv_lmul hx hb hd (k H locs ls hW hAp hF hL hl hnc hns)
theorem j_land (C : CxOk g X cc own Ts nn fr lc) {x y : Int64} (hd : decode cc pc = .ok (.land, 1)) (k : JC g X nc ns os (pc + 1) lv (.long (x &&& y) :: st)) : JC g X nc ns os pc lv (.long y :: .long x :: st) := by
  obtain ⟨p, e, R, s, m, args, below, meth, c, A, nL, Q⟩ := X
  obtain ⟨hx, hb, hml, hown, hts, hK, hnn, hfr, hlc, hSK⟩ := C
  intro H locs ls hW hAp hF hL hl hnc hns
  exact lv_land hx hb hd (k H locs ls hW hAp hF hL hl hnc hns)
theorem j_ldiv (C : CxOk g X cc own Ts nn fr lc) {x y : Int64} (hne : ¬ y = 0) (hd : decode cc pc = .ok (.ldiv, 1)) (k : JC g X nc ns os (pc + 1) lv (.long (x / y) :: st)) : JC g X nc ns os pc lv (.long y :: .long x :: st) := by
  obtain ⟨p, e, R, s, m, args, below, meth, c, A, nL, Q⟩ := X
  obtain ⟨hx, hb, hml, hown, hts, hK, hnn, hfr, hlc, hSK⟩ := C
  intro H locs ls hW hAp hF hL hl hnc hns
  exact lv_ldiv hx hb hd hne (k H locs ls hW hAp hF hL hl hnc hns)
theorem j_lrem (C : CxOk g X cc own Ts nn fr lc) {x y : Int64} (hne : ¬ y = 0) (hd : decode cc pc = .ok (.lrem, 1)) (k : JC g X nc ns os (pc + 1) lv (.long (x - x / y * y) :: st)) : JC g X nc ns os pc lv (.long y :: .long x :: st) := by
  obtain ⟨p, e, R, s, m, args, below, meth, c, A, nL, Q⟩ := X
  obtain ⟨hx, hb, hml, hown, hts, hK, hnn, hfr, hlc, hSK⟩ := C
  intro H locs ls hW hAp hF hL hl hnc hns
  exact lv_lrem hx hb hd hne (k H locs ls hW hAp hF hL hl hnc hns)
theorem j_i2l (C : CxOk g X cc own Ts nn fr lc) {x : Int32} (hd : decode cc pc = .ok (.i2l, 1)) (k : JC g X nc ns os (pc + 1) lv (.long x.toInt64 :: st)) : JC g X nc ns os pc lv (.int x :: st) := by
  obtain ⟨p, e, R, s, m, args, below, meth, c, A, nL, Q⟩ := X
  obtain ⟨hx, hb, hml, hown, hts, hK, hnn, hfr, hlc, hSK⟩ := C
  intro H locs ls hW hAp hF hL hl hnc hns
  exact lv_i2l hx hb hd rfl (k H locs ls hW hAp hF hL hl hnc hns)
theorem j_l2i (C : CxOk g X cc own Ts nn fr lc) {x : Int64} (hd : decode cc pc = .ok (.l2i, 1)) (k : JC g X nc ns os (pc + 1) lv (.int x.toInt32 :: st)) : JC g X nc ns os pc lv (.long x :: st) := by
  obtain ⟨p, e, R, s, m, args, below, meth, c, A, nL, Q⟩ := X
  obtain ⟨hx, hb, hml, hown, hts, hK, hnn, hfr, hlc, hSK⟩ := C
  intro H locs ls hW hAp hF hL hl hnc hns
  exact lv_l2i hx hb hd rfl (k H locs ls hW hAp hF hL hl hnc hns)
theorem j_i2b (C : CxOk g X cc own Ts nn fr lc) {x : Int32} (hd : decode cc pc = .ok (.i2b, 1)) (k : JC g X nc ns os (pc + 1) lv (.int x.toInt8.toInt32 :: st)) : JC g X nc ns os pc lv (.int x :: st) := by
  obtain ⟨p, e, R, s, m, args, below, meth, c, A, nL, Q⟩ := X
  obtain ⟨hx, hb, hml, hown, hts, hK, hnn, hfr, hlc, hSK⟩ := C
  intro H locs ls hW hAp hF hL hl hnc hns
  exact lv_i2b hx hb hd rfl (k H locs ls hW hAp hF hL hl hnc hns)
theorem j_i2c (C : CxOk g X cc own Ts nn fr lc) {x : Int32} (hd : decode cc pc = .ok (.i2c, 1)) (k : JC g X nc ns os (pc + 1) lv (.int (x.toUInt32 % 65536).toInt32 :: st)) : JC g X nc ns os pc lv (.int x :: st) := by
  obtain ⟨p, e, R, s, m, args, below, meth, c, A, nL, Q⟩ := X
  obtain ⟨hx, hb, hml, hown, hts, hK, hnn, hfr, hlc, hSK⟩ := C
  intro H locs ls hW hAp hF hL hl hnc hns
  exact lv_i2c hx hb hd rfl (k H locs ls hW hAp hF hL hl hnc hns)
theorem j_dup (C : CxOk g X cc own Ts nn fr lc) {va : Value} (hva : va.category = 1) (hd : decode cc pc = .ok (.dup, 1)) (k : JC g X nc ns os (pc + 1) lv (va :: va :: st)) : JC g X nc ns os pc lv (va :: st) := by
  obtain ⟨p, e, R, s, m, args, below, meth, c, A, nL, Q⟩ := X
  obtain ⟨hx, hb, hml, hown, hts, hK, hnn, hfr, hlc, hSK⟩ := C
  intro H locs ls hW hAp hF hL hl hnc hns
  exact lv_dup hx hb hd hva (k H locs ls hW hAp hF hL hl hnc hns)
theorem j_pop (C : CxOk g X cc own Ts nn fr lc) {va : Value} (hva : va.category = 1) (hd : decode cc pc = .ok (.pop, 1)) (k : JC g X nc ns os (pc + 1) lv (st)) : JC g X nc ns os pc lv (va :: st) := by
  obtain ⟨p, e, R, s, m, args, below, meth, c, A, nL, Q⟩ := X
  obtain ⟨hx, hb, hml, hown, hts, hK, hnn, hfr, hlc, hSK⟩ := C
  intro H locs ls hW hAp hF hL hl hnc hns
  exact lv_pop hx hb hd hva (k H locs ls hW hAp hF hL hl hnc hns)
theorem j_dup2 (C : CxOk g X cc own Ts nn fr lc) {va vb : Value} (hva : va.category = 1) (hvb : vb.category = 1) (hd : decode cc pc = .ok (.dup2, 1)) (k : JC g X nc ns os (pc + 1) lv (va :: vb :: va :: vb :: st)) : JC g X nc ns os pc lv (va :: vb :: st) := by
  obtain ⟨p, e, R, s, m, args, below, meth, c, A, nL, Q⟩ := X
  obtain ⟨hx, hb, hml, hown, hts, hK, hnn, hfr, hlc, hSK⟩ := C
  intro H locs ls hW hAp hF hL hl hnc hns
  exact lv_dup2_11 hx hb hd hva hvb (k H locs ls hW hAp hF hL hl hnc hns)
theorem j_goto (C : CxOk g X cc own Ts nn fr lc) {off : Int} (tgt : Nat) (hd : decode cc pc = .ok (.goto off, 3)) (ht : (pc : Int) + off = (tgt : Int)) (k : JC g X nc ns os tgt lv st) : JC g X nc ns os pc lv st := by
  obtain ⟨p, e, R, s, m, args, below, meth, c, A, nL, Q⟩ := X
  obtain ⟨hx, hb, hml, hown, hts, hK, hnn, hfr, hlc, hSK⟩ := C
  intro H locs ls hW hAp hF hL hl hnc hns
  exact lv_goto hx hb hd ht (k H locs ls hW hAp hF hL hl hnc hns)
theorem j_if_eq (C : CxOk g X cc own Ts nn fr lc) {x : Int32} {off : Int} (tgt : Nat) (hd : decode cc pc = .ok (.ifCond .eq off, 3)) (ht : (pc : Int) + off = (tgt : Int)) (kt : x = 0 → JC g X nc ns os tgt lv st) (kf : ¬ x = 0 → JC g X nc ns os (pc + 3) lv st) : JC g X nc ns os pc lv (.int x :: st) := by
  obtain ⟨p, e, R, s, m, args, below, meth, c, A, nL, Q⟩ := X
  obtain ⟨hx, hb, hml, hown, hts, hK, hnn, hfr, hlc, hSK⟩ := C
  intro H locs ls hW hAp hF hL hl hnc hns
  exact lv_if_eq hx hb hd ht (fun hc => kt hc H locs ls hW hAp hF hL hl hnc hns) (fun hc => kf hc H locs ls hW hAp hF hL hl hnc hns)
theorem j_icmp_eq (C : CxOk g X cc own Ts nn fr lc) {x y : Int32} {off : Int} (tgt : Nat) (hd : decode cc pc = .ok (.if_icmp .eq off, 3)) (ht : (pc : Int) + off = (tgt : Int)) (kt : x = y → JC g X nc ns os tgt lv st) (kf : ¬ x = y → JC g X nc ns os (pc + 3) lv st) : JC g X nc ns os pc lv (.int y :: .int x :: st) := by
  obtain ⟨p, e, R, s, m, args, below, meth, c, A, nL, Q⟩ := X
  obtain ⟨hx, hb, hml, hown, hts, hK, hnn, hfr, hlc, hSK⟩ := C
  intro H locs ls hW hAp hF hL hl hnc hns
  exact lv_icmp_eq hx hb hd ht (fun hc => kt hc H locs ls hW hAp hF hL hl hnc hns) (fun hc => kf hc H locs ls hW hAp hF hL hl hnc hns)
theorem j_if_ne (C : CxOk g X cc own Ts nn fr lc) {x : Int32} {off : Int} (tgt : Nat) (hd : decode cc pc = .ok (.ifCond .ne off, 3)) (ht : (pc : Int) + off = (tgt : Int)) (kt : ¬ x = 0 → JC g X nc ns os tgt lv st) (kf : x = 0 → JC g X nc ns os (pc + 3) lv st) : JC g X nc ns os pc lv (.int x :: st) := by
  obtain ⟨p, e, R, s, m, args, below, meth, c, A, nL, Q⟩ := X
  obtain ⟨hx, hb, hml, hown, hts, hK, hnn, hfr, hlc, hSK⟩ := C
  intro H locs ls hW hAp hF hL hl hnc hns
  exact lv_if_ne hx hb hd ht (fun hc => kt hc H locs ls hW hAp hF hL hl hnc hns) (fun hc => kf hc H locs ls hW hAp hF hL hl hnc hns)
theorem j_icmp_ne (C : CxOk g X cc own Ts nn fr lc) {x y : Int32} {off : Int} (tgt : Nat) (hd : decode cc pc = .ok (.if_icmp .ne off, 3)) (ht : (pc : Int) + off = (tgt : Int)) (kt : ¬ x = y → JC g X nc ns os tgt lv st) (kf : x = y → JC g X nc ns os (pc + 3) lv st) : JC g X nc ns os pc lv (.int y :: .int x :: st) := by
  obtain ⟨p, e, R, s, m, args, below, meth, c, A, nL, Q⟩ := X
  obtain ⟨hx, hb, hml, hown, hts, hK, hnn, hfr, hlc, hSK⟩ := C
  intro H locs ls hW hAp hF hL hl hnc hns
  exact lv_icmp_ne hx hb hd ht (fun hc => kt hc H locs ls hW hAp hF hL hl hnc hns) (fun hc => kf hc H locs ls hW hAp hF hL hl hnc hns)
theorem j_if_lt (C : CxOk g X cc own Ts nn fr lc) {x : Int32} {off : Int} (tgt : Nat) (hd : decode cc pc = .ok (.ifCond .lt off, 3)) (ht : (pc : Int) + off = (tgt : Int)) (kt : x < 0 → JC g X nc ns os tgt lv st) (kf : ¬ x < 0 → JC g X nc ns os (pc + 3) lv st) : JC g X nc ns os pc lv (.int x :: st) := by
  obtain ⟨p, e, R, s, m, args, below, meth, c, A, nL, Q⟩ := X
  obtain ⟨hx, hb, hml, hown, hts, hK, hnn, hfr, hlc, hSK⟩ := C
  intro H locs ls hW hAp hF hL hl hnc hns
  exact lv_if_lt hx hb hd ht (fun hc => kt hc H locs ls hW hAp hF hL hl hnc hns) (fun hc => kf hc H locs ls hW hAp hF hL hl hnc hns)
theorem j_icmp_lt (C : CxOk g X cc own Ts nn fr lc) {x y : Int32} {off : Int} (tgt : Nat) (hd : decode cc pc = .ok (.if_icmp .lt off, 3)) (ht : (pc : Int) + off = (tgt : Int)) (kt : x < y → JC g X nc ns os tgt lv st) (kf : ¬ x < y → JC g X nc ns os (pc + 3) lv st) : JC g X nc ns os pc lv (.int y :: .int x :: st) := by
  obtain ⟨p, e, R, s, m, args, below, meth, c, A, nL, Q⟩ := X
  obtain ⟨hx, hb, hml, hown, hts, hK, hnn, hfr, hlc, hSK⟩ := C
  intro H locs ls hW hAp hF hL hl hnc hns
  exact lv_icmp_lt hx hb hd ht (fun hc => kt hc H locs ls hW hAp hF hL hl hnc hns) (fun hc => kf hc H locs ls hW hAp hF hL hl hnc hns)
theorem j_if_ge (C : CxOk g X cc own Ts nn fr lc) {x : Int32} {off : Int} (tgt : Nat) (hd : decode cc pc = .ok (.ifCond .ge off, 3)) (ht : (pc : Int) + off = (tgt : Int)) (kt : 0 ≤ x → JC g X nc ns os tgt lv st) (kf : ¬ 0 ≤ x → JC g X nc ns os (pc + 3) lv st) : JC g X nc ns os pc lv (.int x :: st) := by
  obtain ⟨p, e, R, s, m, args, below, meth, c, A, nL, Q⟩ := X
  obtain ⟨hx, hb, hml, hown, hts, hK, hnn, hfr, hlc, hSK⟩ := C
  intro H locs ls hW hAp hF hL hl hnc hns
  exact lv_if_ge hx hb hd ht (fun hc => kt hc H locs ls hW hAp hF hL hl hnc hns) (fun hc => kf hc H locs ls hW hAp hF hL hl hnc hns)
theorem j_icmp_ge (C : CxOk g X cc own Ts nn fr lc) {x y : Int32} {off : Int} (tgt : Nat) (hd : decode cc pc = .ok (.if_icmp .ge off, 3)) (ht : (pc : Int) + off = (tgt : Int)) (kt : y ≤ x → JC g X nc ns os tgt lv st) (kf : ¬ y ≤ x → JC g X nc ns os (pc + 3) lv st) : JC g X nc ns os pc lv (.int y :: .int x :: st) := by
  obtain ⟨p, e, R, s, m, args, below, meth, c, A, nL, Q⟩ := X
  obtain ⟨hx, hb, hml, hown, hts, hK, hnn, hfr, hlc, hSK⟩ := C
  intro H locs ls hW hAp hF hL hl hnc hns
  exact lv_icmp_ge hx hb hd ht (fun hc => kt hc H locs ls hW hAp hF hL hl hnc hns) (fun hc => kf hc H locs ls hW hAp hF hL hl hnc hns)
theorem j_if_gt (C : CxOk g X cc own Ts nn fr lc) {x : Int32} {off : Int} (tgt : Nat) (hd : decode cc pc = .ok (.ifCond .gt off, 3)) (ht : (pc : Int) + off = (tgt : Int)) (kt : 0 < x → JC g X nc ns os tgt lv st) (kf : ¬ 0 < x → JC g X nc ns os (pc + 3) lv st) : JC g X nc ns os pc lv (.int x :: st) := by
  obtain ⟨p, e, R, s, m, args, below, meth, c, A, nL, Q⟩ := X
  obtain ⟨hx, hb, hml, hown, hts, hK, hnn, hfr, hlc, hSK⟩ := C
  intro H locs ls hW hAp hF hL hl hnc hns
  exact lv_if_gt hx hb hd ht (fun hc => kt hc H locs ls hW hAp hF hL hl hnc hns) (fun hc => kf hc H locs ls hW hAp hF hL hl hnc hns)
theorem j_icmp_gt (C : CxOk g X cc own Ts nn fr lc) {x y : Int32} {off : Int} (tgt : Nat) (hd : decode cc pc = .ok (.if_icmp .gt off, 3)) (ht : (pc : Int) + off = (tgt : Int)) (kt : y < x → JC g X nc ns os tgt lv st) (kf : ¬ y < x → JC g X nc ns os (pc + 3) lv st) : JC g X nc ns os pc lv (.int y :: .int x :: st) := by
  obtain ⟨p, e, R, s, m, args, below, meth, c, A, nL, Q⟩ := X
  obtain ⟨hx, hb, hml, hown, hts, hK, hnn, hfr, hlc, hSK⟩ := C
  intro H locs ls hW hAp hF hL hl hnc hns
  exact lv_icmp_gt hx hb hd ht (fun hc => kt hc H locs ls hW hAp hF hL hl hnc hns) (fun hc => kf hc H locs ls hW hAp hF hL hl hnc hns)
theorem j_if_le (C : CxOk g X cc own Ts nn fr lc) {x : Int32} {off : Int} (tgt : Nat) (hd : decode cc pc = .ok (.ifCond .le off, 3)) (ht : (pc : Int) + off = (tgt : Int)) (kt : x ≤ 0 → JC g X nc ns os tgt lv st) (kf : ¬ x ≤ 0 → JC g X nc ns os (pc + 3) lv st) : JC g X nc ns os pc lv (.int x :: st) := by
  obtain ⟨p, e, R, s, m, args, below, meth, c, A, nL, Q⟩ := X
  obtain ⟨hx, hb, hml, hown, hts, hK, hnn, hfr, hlc, hSK⟩ := C
  intro H locs ls hW hAp hF hL hl hnc hns
  exact lv_if_le hx hb hd ht (fun hc => kt hc H locs ls hW hAp hF hL hl hnc hns) (fun hc => kf hc H locs ls hW hAp hF hL hl hnc hns)
theorem j_icmp_le (C : CxOk g X cc own Ts nn fr lc) {x y : Int32} {off : Int} (tgt : Nat) (hd : decode cc pc = .ok (.if_icmp .le off, 3)) (ht : (pc : Int) + off = (tgt : Int)) (kt : x ≤ y → JC g X nc ns os tgt lv st) (kf : ¬ x ≤ y → JC g X nc ns os (pc + 3) lv st) : JC g X nc ns os pc lv (.int y :: .int x :: st) := by
  obtain ⟨p, e, R, s, m, args, below, meth, c, A, nL, Q⟩ := X
  obtain ⟨hx, hb, hml, hown, hts, hK, hnn, hfr, hlc, hSK⟩ := C
  intro H locs ls hW hAp hF hL hl hnc hns
  exact lv_icmp_le hx hb hd ht (fun hc => kt hc H locs ls hW hAp hF hL hl hnc hns) (fun hc => kf hc H locs ls hW hAp hF hL hl hnc hns)
theorem j_tableIn (C : CxOk g X cc own Ts nn fr lc) {dflt lo hi : Int} {offs : Array Int} {len : Nat} {x : Int32} {off : Int} (tgt : Nat) (hd : decode cc pc = .ok (.tableswitch dflt lo hi offs, len)) (h1 : ¬ x.toInt < lo) (h2 : ¬ hi < x.toInt) (ho : offs[(x.toInt - lo).toNat]? = some off) (ht : (pc : Int) + off = (tgt : Int)) (k : JC g X nc ns os tgt lv st) : JC g X nc ns os pc lv (.int x :: st) := by
  obtain ⟨p, e, R, s, m, args, below, meth, c, A, nL, Q⟩ := X
  obtain ⟨hx, hb, hml, hown, hts, hK, hnn, hfr, hlc, hSK⟩ := C
  intro H locs ls hW hAp hF hL hl hnc hns
  exact lv_tableIn hx hb hd h1 h2 ho ht (k H locs ls hW hAp hF hL hl hnc hns)
theorem j_tableOut (C : CxOk g X cc own Ts nn fr lc) {dflt lo hi : Int} {offs : Array Int} {len : Nat} {x : Int32} (tgt : Nat) (hd : decode cc pc = .ok (.tableswitch dflt lo hi offs, len)) (h : x.toInt < lo ∨ hi < x.toInt) (ht : (pc : Int) + dflt = (tgt : Int)) (k : JC g X nc ns os tgt lv st) : JC g X nc ns os pc lv (.int x :: st) := by
  obtain ⟨p, e, R, s, m, args, below, meth, c, A, nL, Q⟩ := X
  obtain ⟨hx, hb, hml, hown, hts, hK, hnn, hfr, hlc, hSK⟩ := C
  intro H locs ls hW hAp hF hL hl hnc hns
  exact lv_tableOut hx hb hd h ht (k H locs ls hW hAp hF hL hl hnc hns)
theorem ne_i {x k : Int32} (h : ¬ x = k) {a : Int} (hk : k.toInt = a) : x.toInt ≠ a := fun e => h (Int32.toInt_inj.mp (e.trans hk.symm))
theorem j_sub (lv' : List (Nat × Value)) (ks : List Nat) (hq : lv_pick lv ks = lv') (k : JC g X nc ns os pc lv' st) : JC g X nc ns os pc lv st := by
  obtain ⟨p, e, R, s, m, args, below, meth, c, A, nL, Q⟩ := X
  intro H locs ls hW hAp hF hL hl hnc hns
  exact k H locs ls hW hAp hF hL (lv_sub hl ks hq) hnc hns
theorem j_ldc (C : CxOk g X cc own Ts nn fr lc) {index : Nat} {v : Int32} (hm : Cond.constant own index v ∈ Ts) (hd : decode cc pc = .ok (.ldc index, 2)) (k : JC g X nc ns os (pc + 2) lv (.int v :: st)) : JC g X nc ns os pc lv st := by
  obtain ⟨p, e, R, s, m, args, below, meth, c, A, nL, Q⟩ := X
  obtain ⟨hx, hb, hml, hown, hts, hK, hnn, hfr, hlc, hSK⟩ := C
  intro H locs ls hW hAp hF hL hl hnc hns
  exact lv_ldc hx hb hown (hts _ hm) hd (k H locs ls hW hAp hF hL hl hnc hns)
theorem j_ldcw (C : CxOk g X cc own Ts nn fr lc) {index : Nat} {v : Int32} (hm : Cond.constant own index v ∈ Ts) (hd : decode cc pc = .ok (.ldc_w index, 3)) (k : JC g X nc ns os (pc + 3) lv (.int v :: st)) : JC g X nc ns os pc lv st := by
  obtain ⟨p, e, R, s, m, args, below, meth, c, A, nL, Q⟩ := X
  obtain ⟨hx, hb, hml, hown, hts, hK, hnn, hfr, hlc, hSK⟩ := C
  intro H locs ls hW hAp hF hL hl hnc hns
  exact lv_ldcw hx hb hown (hts _ hm) hd (k H locs ls hW hAp hF hL hl hnc hns)
theorem j_ldc2 (C : CxOk g X cc own Ts nn fr lc) {index : Nat} {v : Int64} (hm : Cond.constantLong own index v ∈ Ts) (hd : decode cc pc = .ok (.ldc2_w index, 3)) (k : JC g X nc ns os (pc + 3) lv (.long v :: st)) : JC g X nc ns os pc lv st := by
  obtain ⟨p, e, R, s, m, args, below, meth, c, A, nL, Q⟩ := X
  obtain ⟨hx, hb, hml, hown, hts, hK, hnn, hfr, hlc, hSK⟩ := C
  intro H locs ls hW hAp hF hL hl hnc hns
  exact lv_ldc2 hx hb hown (hts _ hm) hd (k H locs ls hW hAp hF hL hl hnc hns)
theorem vp_V_range (f : Nat → Value) (N k : Nat) (hk : k < N) : vp_V ((List.range N).map f) k = f k := by
  unfold vp_V
  rw [List.getD_eq_getElem?_getD, List.getElem?_map, List.getElem?_range hk]
  rfl
theorem obj_P {D : va_G} {d : Od} {H : Heap} {r : vw_C} (h1 : vwCl[d.1.1]? = some r) (h2 : t_OB (d.2.1 0) (D.1 d.1.1) r.2.2 (D.2 d.1.1) H (fvs d.1 d.2.1 d.2.2)) : va_P D vwCl [(d.2.1 0, .inr (d.1.1, (List.range r.2.2).map (fvs d.1 d.2.1 d.2.2)))] H := by
  intro k q hq
  cases k with
  | zero =>
    cases hq
    exact ⟨r, h1, h2.to (fun k hk => (vp_V_range _ _ k hk).symm)⟩
  | succ k => simp at hq
theorem j_get (C : CxOk g X cc own Ts nn fr lc) {Cn : String} {T : u_T} {N index : Nat} {sh : Sh} {h : Nat → Nat} {o : Ob} (j k : Nat) {t : Nat × Nat} {v : Value} (hj : os[j]? = some (sh, h, o)) (hc : vwCl[sh.1]? = some (Cn, T, N)) (hk : k < N) (ht : sh.2[k]? = some t) (hv : fv h o k t = v) (hin : ∀ w ∈ u_ws Cn T N, w ∈ Ts) (hm : Cond.fieldLink own index (T k).1 (T k).2.1 (T k).2.2.1 ∈ Ts) (hd : decode cc pc = .ok (.getfield index, 3)) (kk : JC g X nc ns os (pc + 3) lv (v :: st)) : JC g X nc ns os pc lv (.ref (h 0) :: st) := by
  obtain ⟨p, e, R, s, m, args, below, meth, c, A, nL, Q⟩ := X
  obtain ⟨hx, hb, hml, hown, hts, hK, hnn, hfr, hlc, hSK⟩ := C
  intro H locs ls hW hAp hF hL hl hnc hns
  obtain ⟨⟨r, h1, h2⟩, -⟩ := hW j _ hj
  have hr : r = (Cn, T, N) := Option.some.inj (h1.symm.trans hc)
  subst hr
  have hP := obj_P (d := (sh, h, o)) h1 h2
  refine va_get (D := g.2.1) (ci := sh.1) (v := v) hx hb hts hin hown hK hP 0 rfl hc k hk (hts _ hm) (fun _ h9 => h9) ?_ hd (kk H locs ls hW hAp hF hL hl hnc hns)
  show ((List.range N).map (fvs sh h o))[k]? = some v
  rw [List.getElem?_map, List.getElem?_range hk]
  show some (fvs sh h o k) = some v
  unfold fvs
  rw [ht]
  exact congrArg some hv
theorem fvs_sV {sh : Sh} {h : Nat → Nat} {o : Ob} {k : Nat} {x : Int32} {n : Nat} (ht : sh.2[k]? = some (0, n)) (j : Nat) : updV (fvs sh h o) k (.int x) j = fvs sh h (sV o k x) j := by
  unfold updV fvs
  by_cases e : j = k
  · subst e
    rw [ht]
    simp [fv, oV, sV, upd]
  · rw [if_neg e]
    cases sh.2[j]? with
    | none => rfl
    | some t =>
      show fv h o j t = fv h (sV o k x) j t
      unfold fv
      rw [show oV (sV o k x) j = oV o j from by simp [oV, sV, upd, e]]
      rfl
theorem fvs_sL {sh : Sh} {h : Nat → Nat} {o : Ob} {k : Nat} {x : Int64} {n : Nat} (ht : sh.2[k]? = some (1, n)) (j : Nat) : updV (fvs sh h o) k (.long x) j = fvs sh h (sL o k x) j := by
  unfold updV fvs
  by_cases e : j = k
  · subst e
    rw [ht]
    simp [fv, oL, sL, vp_updL]
  · rw [if_neg e]
    cases sh.2[j]? with
    | none => rfl
    | some t =>
      show fv h o j t = fv h (sL o k x) j t
      unfold fv
      rw [show oL (sL o k x) j = oL o j from by simp [oL, sL, vp_updL, e]]
      rfl
theorem j_putV (C : CxOk g X cc own Ts nn fr lc) {Cn : String} {T : u_T} {N index : Nat} {sh : Sh} {h : Nat → Nat} {o : Ob} {ty0 : Nat → FieldType} (hty : ∀ k, k < N → parseFieldDescriptor (T k).2.2.1 = some (ty0 k)) (hnm : ∀ a, a < N → ∀ b, b < N → a ≠ b → (T a).2.1 ≠ (T b).2.1) (j k : Nat) {n : Nat} {ty : FieldType} {x : Int32} (hj : os[j]? = some (sh, h, o)) (hc : vwCl[sh.1]? = some (Cn, T, N)) (hk : k < N) (ht : sh.2[k]? = some (0, n)) (hin : ∀ w ∈ u_ws Cn T N, w ∈ Ts) (hm : Cond.fieldLink own index (T k).1 (T k).2.1 (T k).2.2.1 ∈ Ts) (hfin : (T k).2.2.2 = false) (hpd : parseFieldDescriptor (T k).2.2.1 = some ty) (hna : narrow ty (.int x) = .int x) (hfit : fits ty (.int x) = true) (os' : List Od) (hos : os.set j (sh, h, sV o k x) = os') (hd : decode cc pc = .ok (.putfield index, 3)) (kk : JC g X nc ns os' (pc + 3) lv st) : JC g X nc ns os pc lv (.int x :: .ref (h 0) :: st) := by
  obtain ⟨p, e, R, s, m, args, below, meth, c, A, nL, Q⟩ := X
  obtain ⟨hx, hb, hml, hown, hts, hK, hnn, hfr, hlc, hSK⟩ := C
  intro H locs ls hW hAp hF hL hl hnc hns
  subst hos
  have hap := va_apart (own := own) hts hin ty0 hty hnm hK hc
  obtain ⟨⟨r, h1, cell, q1, q2, q3, q4⟩, har⟩ := hW j _ hj
  have hr : r = (Cn, T, N) := Option.some.inj (h1.symm.trans hc)
  subst hr
  obtain ⟨hS, hfc, kC, hkC, hkind⟩ := hK.1 sh.1 _ hc
  obtain ⟨cf, kf, fi, f, hi, hsl⟩ := hS k hk
  have hlay := hts _ (hin _ (u_in_lay hk))
  unfold u_lay at hlay
  rw [if_neg (by rw [hfin]; decide)] at hlay
  have hst := (u_facts hfc hkC (u_lays hts hin hk) hi).1
  have h6 := u_store hfc hkC hkind hlay hi hpd hna hfit
  refine W.putK hx hb (f := f) ⟨hown, hts _ hm, ⟨_, _, _, hi⟩, hst⟩ (by rw [q2]; exact h6) q1 q3 (by rw [hsl]; exact k2_hasslot (q4 k hk)) rfl rfl hd fun H' e1 e2 e3 => ?_
  rw [hsl] at e1 ⊢
  have hAo : A (h 0) := hAp.2 j (sh, h, o) 0 hj rfl
  refine kk H' _ ls (hW.set1 hAp hj (a := 0) rfl e3 ⟨⟨_, hc, t_OB.to (V := updV (fvs sh h o) k (.int x)) ⟨_, e1, q2, q3, t_set q4 hap hk (.int x)⟩ (fun j _ => fvs_sV ht j)⟩, fun k2 t2 hk2 ht2 => ?_⟩) (hAp.set1 hj) (hF.put e2 e3 hAo) (fun q hq => ?_) hl hnc hns
  · show H'[h (k2 + 1)]? = _
    rw [e3 (h (k2 + 1)) (fun e9 => by have := (hAp.1 j j (sh, h, o) (sh, h, o) (k2 + 1) 0 hj hj (own_arr hk2 ht2) rfl e9).2; omega)]
    exact har k2 t2 hk2 ht2
  · rcases List.mem_append.mp hq with h9 | h9
    · exact hL q h9
    · rw [List.mem_singleton.mp h9]; exact hAo
theorem j_putL (C : CxOk g X cc own Ts nn fr lc) {Cn : String} {T : u_T} {N index : Nat} {sh : Sh} {h : Nat → Nat} {o : Ob} {ty0 : Nat → FieldType} (hty : ∀ k, k < N → parseFieldDescriptor (T k).2.2.1 = some (ty0 k)) (hnm : ∀ a, a < N → ∀ b, b < N → a ≠ b → (T a).2.1 ≠ (T b).2.1) (j k : Nat) {n : Nat} {ty : FieldType} {x : Int64} (hj : os[j]? = some (sh, h, o)) (hc : vwCl[sh.1]? = some (Cn, T, N)) (hk : k < N) (ht : sh.2[k]? = some (1, n)) (hin : ∀ w ∈ u_ws Cn T N, w ∈ Ts) (hm : Cond.fieldLink own index (T k).1 (T k).2.1 (T k).2.2.1 ∈ Ts) (hfin : (T k).2.2.2 = false) (hpd : parseFieldDescriptor (T k).2.2.1 = some ty) (hna : narrow ty (.long x) = .long x) (hfit : fits ty (.long x) = true) (os' : List Od) (hos : os.set j (sh, h, sL o k x) = os') (hd : decode cc pc = .ok (.putfield index, 3)) (kk : JC g X nc ns os' (pc + 3) lv st) : JC g X nc ns os pc lv (.long x :: .ref (h 0) :: st) := by
  obtain ⟨p, e, R, s, m, args, below, meth, c, A, nL, Q⟩ := X
  obtain ⟨hx, hb, hml, hown, hts, hK, hnn, hfr, hlc, hSK⟩ := C
  intro H locs ls hW hAp hF hL hl hnc hns
  subst hos
  have hap := va_apart (own := own) hts hin ty0 hty hnm hK hc
  obtain ⟨⟨r, h1, cell, q1, q2, q3, q4⟩, har⟩ := hW j _ hj
  have hr : r = (Cn, T, N) := Option.some.inj (h1.symm.trans hc)
  subst hr
  obtain ⟨hS, hfc, kC, hkC, hkind⟩ := hK.1 sh.1 _ hc
  obtain ⟨cf, kf, fi, f, hi, hsl⟩ := hS k hk
  have hlay := hts _ (hin _ (u_in_lay hk))
  unfold u_lay at hlay
  rw [if_neg (by rw [hfin]; decide)] at hlay
  have hst := (u_facts hfc hkC (u_lays hts hin hk) hi).1
  have h6 := u_store hfc hkC hkind hlay hi hpd hna hfit
  refine W.putK hx hb (f := f) ⟨hown, hts _ hm, ⟨_, _, _, hi⟩, hst⟩ (by rw [q2]; exact h6) q1 q3 (by rw [hsl]; exact k2_hasslot (q4 k hk)) rfl rfl hd fun H' e1 e2 e3 => ?_
  rw [hsl] at e1 ⊢
  have hAo : A (h 0) := hAp.2 j (sh, h, o) 0 hj rfl
  refine kk H' _ ls (hW.set1 hAp hj (a := 0) rfl e3 ⟨⟨_, hc, t_OB.to (V := updV (fvs sh h o) k (.long x)) ⟨_, e1, q2, q3, t_set q4 hap hk (.long x)⟩ (fun j _ => fvs_sL ht j)⟩, fun k2 t2 hk2 ht2 => ?_⟩) (hAp.set1 hj) (hF.put e2 e3 hAo) (fun q hq => ?_) hl hnc hns
  · show H'[h (k2 + 1)]? = _
    rw [e3 (h (k2 + 1)) (fun e9 => by have := (hAp.1 j j (sh, h, o) (sh, h, o) (k2 + 1) 0 hj hj (own_arr hk2 ht2) rfl e9).2; omega)]
    exact har k2 t2 hk2 ht2
  · rcases List.mem_append.mp hq with h9 | h9
    · exact hL q h9
    · rw [List.mem_singleton.mp h9]; exact hAo
theorem arr_P {D : va_G} {a : Nat} {cA : ClassId} {n : Nat} {f : Nat → Int32} {H : Heap} (h : H[a]? = some (vp_cell cA (n, .inl f))) : va_P D vwCl [(a, .inl (cA, n, .inl f))] H := by
  intro k q hq
  cases k with
  | zero => cases hq; exact h
  | succ k => simp at hq
theorem inb_in {i : Int32} {n : Nat} (h : inb i n) : vp_in i n := vp_in_iff.mpr h
theorem fvs_sR {sh : Sh} {h : Nat → Nat} {o : Ob} {k : Nat} {f : Nat → Int32} (j : Nat) : fvs sh h o j = fvs sh h (sR o k f) j := by
  unfold fvs
  cases sh.2[j]? with
  | none => rfl
  | some t => rfl
/-- an object's row has changed -/
theorem hOb_row {D : va_G} {cs : Cs} {sh : Sh} {h : Nat → Nat} {o : Ob} {A : Nat → Prop} {os : List Od} {j k : Nat} {t : Nat × Nat} {f : Nat → Int32} {H H1 : Heap} (hw : hW D cs os H) (hA : Ap A os) (hj : os[j]? = some (sh, h, o)) (hk : sh.2[k]? = some t) (ht : isar t.1 = true) (oq : ∀ q : Nat, q ≠ h (k + 1) → H1[q]? = H[q]?) (hn : H1[h (k + 1)]? = some (vp_cell (ca cs t.1) (t.2, .inl f))) : hOb D cs (sh, h, sR o k f) H1 := by
  obtain ⟨⟨r, h1, h2⟩, h3⟩ := hw j _ hj
  refine ⟨⟨r, h1, (h2.kept (oq _ (fun e => ?_))).to (fun q _ => fvs_sR q)⟩, fun k2 t2 hk2 ht2 => ?_⟩
  · have := (hA.1 j j (sh, h, o) (sh, h, o) 0 (k + 1) hj hj rfl (own_arr hk ht) e).2
    omega
  · by_cases e : k2 = k
    · subst e
      rw [hk] at hk2
      cases hk2
      show H1[h (k2 + 1)]? = some (vp_cell (ca cs t.1) (t.2, .inl (oA (sR o k2 f) k2)))
      rw [show oA (sR o k2 f) k2 = f from by simp [oA, sR]]
      exact hn
    · show H1[h (k2 + 1)]? = some (vp_cell (ca cs t2.1) (t2.2, .inl (oA (sR o k f) k2)))
      rw [show oA (sR o k f) k2 = oA o k2 from by simp [oA, sR, e], oq _ (fun e9 => ?_)]
      · exact h3 k2 t2 hk2 ht2
      · have := (hA.1 j j (sh, h, o) (sh, h, o) (k2 + 1) (k + 1) hj hj (own_arr hk2 ht2) (own_arr hk ht) e9).2
        omega
theorem j_iald (C : CxOk g X cc own Ts nn fr lc) {sh : Sh} {h : Nat → Nat} {o : Ob} (j k : Nat) {n : Nat} {i : Int32} (hj : os[j]? = some (sh, h, o)) (ht : sh.2[k]? = some (2, n)) (hin : inb i n) (hd : decode cc pc = .ok (.iaload, 1)) (kk : JC g X nc ns os (pc + 1) lv (.int (oA o k i.toNatClampNeg) :: st)) : JC g X nc ns os pc lv (.int i :: .ref (h (k + 1)) :: st) := by
  obtain ⟨p, e, R, s, m, args, below, meth, c, A, nL, Q⟩ := X
  obtain ⟨hx, hb, hml, hown, hts, hK, hnn, hfr, hlc, hSK⟩ := C
  intro H locs ls hW hAp hF hL hl hnc hns
  exact va_iald (D := g.2.1) hx hb hK (arr_P ((hW j _ hj).2 k _ ht rfl)) 0 0 rfl rfl (inb_in hin) hd (kk H locs ls hW hAp hF hL hl hnc hns)
theorem j_bald (C : CxOk g X cc own Ts nn fr lc) {sh : Sh} {h : Nat → Nat} {o : Ob} (j k : Nat) {n : Nat} {i : Int32} (hj : os[j]? = some (sh, h, o)) (ht : sh.2[k]? = some (3, n)) (hin : inb i n) (hd : decode cc pc = .ok (.baload, 1)) (kk : JC g X nc ns os (pc + 1) lv (.int (oA o k i.toNatClampNeg) :: st)) : JC g X nc ns os pc lv (.int i :: .ref (h (k + 1)) :: st) := by
  obtain ⟨p, e, R, s, m, args, below, meth, c, A, nL, Q⟩ := X
  obtain ⟨hx, hb, hml, hown, hts, hK, hnn, hfr, hlc, hSK⟩ := C
  intro H locs ls hW hAp hF hL hl hnc hns
  exact va_bald (D := g.2.1) hx hb hK (arr_P ((hW j _ hj).2 k _ ht rfl)) 0 1 rfl rfl (inb_in hin) hd (kk H locs ls hW hAp hF hL hl hnc hns)
theorem j_zald (C : CxOk g X cc own Ts nn fr lc) {sh : Sh} {h : Nat → Nat} {o : Ob} (j k : Nat) {n : Nat} {i : Int32} (hj : os[j]? = some (sh, h, o)) (ht : sh.2[k]? = some (4, n)) (hin : inb i n) (hd : decode cc pc = .ok (.baload, 1)) (kk : JC g X nc ns os (pc + 1) lv (.int (oA o k i.toNatClampNeg) :: st)) : JC g X nc ns os pc lv (.int i :: .ref (h (k + 1)) :: st) := by
  obtain ⟨p, e, R, s, m, args, below, meth, c, A, nL, Q⟩ := X
  obtain ⟨hx, hb, hml, hown, hts, hK, hnn, hfr, hlc, hSK⟩ := C
  intro H locs ls hW hAp hF hL hl hnc hns
  exact va_zald (D := g.2.1) hx hb hK (arr_P ((hW j _ hj).2 k _ ht rfl)) 0 2 rfl rfl (inb_in hin) hd (kk H locs ls hW hAp hF hL hl hnc hns)
theorem j_iast (C : CxOk g X cc own Ts nn fr lc) {sh : Sh} {h : Nat → Nat} {o : Ob} (j k : Nat) {n : Nat} {i x : Int32} (hj : os[j]? = some (sh, h, o)) (ht : sh.2[k]? = some (2, n)) (hin : inb i n) (os' : List Od) (hos : os.set j (sh, h, sA o k i.toNatClampNeg x) = os') (hd : decode cc pc = .ok (.iastore, 1)) (kk : JC g X nc ns os' (pc + 1) lv st) : JC g X nc ns os pc lv (.int x :: .int i :: .ref (h (k + 1)) :: st) := by
  obtain ⟨p, e, R, s, m, args, below, meth, c, A, nL, Q⟩ := X
  obtain ⟨hx, hb, hml, hown, hts, hK, hnn, hfr, hlc, hSK⟩ := C
  intro H locs ls hW hAp hF hL hl hnc hns
  subst hos
  have hAo : A (h (k + 1)) := hAp.2 j (sh, h, o) (k + 1) hj (own_arr ht rfl)
  refine W.iast hx hb ((hW j _ hj).2 k _ ht rfl) ((hK.2 0 _ rfl).1 n (fun q => .int (oA o k q))) (fun q => by cases q) (by show ¬ (i < 0 ∨ (arrV _ _ _).slots.size ≤ _); rw [arrV_size]; exact inb_in hin) rfl rfl hd fun H1 e z oq => ?_
  refine kk H1 _ ls (hW.set1 hAp hj (own_arr ht rfl) oq (hOb_row hW hAp hj ht rfl oq ?_)) (hAp.set1 hj) (hF.put z oq hAo) (fun q hq => ?_) hl hnc hns
  · show H1[h (k + 1)]? = some (vp_cell _ _)
    rw [e]
    rw [vp_cell_i, vp_cell_i, arrV_store]
    congr 2
    funext q
    by_cases hq : q = i.toNatClampNeg
    · subst hq
      simp [updV, upd, vp_nar, narrow]
    · simp [updV, upd, hq]
  · rcases List.mem_append.mp hq with h9 | h9
    · exact hL q h9
    · rw [List.mem_singleton.mp h9]; exact hAo
theorem j_bast (C : CxOk g X cc own Ts nn fr lc) {sh : Sh} {h : Nat → Nat} {o : Ob} (j k : Nat) {n : Nat} {i x : Int32} (hj : os[j]? = some (sh, h, o)) (ht : sh.2[k]? = some (3, n)) (hin : inb i n) (os' : List Od) (hos : os.set j (sh, h, sA o k i.toNatClampNeg (vp_nar .byte x)) = os') (hd : decode cc pc = .ok (.bastore, 1)) (kk : JC g X nc ns os' (pc + 1) lv st) : JC g X nc ns os pc lv (.int x :: .int i :: .ref (h (k + 1)) :: st) := by
  obtain ⟨p, e, R, s, m, args, below, meth, c, A, nL, Q⟩ := X
  obtain ⟨hx, hb, hml, hown, hts, hK, hnn, hfr, hlc, hSK⟩ := C
  intro H locs ls hW hAp hF hL hl hnc hns
  subst hos
  have hAo : A (h (k + 1)) := hAp.2 j (sh, h, o) (k + 1) hj (own_arr ht rfl)
  refine W.bast hx hb ((hW j _ hj).2 k _ ht rfl) ((hK.2 1 _ rfl).1 n (fun q => .int (oA o k q))) (fun q => by cases q) (by show ¬ (i < 0 ∨ (arrV _ _ _).slots.size ≤ _); rw [arrV_size]; exact inb_in hin) rfl rfl hd fun H1 e z oq => ?_
  refine kk H1 _ ls (hW.set1 hAp hj (own_arr ht rfl) oq (hOb_row hW hAp hj ht rfl oq ?_)) (hAp.set1 hj) (hF.put z oq hAo) (fun q hq => ?_) hl hnc hns
  · show H1[h (k + 1)]? = some (vp_cell _ _)
    rw [e]
    rw [vp_cell_i, vp_cell_i, arrV_store]
    congr 2
    funext q
    by_cases hq : q = i.toNatClampNeg
    · subst hq
      simp [updV, upd, vp_nar, narrow]
    · simp [updV, upd, hq]
  · rcases List.mem_append.mp hq with h9 | h9
    · exact hL q h9
    · rw [List.mem_singleton.mp h9]; exact hAo
theorem j_zast (C : CxOk g X cc own Ts nn fr lc) {sh : Sh} {h : Nat → Nat} {o : Ob} (j k : Nat) {n : Nat} {i x : Int32} (hj : os[j]? = some (sh, h, o)) (ht : sh.2[k]? = some (4, n)) (hin : inb i n) (os' : List Od) (hos : os.set j (sh, h, sA o k i.toNatClampNeg (vp_nar .boolean x)) = os') (hd : decode cc pc = .ok (.bastore, 1)) (kk : JC g X nc ns os' (pc + 1) lv st) : JC g X nc ns os pc lv (.int x :: .int i :: .ref (h (k + 1)) :: st) := by
  obtain ⟨p, e, R, s, m, args, below, meth, c, A, nL, Q⟩ := X
  obtain ⟨hx, hb, hml, hown, hts, hK, hnn, hfr, hlc, hSK⟩ := C
  intro H locs ls hW hAp hF hL hl hnc hns
  subst hos
  have hAo : A (h (k + 1)) := hAp.2 j (sh, h, o) (k + 1) hj (own_arr ht rfl)
  refine W.zast hx hb ((hW j _ hj).2 k _ ht rfl) ((hK.2 2 _ rfl).1 n (fun q => .int (oA o k q))) (fun q => by cases q) (by show ¬ (i < 0 ∨ (arrV _ _ _).slots.size ≤ _); rw [arrV_size]; exact inb_in hin) rfl rfl hd fun H1 e z oq => ?_
  refine kk H1 _ ls (hW.set1 hAp hj (own_arr ht rfl) oq (hOb_row hW hAp hj ht rfl oq ?_)) (hAp.set1 hj) (hF.put z oq hAo) (fun q hq => ?_) hl hnc hns
  · show H1[h (k + 1)]? = some (vp_cell _ _)
    rw [e]
    rw [vp_cell_i, vp_cell_i, arrV_store]
    congr 2
    funext q
    by_cases hq : q = i.toNatClampNeg
    · subst hq
      simp [updV, upd, vp_nar, narrow]
    · simp [updV, upd, hq]
  · rcases List.mem_append.mp hq with h9 | h9
    · exact hL q h9
    · rw [List.mem_singleton.mp h9]; exact hAo
theorem j_alen (C : CxOk g X cc own Ts nn fr lc) {sh : Sh} {h : Nat → Nat} {o : Ob} (j k : Nat) {n : Nat} {v : Int32} (hj : os[j]? = some (sh, h, o)) (ht : sh.2[k]? = some (2, n)) (hv : Int32.ofNat n = v) (hd : decode cc pc = .ok (.arraylength, 1)) (kk : JC g X nc ns os (pc + 1) lv (.int v :: st)) : JC g X nc ns os pc lv (.ref (h (k + 1)) :: st) := by
  obtain ⟨p, e, R, s, m, args, below, meth, c, A, nL, Q⟩ := X
  obtain ⟨hx, hb, hml, hown, hts, hK, hnn, hfr, hlc, hSK⟩ := C
  intro H locs ls hW hAp hF hL hl hnc hns
  exact va_alen (D := g.2.1) hx hb hK (arr_P ((hW j _ hj).2 k _ ht rfl)) 0 0 rfl rfl hv hd (kk H locs ls hW hAp hF hL hl hnc hns)
theorem j_alenB (C : CxOk g X cc own Ts nn fr lc) {sh : Sh} {h : Nat → Nat} {o : Ob} (j k : Nat) {n : Nat} {v : Int32} (hj : os[j]? = some (sh, h, o)) (ht : sh.2[k]? = some (3, n)) (hv : Int32.ofNat n = v) (hd : decode cc pc = .ok (.arraylength, 1)) (kk : JC g X nc ns os (pc + 1) lv (.int v :: st)) : JC g X nc ns os pc lv (.ref (h (k + 1)) :: st) := by
  obtain ⟨p, e, R, s, m, args, below, meth, c, A, nL, Q⟩ := X
  obtain ⟨hx, hb, hml, hown, hts, hK, hnn, hfr, hlc, hSK⟩ := C
  intro H locs ls hW hAp hF hL hl hnc hns
  exact va_alen (D := g.2.1) hx hb hK (arr_P ((hW j _ hj).2 k _ ht rfl)) 0 1 rfl rfl hv hd (kk H locs ls hW hAp hF hL hl hnc hns)
theorem j_alenZ (C : CxOk g X cc own Ts nn fr lc) {sh : Sh} {h : Nat → Nat} {o : Ob} (j k : Nat) {n : Nat} {v : Int32} (hj : os[j]? = some (sh, h, o)) (ht : sh.2[k]? = some (4, n)) (hv : Int32.ofNat n = v) (hd : decode cc pc = .ok (.arraylength, 1)) (kk : JC g X nc ns os (pc + 1) lv (.int v :: st)) : JC g X nc ns os pc lv (.ref (h (k + 1)) :: st) := by
  obtain ⟨p, e, R, s, m, args, below, meth, c, A, nL, Q⟩ := X
  obtain ⟨hx, hb, hml, hown, hts, hK, hnn, hfr, hlc, hSK⟩ := C
  intro H locs ls hW hAp hF hL hl hnc hns
  exact va_alen (D := g.2.1) hx hb hK (arr_P ((hW j _ hj).2 k _ ht rfl)) 0 2 rfl rfl hv hd (kk H locs ls hW hAp hF hL hl hnc hns)
theorem j_mmax (C : CxOk g X cc own Ts nn fr lc) {index : Nat} {x y : Int32} (h1 : Cond.methodLink own index Lib.Math.max.name ∈ Ts) (h2 : Cond.static Lib.Math.max.name ∈ Ts) (h3 : Cond.initialized "java/lang/Math" ∈ Ts) (h4 : Cond.code Lib.Math.max.name Lib.Math.max.code 2 (some .int) ∈ Ts) (hf : 1 ≤ fr) (hlo : (st.map fun v => v.category).sum + 13 ≤ lc) (hd : decode cc pc = .ok (.invokestatic index, 3)) (k : JC g X nc ns os (pc + 3) lv (.int (if x < y then y else x) :: st)) : JC g X nc ns os pc lv (.int y :: .int x :: st) := by
  obtain ⟨p, e, R, s, m, args, below, meth, c, A, nL, Q⟩ := X
  obtain ⟨hx, hb, hml, hown, hts, hK, hnn, hfr, hlc, hSK⟩ := C
  intro H locs ls hW hAp hF hL hl hnc hns
  subst hfr; subst hlc
  exact va_mmax hx hb (hml.trans hl.1.symm) hown (hts _ h1) (hts _ h2) (hts _ h3) (hts _ h4) hf hlo hnc hns hd (k H locs ls hW hAp hF hL hl hnc hns)
theorem j_mmin (C : CxOk g X cc own Ts nn fr lc) {index : Nat} {x y : Int32} (h1 : Cond.methodLink own index Lib.Math.min.name ∈ Ts) (h2 : Cond.static Lib.Math.min.name ∈ Ts) (h3 : Cond.initialized "java/lang/Math" ∈ Ts) (h4 : Cond.code Lib.Math.min.name Lib.Math.min.code 2 (some .int) ∈ Ts) (hf : 1 ≤ fr) (hlo : (st.map fun v => v.category).sum + 13 ≤ lc) (hd : decode cc pc = .ok (.invokestatic index, 3)) (k : JC g X nc ns os (pc + 3) lv (.int (if y < x then y else x) :: st)) : JC g X nc ns os pc lv (.int y :: .int x :: st) := by
  obtain ⟨p, e, R, s, m, args, below, meth, c, A, nL, Q⟩ := X
  obtain ⟨hx, hb, hml, hown, hts, hK, hnn, hfr, hlc, hSK⟩ := C
  intro H locs ls hW hAp hF hL hl hnc hns
  subst hfr; subst hlc
  exact va_mmin hx hb (hml.trans hl.1.symm) hown (hts _ h1) (hts _ h2) (hts _ h3) (hts _ h4) hf hlo hnc hns hd (k H locs ls hW hAp hF hL hl hnc hns)
theorem j_copy (C : CxOk g X cc own Ts nn fr lc) {sh0 sh1 : Sh} {h0 h1 : Nat → Nat} {o0 o1 : Ob} {index : Nat} (j0 k0 j1 k1 : Nat) {n0 n1 : Nat} {sp dp n : Int32} (hj0 : os[j0]? = some (sh0, h0, o0)) (ht0 : sh0.2[k0]? = some (2, n0)) (hj1 : os[j1]? = some (sh1, h1, o1)) (ht1 : sh1.2[k1]? = some (2, n1)) (hcp : cpok sp dp n n0 n1) (m1 : Cond.methodLink own index arraycopyName ∈ Ts) (m2 : Cond.native arraycopyName ∈ Ts) (m3 : Cond.static arraycopyName ∈ Ts) (m4 : Cond.initialized "java/lang/System" ∈ Ts) (hf : 1 ≤ fr) (hlo : (st.map fun v => v.category).sum + (nativeFrameWords "java/lang/System" "arraycopy" 5 + 11) ≤ lc) (os' : List Od) (hos : os.set j1 (sh1, h1, sR o1 k1 (va_cpy (oA o0 k0) (oA o1 k1) sp.toNatClampNeg dp.toNatClampNeg n.toNatClampNeg)) = os') (hd : decode cc pc = .ok (.invokestatic index, 3)) (kk : JC g X nc ns os' (pc + 3) lv st) : JC g X nc ns os pc lv (.int n :: .int dp :: .ref (h1 (k1 + 1)) :: .int sp :: .ref (h0 (k0 + 1)) :: st) := by
  obtain ⟨p, e, R, s, m, args, below, meth, c, A, nL, Q⟩ := X
  obtain ⟨hx, hb, hml, hown, hts, hK, hnn, hfr, hlc, hSK⟩ := C
  intro H locs ls hW hAp hF hL hl hnc hns
  subst hos; subst hfr; subst hlc
  obtain ⟨c1, c2, c3, c4, c5⟩ := hcp
  have hAo : A (h1 (k1 + 1)) := hAp.2 j1 (sh1, h1, o1) (k1 + 1) hj1 (own_arr ht1 rfl)
  have nn9 : ∀ z : Int32, ¬ z < 0 → z.toInt = (z.toNatClampNeg : Int) := by
    intro z hz
    have hz0 : (0 : Int) ≤ z.toInt := by
      have := Int32.not_lt.mp hz
      simpa using Int32.le_iff_toInt_le.mp this
    show z.toInt = ((z.toInt.toNat : Nat) : Int)
    omega
  intro T hT Y
  have hc0 : H[h0 (k0 + 1)]? = some (vp_cell g.2.2.1.1 (n0, .inl (oA o0 k0))) := (hW j0 _ hj0).2 k0 _ ht0 rfl
  have hc1 : H[h1 (k1 + 1)]? = some (vp_cell g.2.2.1.1 (n1, .inl (oA o1 k1))) := (hW j1 _ hj1).2 k1 _ ht1 rfl
  obtain ⟨-, q0, hq0, cm0, hqq0⟩ := (hK.2 0 _ rfl).1 n0 (fun j => .int (oA o0 k0 j))
  obtain ⟨-, q1, hq1, cm1, hqq1⟩ := (hK.2 0 _ rfl).1 n1 (fun j => .int (oA o1 k1 j))
  obtain ⟨vm', Y', step⟩ := Y.arraycopy hx hown (hts _ m1) (hts _ m2) (hts _ m3) (hts _ m4) (src := h0 (k0 + 1)) (dst := h1 (k1 + 1)) (cs := vp_cell g.2.2.1.1 (n0, .inl (oA o0 k0))) (cd := vp_cell g.2.2.1.1 (n1, .inl (oA o1 k1))) (srcPos := sp) (destPos := dp) (n := n) (by rw [hT]; exact hc0) (by rw [hT]; exact hc1)
    (fun _ h => by cases h) (fun _ h => by cases h) (fun h => by cases h) (fun h => by cases h) hq0 hq1 hqq0 hqq1 (by simp [show refKind FieldType.int = false from rfl]) c1 c2 c3
    (by rw [nn9 sp c1, nn9 n c3]; show ¬ _ > ((arrV g.2.2.1.1 n0 (fun j => .int (oA o0 k0 j))).slots.size : Int); rw [arrV_size]; omega)
    (by rw [nn9 dp c2, nn9 n c3]; show ¬ _ > ((arrV g.2.2.1.1 n1 (fun j => .int (oA o1 k1 j))).slots.size : Int); rw [arrV_size]; omega)
    (fun vm₁ _ i hi => by
      have e : (vp_cell g.2.2.1.1 (n0, .inl (oA o0 k0))).slots.getD (sp.toNatClampNeg + i) .null = .int (oA o0 k0 (sp.toNatClampNeg + i)) := by
        show (arrV g.2.2.1.1 n0 (fun j => .int (oA o0 k0 j))).slots.getD _ _ = _
        rw [Array.getD_eq_getD_getElem?, arrV_read _ _ (by omega)]
        rfl
      refine ⟨?_, ?_⟩
      · rw [e]
        rfl
      · rw [e]
        exact trivial)
    (g := F0 m pc ls (.int n :: .int dp :: .ref (h1 (k1 + 1)) :: .int sp :: .ref (h0 (k0 + 1)) :: st)) rfl (by rw [hml]; exact hl.1) (rest := st) rfl (by rw [hb]; exact hd) hf (by show 2 * 0 + _ + _ ≤ _; omega)
  have e1 : copied (vp_cell g.2.2.1.1 (n0, .inl (oA o0 k0))) (vp_cell g.2.2.1.1 (n1, .inl (oA o1 k1))) sp dp n = vp_cell g.2.2.1.1 (n1, .inl (va_cpy (oA o0 k0) (oA o1 k1) sp.toNatClampNeg dp.toNatClampNeg n.toNatClampNeg)) := va_copied (fun z => .int z) g.2.2.1.1 g.2.2.1.1 (oA o0 k0) (oA o1 k1) c4
  rw [e1] at Y' step
  have hlt : h1 (k1 + 1) < H.size := (Array.getElem?_eq_some_iff.mp hc1).1
  have hheap : ((T.setVm vm').setCell (h1 (k1 + 1)) (vp_cell g.2.2.1.1 (n1, .inl (va_cpy (oA o0 k0) (oA o1 k1) sp.toNatClampNeg dp.toNatClampNeg n.toNatClampNeg)))).heap = H.setIfInBounds (h1 (k1 + 1)) (vp_cell g.2.2.1.1 (n1, .inl (va_cpy (oA o0 k0) (oA o1 k1) sp.toNatClampNeg dp.toNatClampNeg n.toNatClampNeg))) := by rw [← hT]; rfl
  have oq : ∀ q : Nat, q ≠ h1 (k1 + 1) → (H.setIfInBounds (h1 (k1 + 1)) (vp_cell g.2.2.1.1 (n1, .inl (va_cpy (oA o0 k0) (oA o1 k1) sp.toNatClampNeg dp.toNatClampNeg n.toNatClampNeg))))[q]? = H[q]? := fun q hq => by simp [Array.getElem?_setIfInBounds, Ne.symm hq]
  obtain ⟨t, a1, b1⟩ := kk _ _ ls (hW.set1 hAp hj1 (own_arr ht1 rfl) oq (hOb_row hW hAp hj1 ht1 rfl oq (show (H.setIfInBounds (h1 (k1 + 1)) _)[h1 (k1 + 1)]? = some _ by simp [Array.getElem?_setIfInBounds, hlt]; rfl))) (hAp.set1 hj1) (hF.put (by simp) oq hAo) (fun q hq => by
      rcases List.mem_append.mp hq with h | h
      · exact hL q h
      · obtain ⟨z, -, hz⟩ := List.mem_map.mp h
        rw [← hz]
        exact hAo) hl hnc hns _ hheap Y'
  exact ⟨t, step t a1, b1⟩
theorem j_iret (C : CxOk g X cc own Ts nn fr lc) {v : Int32} (Rk : RetOkC g X nc ns os (some (.int v)) (some .int)) (hd : decode cc pc = .ok (.ireturn, 1)) : JC g X nc ns os pc lv [.int v] := by
  obtain ⟨p, e, R, s, m, args, below, meth, c, A, nL, Q⟩ := X
  obtain ⟨hx, hb, hml, hown, hts, hK, hnn, hfr, hlc, hSK⟩ := C
  obtain ⟨Qc, free, rfl, hfree, hq, hr, hlk⟩ := Rk
  intro H locs ls hW hAp hF hL hl hnc hns
  exact W.iret hx hb hr (fun t ht _ => hq t (by rw [ht]; exact hW) hAp (by rw [ht]; exact hF)) (fun q hq => hfree _ (hL q hq)) hd hlk
theorem j_lret (C : CxOk g X cc own Ts nn fr lc) {v : Int64} (Rk : RetOkC g X nc ns os (some (.long v)) (some .long)) (hd : decode cc pc = .ok (.lreturn, 1)) : JC g X nc ns os pc lv [.long v] := by
  obtain ⟨p, e, R, s, m, args, below, meth, c, A, nL, Q⟩ := X
  obtain ⟨hx, hb, hml, hown, hts, hK, hnn, hfr, hlc, hSK⟩ := C
  obtain ⟨Qc, free, rfl, hfree, hq, hr, hlk⟩ := Rk
  intro H locs ls hW hAp hF hL hl hnc hns
  exact W.lret hx hb hr (fun t ht _ => hq t (by rw [ht]; exact hW) hAp (by rw [ht]; exact hF)) (fun q hq => hfree _ (hL q hq)) hd hlk
theorem j_vret (C : CxOk g X cc own Ts nn fr lc)  (Rk : RetOkC g X nc ns os none none) (hd : decode cc pc = .ok (.return_, 1)) : JC g X nc ns os pc lv [] := by
  obtain ⟨p, e, R, s, m, args, below, meth, c, A, nL, Q⟩ := X
  obtain ⟨hx, hb, hml, hown, hts, hK, hnn, hfr, hlc, hSK⟩ := C
  obtain ⟨Qc, free, rfl, hfree, hq, hr, hlk⟩ := Rk
  intro H locs ls hW hAp hF hL hl hnc hns
  exact W.vret hx hb hr (fun t ht _ => hq t (by rw [ht]; exact hW) hAp (by rw [ht]; exact hF)) (fun q hq => hfree _ (hL q hq)) hd hlk
theorem j_zret (C : CxOk g X cc own Ts nn fr lc) {v : Int32} {ty : FieldType} (hn : narrow ty (.int v) = .int v) (Rk : RetOkC g X nc ns os (some (.int v)) (some ty)) (hd : decode cc pc = .ok (.ireturn, 1)) : JC g X nc ns os pc lv [.int v] := by
  obtain ⟨p, e, R, s, m, args, below, meth, c, A, nL, Q⟩ := X
  obtain ⟨hx, hb, hml, hown, hts, hK, hnn, hfr, hlc, hSK⟩ := C
  obtain ⟨Qc, free, rfl, hfree, hq, hr, hlk⟩ := Rk
  intro H locs ls hW hAp hF hL hl hnc hns
  exact W.zret hx hb hr hn (fun t ht _ => hq t (by rw [ht]; exact hW) hAp (by rw [ht]; exact hF)) (fun q hq => hfree _ (hL q hq)) hd hlk

theorem PreW.blind (g : Gl) (os : List Od) (av : List Value) : FrameBlind (PreW g os av) := fun a U gg mk q => ⟨q.1, q.2.1, va_K.moved (u := U) (U := U.calling gg mk a) (Vm.Alike.refl U.vm) q.2.2.1, q.2.2.2.1, q.2.2.2.2.blind gg mk a⟩
theorem j_callVi (C : CxOk g X cc own Ts nn fr lc) {y : MethodName} {ws ws' : List Cond} {bytes : ByteArray} {maxL : Nat} {ret : Option FieldType} {fr' lc' index : Nat} {oc oc' os' : List Od} {stk : List Value} {sh : Sh} {h : Nat → Nat} {o : Ob} {Cn : String} {T : u_T} {N : Nat} (As : List Value) {r : Int32} (hM : Ctr g y ws fr' lc' oc oc' (.ref (h 0) :: As) (some (.int r))) (is : List Nat) (hp : is.map (fun i => os[i]?) = oc.map some) (hnd : va_nd is = true) (hs : oc'.map shp = oc.map shp) (hpb : pb os is oc' = os') (j : Nat) (hj : os[j]? = some (sh, h, o)) (hc : vwCl[sh.1]? = some (Cn, T, N)) (hG : GoodIn Ts (wsV own index Cn y ws)) (hw : ws = Cond.code y bytes maxL ret :: ws') (n : Nat) (hn : As.length = n) (hdd : y.cls = Cn ∧ y.cls ≠ "java/lang/invoke/MethodHandle" ∧ y.cls ≠ "java/lang/invoke/VarHandle" ∧ (parseMethodDescriptor y.desc).map (fun d => d.parameters.length) = some n) (hR : fr' + 1 ≤ fr ∧ 8 + (maxL + 11) + lc' ≤ lc) (hst : (st.map fun v => v.category).sum ≤ 8) (hsk : stk = As.reverse ++ .ref (h 0) :: st) (hd : decode cc pc = .ok (.invokevirtual index, 3)) (k : JC g X nc ns os' (pc + 3) lv (.int r :: st)) : JC g X nc ns os pc lv stk := by
  obtain ⟨p, e, R, s, m, args, below, meth, c, A, nL, Q⟩ := X
  obtain ⟨hx, hb, hml, hown, hts, hK, hnn, hfr, hlc, hSK⟩ := C
  intro H locs ls hW hAp hF hL hl hnc hns
  subst hfr; subst hlc; subst hsk; subst hpb; subst hn
  have hF2 := wA.in hAp hp
  have hpre : ∀ U : State, U.heap = H → s.WarmedH U.vm → PreW g oc (.ref (h 0) :: As) ((.ref (h 0) :: As)).toArray U := fun U hU hWm => ⟨rfl, by rw [hU]; exact hW.pick hp, va_K.moved hWm.alike hK, hAp.pick hp hnd, hSK.to hF hU hWm hF2⟩
  have hrec : ∃ cellB : Cell, H[h 0]? = some cellB ∧ cellB.vm.isStatics = false ∧ s.vm.findClass Cn = some cellB.cls := by
    obtain ⟨⟨r0, h1, h2⟩, -⟩ := hW j _ hj
    have hr : r0 = (Cn, T, N) := Option.some.inj (h1.symm.trans hc)
    subst hr
    exact va_recv hK (obj_P (d := (sh, h, o)) h1 h2) hc (q0 := 0) rfl
  intro T0 hT X0
  obtain ⟨v, st₀, t, T', L, h0, X', hL2, e1, e2, ⟨hv, hw1, hz, hk⟩, stp⟩ := (va_runV (As := As) (rest := st) ⟨hx, hb, hml, hown, hts⟩ hM (cwV As.length hts hG hw rfl rfl hdd hR) ⟨PreW.blind g oc _, hrec, hpre⟩ rfl rfl hl.1 rfl (lv_room hst) hd ⟨hnc, hns⟩ : va_Run p g.1 e R s m args below meth c H locs nc ns 0 0 (F0 m pc ls (As.reverse ++ .ref (h 0) :: st)) st (PostW g oc oc' (some (.int r)) _) (wA oc)) T0 hT X0
  cases hv
  rw [h0] at hz hk
  obtain ⟨t2, a1, b1⟩ := k T'.heap (locs ++ L) ls (hW.back hAp hp hs (fun q hs hq => by rw [e1]; exact hk q hs hq) (by rw [e1]; exact hw1)) (hAp.back hp hs) ⟨Nat.le_trans hF.1 (by rw [e1]; exact hz), fun q hs hq => by rw [e1, hk q (Nat.lt_of_lt_of_le hs hF.1) (fun z => hq (hF2 q z))]; exact hF.2 q hs hq⟩ (fun q hq => by
    rcases List.mem_append.mp hq with h9 | h9
    · exact hL q h9
    · exact hF2 _ (hL2 q h9)) hl hnc hns T' rfl X'
  exact ⟨t2, stp t2 a1, b1⟩
theorem j_callSi (C : CxOk g X cc own Ts nn fr lc) {y : MethodName} {ws ws' : List Cond} {bytes : ByteArray} {maxL : Nat} {ret : Option FieldType} {fr' lc' index : Nat} {oc oc' os' : List Od} {stk : List Value} (As : List Value) {r : Int32} (hM : Ctr g y ws fr' lc' oc oc' As (some (.int r))) (is : List Nat) (hp : is.map (fun i => os[i]?) = oc.map some) (hnd : va_nd is = true) (hs : oc'.map shp = oc.map shp) (hpb : pb os is oc' = os') (hG : GoodIn Ts (va_wsS own index y ws)) (hw : ws = Cond.code y bytes maxL ret :: ws') (n : Nat) (hn : As.length = n) (hdd : y.cls ≠ "java/lang/invoke/MethodHandle" ∧ y.cls ≠ "java/lang/invoke/VarHandle" ∧ (parseMethodDescriptor y.desc).map (fun d => d.parameters.length) = some n) (hR : fr' + 1 ≤ fr ∧ 8 + (maxL + 11) + lc' ≤ lc) (hst : (st.map fun v => v.category).sum ≤ 8) (hsk : stk = As.reverse ++ st) (hd : decode cc pc = .ok (.invokestatic index, 3)) (k : JC g X nc ns os' (pc + 3) lv (.int r :: st)) : JC g X nc ns os pc lv stk := by
  obtain ⟨p, e, R, s, m, args, below, meth, c, A, nL, Q⟩ := X
  obtain ⟨hx, hb, hml, hown, hts, hK, hnn, hfr, hlc, hSK⟩ := C
  intro H locs ls hW hAp hF hL hl hnc hns
  subst hfr; subst hlc; subst hsk; subst hpb; subst hn
  have hF2 := wA.in hAp hp
  have hpre : ∀ U : State, U.heap = H → s.WarmedH U.vm → PreW g oc As (As).toArray U := fun U hU hWm => ⟨rfl, by rw [hU]; exact hW.pick hp, va_K.moved hWm.alike hK, hAp.pick hp hnd, hSK.to hF hU hWm hF2⟩
  have okw : ∀ w ∈ va_wsS own index y ws, w.before args s = true := fun w hw9 => hts w (hG w hw9).1
  intro T0 hT X0
  obtain ⟨v, st₀, t, T', L, h0, X', hL2, e1, e2, ⟨hv, hw1, hz, hk⟩, stp⟩ := (va_runS (As := As) (rest := st) ⟨hx, hb, hml, hown, hts⟩ hM ⟨callB_of As.length hts (fun w hw9 => hG w (List.mem_append_right _ hw9)) hw rfl rfl (okw _ (by simp [va_wsS])) (okw _ (by simp [va_wsS])) hdd hR, okw _ (by simp [va_wsS])⟩ ⟨PreW.blind g oc _, hpre⟩ rfl rfl hl.1 rfl (lv_room hst) hd ⟨hnc, hns⟩ : va_Run p g.1 e R s m args below meth c H locs nc ns 0 0 (F0 m pc ls (As.reverse ++ st)) st (PostW g oc oc' (some (.int r)) _) (wA oc)) T0 hT X0
  cases hv
  rw [h0] at hz hk
  obtain ⟨t2, a1, b1⟩ := k T'.heap (locs ++ L) ls (hW.back hAp hp hs (fun q hs hq => by rw [e1]; exact hk q hs hq) (by rw [e1]; exact hw1)) (hAp.back hp hs) ⟨Nat.le_trans hF.1 (by rw [e1]; exact hz), fun q hs hq => by rw [e1, hk q (Nat.lt_of_lt_of_le hs hF.1) (fun z => hq (hF2 q z))]; exact hF.2 q hs hq⟩ (fun q hq => by
    rcases List.mem_append.mp hq with h9 | h9
    · exact hL q h9
    · exact hF2 _ (hL2 q h9)) hl hnc hns T' rfl X'
  exact ⟨t2, stp t2 a1, b1⟩
theorem j_callTi (C : CxOk g X cc own Ts nn fr lc) {y : MethodName} {ws ws' : List Cond} {bytes : ByteArray} {maxL : Nat} {ret : Option FieldType} {fr' lc' index : Nat} {oc oc' os' : List Od} {stk : List Value} {i : Nat} (As : List Value) {r : Int32} (hM : Ctr g y ws fr' lc' oc oc' (.ref (gK g i) :: As) (some (.int r))) (is : List Nat) (hp : is.map (fun i => os[i]?) = oc.map some) (hnd : va_nd is = true) (hs : oc'.map shp = oc.map shp) (hpb : pb os is oc' = os') (hi : i < 2) (hG : GoodIn Ts (wsV own index "java/lang/String" y ws)) (hw : ws = Cond.code y bytes maxL ret :: ws') (n : Nat) (hn : As.length = n) (hdd : y.cls = "java/lang/String" ∧ y.cls ≠ "java/lang/invoke/MethodHandle" ∧ y.cls ≠ "java/lang/invoke/VarHandle" ∧ (parseMethodDescriptor y.desc).map (fun d => d.parameters.length) = some n) (hR : fr' + 1 ≤ fr ∧ 8 + (maxL + 11) + lc' ≤ lc) (hst : (st.map fun v => v.category).sum ≤ 8) (hsk : stk = As.reverse ++ .ref (gK g i) :: st) (hd : decode cc pc = .ok (.invokevirtual index, 3)) (k : JC g X nc ns os' (pc + 3) lv (.int r :: st)) : JC g X nc ns os pc lv stk := by
  obtain ⟨p, e, R, s, m, args, below, meth, c, A, nL, Q⟩ := X
  obtain ⟨hx, hb, hml, hown, hts, hK, hnn, hfr, hlc, hSK⟩ := C
  intro H locs ls hW hAp hF hL hl hnc hns
  subst hfr; subst hlc; subst hsk; subst hpb; subst hn
  have hF2 := wA.in hAp hp
  have hpre : ∀ U : State, U.heap = H → s.WarmedH U.vm → PreW g oc (.ref (gK g i) :: As) ((.ref (gK g i) :: As)).toArray U := fun U hU hWm => ⟨rfl, by rw [hU]; exact hW.pick hp, va_K.moved hWm.alike hK, hAp.pick hp hnd, hSK.to hF hU hWm hF2⟩
  have hrec : ∃ cellB : Cell, H[gK g i]? = some cellB ∧ cellB.vm.isStatics = false ∧ s.vm.findClass "java/lang/String" = some cellB.cls := by
    obtain ⟨cell, h1, h2, h3, -⟩ := (hSK.1.1 i hi).1.kept (H1 := H) (fun a hs ha => hF.2 a hs ha)
    exact ⟨cell, h1, h2, h3⟩
  intro T0 hT X0
  obtain ⟨v, st₀, t, T', L, h0, X', hL2, e1, e2, ⟨hv, hw1, hz, hk⟩, stp⟩ := (va_runV (As := As) (rest := st) ⟨hx, hb, hml, hown, hts⟩ hM (cwV As.length hts hG hw rfl rfl hdd hR) ⟨PreW.blind g oc _, hrec, hpre⟩ rfl rfl hl.1 rfl (lv_room hst) hd ⟨hnc, hns⟩ : va_Run p g.1 e R s m args below meth c H locs nc ns 0 0 (F0 m pc ls (As.reverse ++ .ref (gK g i) :: st)) st (PostW g oc oc' (some (.int r)) _) (wA oc)) T0 hT X0
  cases hv
  rw [h0] at hz hk
  obtain ⟨t2, a1, b1⟩ := k T'.heap (locs ++ L) ls (hW.back hAp hp hs (fun q hs hq => by rw [e1]; exact hk q hs hq) (by rw [e1]; exact hw1)) (hAp.back hp hs) ⟨Nat.le_trans hF.1 (by rw [e1]; exact hz), fun q hs hq => by rw [e1, hk q (Nat.lt_of_lt_of_le hs hF.1) (fun z => hq (hF2 q z))]; exact hF.2 q hs hq⟩ (fun q hq => by
    rcases List.mem_append.mp hq with h9 | h9
    · exact hL q h9
    · exact hF2 _ (hL2 q h9)) hl hnc hns T' rfl X'
  exact ⟨t2, stp t2 a1, b1⟩
theorem j_callVv (C : CxOk g X cc own Ts nn fr lc) {y : MethodName} {ws ws' : List Cond} {bytes : ByteArray} {maxL : Nat} {ret : Option FieldType} {fr' lc' index : Nat} {oc oc' os' : List Od} {stk : List Value} {sh : Sh} {h : Nat → Nat} {o : Ob} {Cn : String} {T : u_T} {N : Nat} (As : List Value)  (hM : Ctr g y ws fr' lc' oc oc' (.ref (h 0) :: As) none) (is : List Nat) (hp : is.map (fun i => os[i]?) = oc.map some) (hnd : va_nd is = true) (hs : oc'.map shp = oc.map shp) (hpb : pb os is oc' = os') (j : Nat) (hj : os[j]? = some (sh, h, o)) (hc : vwCl[sh.1]? = some (Cn, T, N)) (hG : GoodIn Ts (wsV own index Cn y ws)) (hw : ws = Cond.code y bytes maxL ret :: ws') (n : Nat) (hn : As.length = n) (hdd : y.cls = Cn ∧ y.cls ≠ "java/lang/invoke/MethodHandle" ∧ y.cls ≠ "java/lang/invoke/VarHandle" ∧ (parseMethodDescriptor y.desc).map (fun d => d.parameters.length) = some n) (hR : fr' + 1 ≤ fr ∧ 8 + (maxL + 11) + lc' ≤ lc) (hst : (st.map fun v => v.category).sum ≤ 8) (hsk : stk = As.reverse ++ .ref (h 0) :: st) (hd : decode cc pc = .ok (.invokevirtual index, 3)) (k : JC g X nc ns os' (pc + 3) lv (st)) : JC g X nc ns os pc lv stk := by
  obtain ⟨p, e, R, s, m, args, below, meth, c, A, nL, Q⟩ := X
  obtain ⟨hx, hb, hml, hown, hts, hK, hnn, hfr, hlc, hSK⟩ := C
  intro H locs ls hW hAp hF hL hl hnc hns
  subst hfr; subst hlc; subst hsk; subst hpb; subst hn
  have hF2 := wA.in hAp hp
  have hpre : ∀ U : State, U.heap = H → s.WarmedH U.vm → PreW g oc (.ref (h 0) :: As) ((.ref (h 0) :: As)).toArray U := fun U hU hWm => ⟨rfl, by rw [hU]; exact hW.pick hp, va_K.moved hWm.alike hK, hAp.pick hp hnd, hSK.to hF hU hWm hF2⟩
  have hrec : ∃ cellB : Cell, H[h 0]? = some cellB ∧ cellB.vm.isStatics = false ∧ s.vm.findClass Cn = some cellB.cls := by
    obtain ⟨⟨r0, h1, h2⟩, -⟩ := hW j _ hj
    have hr : r0 = (Cn, T, N) := Option.some.inj (h1.symm.trans hc)
    subst hr
    exact va_recv hK (obj_P (d := (sh, h, o)) h1 h2) hc (q0 := 0) rfl
  intro T0 hT X0
  obtain ⟨v, st₀, t, T', L, h0, X', hL2, e1, e2, ⟨hv, hw1, hz, hk⟩, stp⟩ := (va_runV (As := As) (rest := st) ⟨hx, hb, hml, hown, hts⟩ hM (cwV As.length hts hG hw rfl rfl hdd hR) ⟨PreW.blind g oc _, hrec, hpre⟩ rfl rfl hl.1 rfl (lv_room hst) hd ⟨hnc, hns⟩ : va_Run p g.1 e R s m args below meth c H locs nc ns 0 0 (F0 m pc ls (As.reverse ++ .ref (h 0) :: st)) st (PostW g oc oc' none _) (wA oc)) T0 hT X0
  cases hv
  rw [h0] at hz hk
  obtain ⟨t2, a1, b1⟩ := k T'.heap (locs ++ L) ls (hW.back hAp hp hs (fun q hs hq => by rw [e1]; exact hk q hs hq) (by rw [e1]; exact hw1)) (hAp.back hp hs) ⟨Nat.le_trans hF.1 (by rw [e1]; exact hz), fun q hs hq => by rw [e1, hk q (Nat.lt_of_lt_of_le hs hF.1) (fun z => hq (hF2 q z))]; exact hF.2 q hs hq⟩ (fun q hq => by
    rcases List.mem_append.mp hq with h9 | h9
    · exact hL q h9
    · exact hF2 _ (hL2 q h9)) hl hnc hns T' rfl X'
  exact ⟨t2, stp t2 a1, b1⟩
theorem j_callSv (C : CxOk g X cc own Ts nn fr lc) {y : MethodName} {ws ws' : List Cond} {bytes : ByteArray} {maxL : Nat} {ret : Option FieldType} {fr' lc' index : Nat} {oc oc' os' : List Od} {stk : List Value} (As : List Value)  (hM : Ctr g y ws fr' lc' oc oc' As none) (is : List Nat) (hp : is.map (fun i => os[i]?) = oc.map some) (hnd : va_nd is = true) (hs : oc'.map shp = oc.map shp) (hpb : pb os is oc' = os') (hG : GoodIn Ts (va_wsS own index y ws)) (hw : ws = Cond.code y bytes maxL ret :: ws') (n : Nat) (hn : As.length = n) (hdd : y.cls ≠ "java/lang/invoke/MethodHandle" ∧ y.cls ≠ "java/lang/invoke/VarHandle" ∧ (parseMethodDescriptor y.desc).map (fun d => d.parameters.length) = some n) (hR : fr' + 1 ≤ fr ∧ 8 + (maxL + 11) + lc' ≤ lc) (hst : (st.map fun v => v.category).sum ≤ 8) (hsk : stk = As.reverse ++ st) (hd : decode cc pc = .ok (.invokestatic index, 3)) (k : JC g X nc ns os' (pc + 3) lv (st)) : JC g X nc ns os pc lv stk := by
  obtain ⟨p, e, R, s, m, args, below, meth, c, A, nL, Q⟩ := X
  obtain ⟨hx, hb, hml, hown, hts, hK, hnn, hfr, hlc, hSK⟩ := C
  intro H locs ls hW hAp hF hL hl hnc hns
  subst hfr; subst hlc; subst hsk; subst hpb; subst hn
  have hF2 := wA.in hAp hp
  have hpre : ∀ U : State, U.heap = H → s.WarmedH U.vm → PreW g oc As (As).toArray U := fun U hU hWm => ⟨rfl, by rw [hU]; exact hW.pick hp, va_K.moved hWm.alike hK, hAp.pick hp hnd, hSK.to hF hU hWm hF2⟩
  have okw : ∀ w ∈ va_wsS own index y ws, w.before args s = true := fun w hw9 => hts w (hG w hw9).1
  intro T0 hT X0
  obtain ⟨v, st₀, t, T', L, h0, X', hL2, e1, e2, ⟨hv, hw1, hz, hk⟩, stp⟩ := (va_runS (As := As) (rest := st) ⟨hx, hb, hml, hown, hts⟩ hM ⟨callB_of As.length hts (fun w hw9 => hG w (List.mem_append_right _ hw9)) hw rfl rfl (okw _ (by simp [va_wsS])) (okw _ (by simp [va_wsS])) hdd hR, okw _ (by simp [va_wsS])⟩ ⟨PreW.blind g oc _, hpre⟩ rfl rfl hl.1 rfl (lv_room hst) hd ⟨hnc, hns⟩ : va_Run p g.1 e R s m args below meth c H locs nc ns 0 0 (F0 m pc ls (As.reverse ++ st)) st (PostW g oc oc' none _) (wA oc)) T0 hT X0
  cases hv
  rw [h0] at hz hk
  obtain ⟨t2, a1, b1⟩ := k T'.heap (locs ++ L) ls (hW.back hAp hp hs (fun q hs hq => by rw [e1]; exact hk q hs hq) (by rw [e1]; exact hw1)) (hAp.back hp hs) ⟨Nat.le_trans hF.1 (by rw [e1]; exact hz), fun q hs hq => by rw [e1, hk q (Nat.lt_of_lt_of_le hs hF.1) (fun z => hq (hF2 q z))]; exact hF.2 q hs hq⟩ (fun q hq => by
    rcases List.mem_append.mp hq with h9 | h9
    · exact hL q h9
    · exact hF2 _ (hL2 q h9)) hl hnc hns T' rfl X'
  exact ⟨t2, stp t2 a1, b1⟩
theorem j_callTv (C : CxOk g X cc own Ts nn fr lc) {y : MethodName} {ws ws' : List Cond} {bytes : ByteArray} {maxL : Nat} {ret : Option FieldType} {fr' lc' index : Nat} {oc oc' os' : List Od} {stk : List Value} {i : Nat} (As : List Value)  (hM : Ctr g y ws fr' lc' oc oc' (.ref (gK g i) :: As) none) (is : List Nat) (hp : is.map (fun i => os[i]?) = oc.map some) (hnd : va_nd is = true) (hs : oc'.map shp = oc.map shp) (hpb : pb os is oc' = os') (hi : i < 2) (hG : GoodIn Ts (wsV own index "java/lang/String" y ws)) (hw : ws = Cond.code y bytes maxL ret :: ws') (n : Nat) (hn : As.length = n) (hdd : y.cls = "java/lang/String" ∧ y.cls ≠ "java/lang/invoke/MethodHandle" ∧ y.cls ≠ "java/lang/invoke/VarHandle" ∧ (parseMethodDescriptor y.desc).map (fun d => d.parameters.length) = some n) (hR : fr' + 1 ≤ fr ∧ 8 + (maxL + 11) + lc' ≤ lc) (hst : (st.map fun v => v.category).sum ≤ 8) (hsk : stk = As.reverse ++ .ref (gK g i) :: st) (hd : decode cc pc = .ok (.invokevirtual index, 3)) (k : JC g X nc ns os' (pc + 3) lv (st)) : JC g X nc ns os pc lv stk := by
  obtain ⟨p, e, R, s, m, args, below, meth, c, A, nL, Q⟩ := X
  obtain ⟨hx, hb, hml, hown, hts, hK, hnn, hfr, hlc, hSK⟩ := C
  intro H locs ls hW hAp hF hL hl hnc hns
  subst hfr; subst hlc; subst hsk; subst hpb; subst hn
  have hF2 := wA.in hAp hp
  have hpre : ∀ U : State, U.heap = H → s.WarmedH U.vm → PreW g oc (.ref (gK g i) :: As) ((.ref (gK g i) :: As)).toArray U := fun U hU hWm => ⟨rfl, by rw [hU]; exact hW.pick hp, va_K.moved hWm.alike hK, hAp.pick hp hnd, hSK.to hF hU hWm hF2⟩
  have hrec : ∃ cellB : Cell, H[gK g i]? = some cellB ∧ cellB.vm.isStatics = false ∧ s.vm.findClass "java/lang/String" = some cellB.cls := by
    obtain ⟨cell, h1, h2, h3, -⟩ := (hSK.1.1 i hi).1.kept (H1 := H) (fun a hs ha => hF.2 a hs ha)
    exact ⟨cell, h1, h2, h3⟩
  intro T0 hT X0
  obtain ⟨v, st₀, t, T', L, h0, X', hL2, e1, e2, ⟨hv, hw1, hz, hk⟩, stp⟩ := (va_runV (As := As) (rest := st) ⟨hx, hb, hml, hown, hts⟩ hM (cwV As.length hts hG hw rfl rfl hdd hR) ⟨PreW.blind g oc _, hrec, hpre⟩ rfl rfl hl.1 rfl (lv_room hst) hd ⟨hnc, hns⟩ : va_Run p g.1 e R s m args below meth c H locs nc ns 0 0 (F0 m pc ls (As.reverse ++ .ref (gK g i) :: st)) st (PostW g oc oc' none _) (wA oc)) T0 hT X0
  cases hv
  rw [h0] at hz hk
  obtain ⟨t2, a1, b1⟩ := k T'.heap (locs ++ L) ls (hW.back hAp hp hs (fun q hs hq => by rw [e1]; exact hk q hs hq) (by rw [e1]; exact hw1)) (hAp.back hp hs) ⟨Nat.le_trans hF.1 (by rw [e1]; exact hz), fun q hs hq => by rw [e1, hk q (Nat.lt_of_lt_of_le hs hF.1) (fun z => hq (hF2 q z))]; exact hF.2 q hs hq⟩ (fun q hq => by
    rcases List.mem_append.mp hq with h9 | h9
    · exact hL q h9
    · exact hF2 _ (hL2 q h9)) hl hnc hns T' rfl X'
  exact ⟨t2, stp t2 a1, b1⟩
theorem j_callVl (C : CxOk g X cc own Ts nn fr lc) {y : MethodName} {ws ws' : List Cond} {bytes : ByteArray} {maxL : Nat} {ret : Option FieldType} {fr' lc' index : Nat} {oc oc' os' : List Od} {stk : List Value} {sh : Sh} {h : Nat → Nat} {o : Ob} {Cn : String} {T : u_T} {N : Nat} (As : List Value) {r : Int64} (hM : Ctr g y ws fr' lc' oc oc' (.ref (h 0) :: As) (some (.long r))) (is : List Nat) (hp : is.map (fun i => os[i]?) = oc.map some) (hnd : va_nd is = true) (hs : oc'.map shp = oc.map shp) (hpb : pb os is oc' = os') (j : Nat) (hj : os[j]? = some (sh, h, o)) (hc : vwCl[sh.1]? = some (Cn, T, N)) (hG : GoodIn Ts (wsV own index Cn y ws)) (hw : ws = Cond.code y bytes maxL ret :: ws') (n : Nat) (hn : As.length = n) (hdd : y.cls = Cn ∧ y.cls ≠ "java/lang/invoke/MethodHandle" ∧ y.cls ≠ "java/lang/invoke/VarHandle" ∧ (parseMethodDescriptor y.desc).map (fun d => d.parameters.length) = some n) (hR : fr' + 1 ≤ fr ∧ 8 + (maxL + 11) + lc' ≤ lc) (hst : (st.map fun v => v.category).sum ≤ 8) (hsk : stk = As.reverse ++ .ref (h 0) :: st) (hd : decode cc pc = .ok (.invokevirtual index, 3)) (k : JC g X nc ns os' (pc + 3) lv (.long r :: st)) : JC g X nc ns os pc lv stk := by
  obtain ⟨p, e, R, s, m, args, below, meth, c, A, nL, Q⟩ := X
  obtain ⟨hx, hb, hml, hown, hts, hK, hnn, hfr, hlc, hSK⟩ := C
  intro H locs ls hW hAp hF hL hl hnc hns
  subst hfr; subst hlc; subst hsk; subst hpb; subst hn
  have hF2 := wA.in hAp hp
  have hpre : ∀ U : State, U.heap = H → s.WarmedH U.vm → PreW g oc (.ref (h 0) :: As) ((.ref (h 0) :: As)).toArray U := fun U hU hWm => ⟨rfl, by rw [hU]; exact hW.pick hp, va_K.moved hWm.alike hK, hAp.pick hp hnd, hSK.to hF hU hWm hF2⟩
  have hrec : ∃ cellB : Cell, H[h 0]? = some cellB ∧ cellB.vm.isStatics = false ∧ s.vm.findClass Cn = some cellB.cls := by
    obtain ⟨⟨r0, h1, h2⟩, -⟩ := hW j _ hj
    have hr : r0 = (Cn, T, N) := Option.some.inj (h1.symm.trans hc)
    subst hr
    exact va_recv hK (obj_P (d := (sh, h, o)) h1 h2) hc (q0 := 0) rfl
  intro T0 hT X0
  obtain ⟨v, st₀, t, T', L, h0, X', hL2, e1, e2, ⟨hv, hw1, hz, hk⟩, stp⟩ := (va_runV (As := As) (rest := st) ⟨hx, hb, hml, hown, hts⟩ hM (cwV As.length hts hG hw rfl rfl hdd hR) ⟨PreW.blind g oc _, hrec, hpre⟩ rfl rfl hl.1 rfl (lv_room hst) hd ⟨hnc, hns⟩ : va_Run p g.1 e R s m args below meth c H locs nc ns 0 0 (F0 m pc ls (As.reverse ++ .ref (h 0) :: st)) st (PostW g oc oc' (some (.long r)) _) (wA oc)) T0 hT X0
  cases hv
  rw [h0] at hz hk
  obtain ⟨t2, a1, b1⟩ := k T'.heap (locs ++ L) ls (hW.back hAp hp hs (fun q hs hq => by rw [e1]; exact hk q hs hq) (by rw [e1]; exact hw1)) (hAp.back hp hs) ⟨Nat.le_trans hF.1 (by rw [e1]; exact hz), fun q hs hq => by rw [e1, hk q (Nat.lt_of_lt_of_le hs hF.1) (fun z => hq (hF2 q z))]; exact hF.2 q hs hq⟩ (fun q hq => by
    rcases List.mem_append.mp hq with h9 | h9
    · exact hL q h9
    · exact hF2 _ (hL2 q h9)) hl hnc hns T' rfl X'
  exact ⟨t2, stp t2 a1, b1⟩
theorem j_callSl (C : CxOk g X cc own Ts nn fr lc) {y : MethodName} {ws ws' : List Cond} {bytes : ByteArray} {maxL : Nat} {ret : Option FieldType} {fr' lc' index : Nat} {oc oc' os' : List Od} {stk : List Value} (As : List Value) {r : Int64} (hM : Ctr g y ws fr' lc' oc oc' As (some (.long r))) (is : List Nat) (hp : is.map (fun i => os[i]?) = oc.map some) (hnd : va_nd is = true) (hs : oc'.map shp = oc.map shp) (hpb : pb os is oc' = os') (hG : GoodIn Ts (va_wsS own index y ws)) (hw : ws = Cond.code y bytes maxL ret :: ws') (n : Nat) (hn : As.length = n) (hdd : y.cls ≠ "java/lang/invoke/MethodHandle" ∧ y.cls ≠ "java/lang/invoke/VarHandle" ∧ (parseMethodDescriptor y.desc).map (fun d => d.parameters.length) = some n) (hR : fr' + 1 ≤ fr ∧ 8 + (maxL + 11) + lc' ≤ lc) (hst : (st.map fun v => v.category).sum ≤ 8) (hsk : stk = As.reverse ++ st) (hd : decode cc pc = .ok (.invokestatic index, 3)) (k : JC g X nc ns os' (pc + 3) lv (.long r :: st)) : JC g X nc ns os pc lv stk := by
  obtain ⟨p, e, R, s, m, args, below, meth, c, A, nL, Q⟩ := X
  obtain ⟨hx, hb, hml, hown, hts, hK, hnn, hfr, hlc, hSK⟩ := C
  intro H locs ls hW hAp hF hL hl hnc hns
  subst hfr; subst hlc; subst hsk; subst hpb; subst hn
  have hF2 := wA.in hAp hp
  have hpre : ∀ U : State, U.heap = H → s.WarmedH U.vm → PreW g oc As (As).toArray U := fun U hU hWm => ⟨rfl, by rw [hU]; exact hW.pick hp, va_K.moved hWm.alike hK, hAp.pick hp hnd, hSK.to hF hU hWm hF2⟩
  have okw : ∀ w ∈ va_wsS own index y ws, w.before args s = true := fun w hw9 => hts w (hG w hw9).1
  intro T0 hT X0
  obtain ⟨v, st₀, t, T', L, h0, X', hL2, e1, e2, ⟨hv, hw1, hz, hk⟩, stp⟩ := (va_runS (As := As) (rest := st) ⟨hx, hb, hml, hown, hts⟩ hM ⟨callB_of As.length hts (fun w hw9 => hG w (List.mem_append_right _ hw9)) hw rfl rfl (okw _ (by simp [va_wsS])) (okw _ (by simp [va_wsS])) hdd hR, okw _ (by simp [va_wsS])⟩ ⟨PreW.blind g oc _, hpre⟩ rfl rfl hl.1 rfl (lv_room hst) hd ⟨hnc, hns⟩ : va_Run p g.1 e R s m args below meth c H locs nc ns 0 0 (F0 m pc ls (As.reverse ++ st)) st (PostW g oc oc' (some (.long r)) _) (wA oc)) T0 hT X0
  cases hv
  rw [h0] at hz hk
  obtain ⟨t2, a1, b1⟩ := k T'.heap (locs ++ L) ls (hW.back hAp hp hs (fun q hs hq => by rw [e1]; exact hk q hs hq) (by rw [e1]; exact hw1)) (hAp.back hp hs) ⟨Nat.le_trans hF.1 (by rw [e1]; exact hz), fun q hs hq => by rw [e1, hk q (Nat.lt_of_lt_of_le hs hF.1) (fun z => hq (hF2 q z))]; exact hF.2 q hs hq⟩ (fun q hq => by
    rcases List.mem_append.mp hq with h9 | h9
    · exact hL q h9
    · exact hF2 _ (hL2 q h9)) hl hnc hns T' rfl X'
  exact ⟨t2, stp t2 a1, b1⟩
theorem j_callTl (C : CxOk g X cc own Ts nn fr lc) {y : MethodName} {ws ws' : List Cond} {bytes : ByteArray} {maxL : Nat} {ret : Option FieldType} {fr' lc' index : Nat} {oc oc' os' : List Od} {stk : List Value} {i : Nat} (As : List Value) {r : Int64} (hM : Ctr g y ws fr' lc' oc oc' (.ref (gK g i) :: As) (some (.long r))) (is : List Nat) (hp : is.map (fun i => os[i]?) = oc.map some) (hnd : va_nd is = true) (hs : oc'.map shp = oc.map shp) (hpb : pb os is oc' = os') (hi : i < 2) (hG : GoodIn Ts (wsV own index "java/lang/String" y ws)) (hw : ws = Cond.code y bytes maxL ret :: ws') (n : Nat) (hn : As.length = n) (hdd : y.cls = "java/lang/String" ∧ y.cls ≠ "java/lang/invoke/MethodHandle" ∧ y.cls ≠ "java/lang/invoke/VarHandle" ∧ (parseMethodDescriptor y.desc).map (fun d => d.parameters.length) = some n) (hR : fr' + 1 ≤ fr ∧ 8 + (maxL + 11) + lc' ≤ lc) (hst : (st.map fun v => v.category).sum ≤ 8) (hsk : stk = As.reverse ++ .ref (gK g i) :: st) (hd : decode cc pc = .ok (.invokevirtual index, 3)) (k : JC g X nc ns os' (pc + 3) lv (.long r :: st)) : JC g X nc ns os pc lv stk := by
  obtain ⟨p, e, R, s, m, args, below, meth, c, A, nL, Q⟩ := X
  obtain ⟨hx, hb, hml, hown, hts, hK, hnn, hfr, hlc, hSK⟩ := C
  intro H locs ls hW hAp hF hL hl hnc hns
  subst hfr; subst hlc; subst hsk; subst hpb; subst hn
  have hF2 := wA.in hAp hp
  have hpre : ∀ U : State, U.heap = H → s.WarmedH U.vm → PreW g oc (.ref (gK g i) :: As) ((.ref (gK g i) :: As)).toArray U := fun U hU hWm => ⟨rfl, by rw [hU]; exact hW.pick hp, va_K.moved hWm.alike hK, hAp.pick hp hnd, hSK.to hF hU hWm hF2⟩
  have hrec : ∃ cellB : Cell, H[gK g i]? = some cellB ∧ cellB.vm.isStatics = false ∧ s.vm.findClass "java/lang/String" = some cellB.cls := by
    obtain ⟨cell, h1, h2, h3, -⟩ := (hSK.1.1 i hi).1.kept (H1 := H) (fun a hs ha => hF.2 a hs ha)
    exact ⟨cell, h1, h2, h3⟩
  intro T0 hT X0
  obtain ⟨v, st₀, t, T', L, h0, X', hL2, e1, e2, ⟨hv, hw1, hz, hk⟩, stp⟩ := (va_runV (As := As) (rest := st) ⟨hx, hb, hml, hown, hts⟩ hM (cwV As.length hts hG hw rfl rfl hdd hR) ⟨PreW.blind g oc _, hrec, hpre⟩ rfl rfl hl.1 rfl (lv_room hst) hd ⟨hnc, hns⟩ : va_Run p g.1 e R s m args below meth c H locs nc ns 0 0 (F0 m pc ls (As.reverse ++ .ref (gK g i) :: st)) st (PostW g oc oc' (some (.long r)) _) (wA oc)) T0 hT X0
  cases hv
  rw [h0] at hz hk
  obtain ⟨t2, a1, b1⟩ := k T'.heap (locs ++ L) ls (hW.back hAp hp hs (fun q hs hq => by rw [e1]; exact hk q hs hq) (by rw [e1]; exact hw1)) (hAp.back hp hs) ⟨Nat.le_trans hF.1 (by rw [e1]; exact hz), fun q hs hq => by rw [e1, hk q (Nat.lt_of_lt_of_le hs hF.1) (fun z => hq (hF2 q z))]; exact hF.2 q hs hq⟩ (fun q hq => by
    rcases List.mem_append.mp hq with h9 | h9
    · exact hL q h9
    · exact hF2 _ (hL2 q h9)) hl hnc hns T' rfl X'
  exact ⟨t2, stp t2 a1, b1⟩
theorem hSof {A : Nat → Prop} {H0 H : Heap} {locs : List Loc} (hF : Fr A H0 H) (hL : ∀ q ∈ locs, A q.base) : va_S A H0 H locs := ⟨hF.1, fun q hs hq => hF.2 q hs hq, hL⟩
theorem j_ldcS (C : CxOk g X cc own Ts nn fr lc) {tx : String} {index i : Nat} (hz : ∀ (A : Nat → Prop) (s : State), StrK g A s → vk_R own index tx (gK g i) s) (hd : decode cc pc = .ok (.ldc index, 2)) (k : JC g X nc ns os (pc + 2) lv (.ref (gK g i) :: st)) : JC g X nc ns os pc lv st := by
  obtain ⟨p, e, R, s, m, args, below, meth, c, A, nL, Q⟩ := X
  obtain ⟨hx, hb, hml, hown, hts, hK, hnn, hfr, hlc, hSK⟩ := C
  intro H locs ls hW hAp hF hL hl hnc hns
  exact va_ldcS hx hb hown (hz A s hSK) hd (k H locs ls hW hAp hF hL hl hnc hns)
theorem j_sval (C : CxOk g X cc own Ts nn fr lc) {index i : Nat} (hi : i < 2) (hm : Cond.fieldLink own index "java/lang/String" "value" "[B" ∈ Ts) (hd : decode cc pc = .ok (.getfield index, 3)) (k : JC g X nc ns os (pc + 3) lv (.ref (gV g i) :: st)) : JC g X nc ns os pc lv (.ref (gK g i) :: st) := by
  obtain ⟨p, e, R, s, m, args, below, meth, c, A, nL, Q⟩ := X
  obtain ⟨hx, hb, hml, hown, hts, hK, hnn, hfr, hlc, hSK⟩ := C
  intro H locs ls hW hAp hF hL hl hnc hns
  exact vk_getf hx hb (hSK.1.1 i hi).2.2.1 (hSof hF hL) hown (hts _ hm) (fun _ h => h) hd (k H locs ls hW hAp hF hL hl hnc hns)
theorem j_scod (C : CxOk g X cc own Ts nn fr lc) {index i : Nat} (hi : i < 2) (hm : Cond.fieldLink own index "java/lang/String" "coder" "B" ∈ Ts) (hd : decode cc pc = .ok (.getfield index, 3)) (k : JC g X nc ns os (pc + 3) lv (.int 0 :: st)) : JC g X nc ns os pc lv (.ref (gK g i) :: st) := by
  obtain ⟨p, e, R, s, m, args, below, meth, c, A, nL, Q⟩ := X
  obtain ⟨hx, hb, hml, hown, hts, hK, hnn, hfr, hlc, hSK⟩ := C
  intro H locs ls hW hAp hF hL hl hnc hns
  exact vk_getf hx hb (hSK.1.1 i hi).2.1 (hSof hF hL) hown (hts _ hm) (fun _ h => h) hd (k H locs ls hW hAp hF hL hl hnc hns)
theorem j_compact (C : CxOk g X cc own Ts nn fr lc) {index : Nat} (hm : Cond.fieldLink own index "java/lang/String" "COMPACT_STRINGS" "Z" ∈ Ts) (hd : decode cc pc = .ok (.getstatic index, 3)) (k : JC g X nc ns os (pc + 3) lv (.int 1 :: st)) : JC g X nc ns os pc lv st := by
  obtain ⟨p, e, R, s, m, args, below, meth, c, A, nL, Q⟩ := X
  obtain ⟨hx, hb, hml, hown, hts, hK, hnn, hfr, hlc, hSK⟩ := C
  intro H locs ls hW hAp hF hL hl hnc hns
  exact va_gets hx hb hSK.2.2.2.2.2.1 (hSof hF hL) hown (hts _ hm) (fun _ h => h) hd (k H locs ls hW hAp hF hL hl hnc hns)
theorem j_sioobe (C : CxOk g X cc own Ts nn fr lc) {index : Nat} (hm : Cond.fieldLink own index "jdk/internal/util/Preconditions" "SIOOBE_FORMATTER" "Ljava/util/function/BiFunction;" ∈ Ts) (hd : decode cc pc = .ok (.getstatic index, 3)) (k : ∀ v : Value, (v = .null ∨ ∃ t : Nat, v = .ref t) → JC g X nc ns os (pc + 3) lv (v :: st)) : JC g X nc ns os pc lv st := by
  obtain ⟨p, e, R, s, m, args, below, meth, c, A, nL, Q⟩ := X
  obtain ⟨hx, hb, hml, hown, hts, hK, hnn, hfr, hlc, hSK⟩ := C
  intro H locs ls hW hAp hF hL hl hnc hns
  rcases hSK.2.2.2.2.2.2.1 with hz | ⟨t, hz⟩
  · exact va_gets hx hb hz (hSof hF hL) hown (hts _ hm) (fun _ h => h) hd (k _ (Or.inl rfl) H locs ls hW hAp hF hL hl hnc hns)
  · exact va_gets hx hb hz (hSof hF hL) hown (hts _ hm) (fun _ h => h) hd (k _ (Or.inr ⟨t, rfl⟩) H locs ls hW hAp hF hL hl hnc hns)
theorem len2 {i : Nat} (hi : i < 2) : ([4, 4] : List Nat).getD i 0 = 4 := by
  rcases (show i = 0 ∨ i = 1 by omega) with rfl | rfl <;> rfl
theorem j_slen (C : CxOk g X cc own Ts nn fr lc) {i : Nat} (hi : i < 2) (hd : decode cc pc = .ok (.arraylength, 1)) (k : JC g X nc ns os (pc + 1) lv (.int 4 :: st)) : JC g X nc ns os pc lv (.ref (gV g i) :: st) := by
  obtain ⟨p, e, R, s, m, args, below, meth, c, A, nL, Q⟩ := X
  obtain ⟨hx, hb, hml, hown, hts, hK, hnn, hfr, hlc, hSK⟩ := C
  intro H locs ls hW hAp hF hL hl hnc hns
  exact va_tlen hx hb (hSK.1.1 i hi).2.2.2 (hSof hF hL) (by rw [len2 hi]; rfl) hd (k H locs ls hW hAp hF hL hl hnc hns)
theorem j_sbald (C : CxOk g X cc own Ts nn fr lc) {i : Nat} {x : Int32} (hi : i < 2) (hin : inb x 4) (hd : decode cc pc = .ok (.baload, 1)) (k : JC g X nc ns os (pc + 1) lv (.int ((strB.getD i []).getD x.toNatClampNeg 0) :: st)) : JC g X nc ns os pc lv (.int x :: .ref (gV g i) :: st) := by
  obtain ⟨p, e, R, s, m, args, below, meth, c, A, nL, Q⟩ := X
  obtain ⟨hx, hb, hml, hown, hts, hK, hnn, hfr, hlc, hSK⟩ := C
  intro H locs ls hW hAp hF hL hl hnc hns
  exact va_tb hx hb (hSK.1.1 i hi).2.2.2 (hSof hF hL) (by rw [len2 hi]; exact inb_in hin) rfl hd (k H locs ls hW hAp hF hL hl hnc hns)

/-- a contract out of a walk from pc 0 -/
theorem Ctr.of {y : MethodName} {ws ws' : List Cond} {maxL fr lc : Nat} {ret : Option FieldType} {os os' : List Od} {av : List Value} {rv : Option Value} (hy : plainName y.cls = true) (hw : ws = Cond.code y cc maxL ret :: ws') (hn : (lg_sl av).length ≤ maxL)
    (body : ∀ X : Cxt, CxOk g X cc y.cls ws maxL fr lc → RetOk g X os' rv ret → J g X os 0 (lv_args 0 av) []) : Ctr g y ws fr lc os os' av rv := by
  refine Met.ofW (cc := cc) (maxL := maxL) (ret := ret) hy hw ?_
  intro p e s m args below meth c s₁ B hml hv
  obtain ⟨rfl, hwd, hK, hAp, hSK⟩ := hv
  have hts := atoms_spec (ws := ws) B.pre
  have hown : s.vm.findClass y.cls = some m.cls := findClass_of_methodNamed B.named
  rw [lg_entry_eq]
  exact body (p, e, _, s, m, av.toArray, below, meth, c, wA os, maxL, _) ⟨B.exec, B.bytes, hml, hown, hts, hK, rfl, rfl, rfl, hSK⟩ ⟨PostW g os os' rv, wA os, rfl, fun _ h => h, fun t h1 _ h3 => ⟨rfl, h1, h3⟩, B.returns, B.notSynchronized⟩ s.heap [] _ hwd hAp.self Fr.rf (fun q hq => by cases hq) (lv_entry av hn) (Nat.zero_le _) (Nat.zero_le _)
end JR
