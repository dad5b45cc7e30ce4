/-! READINGS: a machine with a stack says what a reading is -/
abbrev It : Type := Sum Nat Port
abbrev RS : Type := (Port → Option Nat) × Nat × List Nat
def opn (k : Nat) : Nat := if k = 0 then 42 else if k = 1 then 40 else if k = 2 then 91 else 123
def clo (k : Nat) : Nat := if k = 1 then 41 else if k = 2 then 93 else 125
/-- telling a wire by its name -/
def rnm (p q : Port) (s : RS) : RS := match s.1 p with
  | some k => (s.1, s.2.1, s.2.2 ++ [97 + k])
  | none => (fun r => if r = p ∨ r = q then some s.2.1 else s.1 r, s.2.1 + 1, s.2.2 ++ [97 + s.2.1])
def rput (c : Nat) (s : RS) : RS := (s.1, s.2.1, s.2.2 ++ [c])
def rd1 (K : Kd) (w : Wr) (i : It) (s : RS) : List It × RS := match i with
  | .inl c => ([], rput c s)
  | .inr p => match w p with
    | none => ([], s)
    | some q => if q.2 = 0 then (match K q.1 with
        | none => ([], s)
        | some k => if k = 0 then ([], rput 42 s) else ([.inr (q.1, 1), .inr (q.1, 2), .inl (clo k)], rput (opn k) s))
      else ([], rnm p q s)
def rdL (K : Kd) (w : Wr) : Nat → List It → RS → Option RS
  | _, [], s => some s
  | 0, _ :: _, _ => none
  | f + 1, i :: st, s => rdL K w f ((rd1 K w i s).1 ++ st) (rd1 K w i s).2
def rdW (K : Kd) (w : Wr) (f : Nat) : Nat → Nat → RS → Option RS
  | 0, _, s => some s
  | d + 1, i, s => if w (i, 3) = none then rdW K w f d (i + 1) s else match rdL K w f [.inr (i, 3), .inl 59] s with
    | none => none
    | some s' => rdW K w f d (i + 1) s'
def ports : List It → List Port
  | [] => []
  | .inl _ :: st => ports st
  | .inr p :: st => p :: ports st
/-- brackets -/
def isB (K : Kd) (n : Nat) : Prop := ∃ k, K n = some (k + 1)
/-- what holds while a tree is told: places looked from, brackets told, how many trees were begun -/
def RI (K : Kd) (w : Wr) (t : Nat) (st : List It) (s : RS) (X : List Port) (V : List Nat) : Prop :=
  (∀ p, p ∈ ports st → p ∉ X) ∧ (ports st).Nodup ∧ (∀ n, n ∈ V → ∃ p, p ∈ X ∧ w p = some (n, 0)) ∧ (∀ p, p ∈ X ∨ p ∈ ports st → (p.2 = 3 ∧ p.1 < t) ∨ (p.1 ∈ V ∧ (p.2 = 1 ∨ p.2 = 2))) ∧ V.Nodup ∧ (∀ n, n ∈ V → isB K n) ∧ s.2.2.length + st.length ≤ 2 * t + 3 * V.length ∧ st.length ≤ 2 + 2 * V.length ∧ (∀ p, p ∈ ports st → w p ≠ none)
theorem rput_len (c : Nat) (s : RS) : (rput c s).2.2.length = s.2.2.length + 1 := by unfold rput; simp
theorem rnm_len (p q : Port) (s : RS) : (rnm p q s).2.2.length = s.2.2.length + 1 := by
  unfold rnm
  cases s.1 p <;> simp
section RIS
variable {K : Kd} {w : Wr} {t : Nat} {st : List It} {s : RS} {X : List Port} {V : List Nat}
theorem RI_code {c : Nat} (h : RI K w t (.inl c :: st) s X V) : RI K w t st (rput c s) X V := by
  obtain ⟨h1, h2, h3, h4, h5, h6, h7, h8, h9⟩ := h
  refine ⟨h1, h2, h3, h4, h5, h6, ?_, ?_, h9⟩
  · rw [rput_len]; simp only [List.length_cons] at h7; omega
  · simp only [List.length_cons] at h8; omega
/-- a leaf -/
theorem RI_leaf {p : Port} {s' : RS} (h : RI K w t (.inr p :: st) s X V) (hs : s'.2.2.length = s.2.2.length + 1) : RI K w t st s' (p :: X) V := by
  obtain ⟨h1, h2, h3, h4, h5, h6, h7, h8, h9⟩ := h
  have e : ports (.inr p :: st) = p :: ports st := rfl
  rw [e] at h1 h2 h4 h9
  have nd := List.nodup_cons.mp h2
  refine ⟨fun q hq hx => ?_, nd.2, fun n hn => ?_, fun q hq => ?_, h5, h6, ?_, ?_, fun q hq => h9 q (List.mem_cons_of_mem p hq)⟩
  · rcases List.mem_cons.mp hx with c | c
    · exact nd.1 (c ▸ hq)
    · exact h1 q (List.mem_cons_of_mem p hq) c
  · obtain ⟨q, a, b⟩ := h3 n hn
    exact ⟨q, List.mem_cons_of_mem p a, b⟩
  · rcases hq with c | c
    · rcases List.mem_cons.mp c with c | c
      · exact h4 q (Or.inr (by rw [c]; exact List.mem_cons_self ..))
      · exact h4 q (Or.inl c)
    · exact h4 q (Or.inr (List.mem_cons_of_mem p c))
  · rw [hs]; simp only [List.length_cons] at h7; omega
  · simp only [List.length_cons] at h8; omega
/-- a bracket -/
theorem RI_node (hF : WF K w) {p : Port} {n k : Nat} {s' : RS} {c : Nat} (h : RI K w t (.inr p :: st) s X V) (hw : w p = some (n, 0)) (hk : K n = some (k + 1)) (hs : s'.2.2.length = s.2.2.length + 1) : RI K w t (.inr (n, 1) :: .inr (n, 2) :: .inl c :: st) s' (p :: X) (n :: V) := by
  have hM := hF.1
  obtain ⟨h1, h2, h3, h4, h5, h6, h7, h8, h9⟩ := h
  have e : ports (.inr p :: st) = p :: ports st := rfl
  have e' : ports (.inr (n, 1) :: .inr (n, 2) :: .inl c :: st) = (n, 1) :: (n, 2) :: ports st := rfl
  rw [e] at h1 h2 h4 h9
  rw [RI, e']
  have nd := List.nodup_cons.mp h2
  have pin : p ∈ p :: ports st := List.mem_cons_self ..
  -- it was not told before
  have nV : n ∉ V := fun hn => by
    obtain ⟨q, a, b⟩ := h3 n hn
    have e1 := (hM _ _ b).1
    have e2 := (hM _ _ hw).1
    rw [e2] at e1
    exact h1 p pin (by rw [Option.some.inj e1]; exact a)
  have inV : ∀ q, q ∈ X ∨ q ∈ p :: ports st → q.1 = n → q.2 = 3 := fun q hq e => by
    rcases h4 q hq with c | c
    · exact c.1
    · exact absurd (e ▸ c.1) nV
  refine ⟨fun q hq hx => ?_, ?_, fun m hm => ?_, fun q hq => ?_, List.nodup_cons.mpr ⟨nV, h5⟩, fun m hm => ?_, ?_, ?_, fun q hq => ?_⟩
  · have new : ∀ s, s < 3 → ((n, s) : Port) ∉ p :: X := fun s hs hmem => by
      have : ((n, s) : Port) ∈ X ∨ ((n, s) : Port) ∈ p :: ports st := by
        rcases List.mem_cons.mp hmem with c | c
        · exact Or.inr (by rw [c]; exact pin)
        · exact Or.inl c
      have := inV _ this rfl
      simp only at this
      omega
    rcases List.mem_cons.mp hq with c | c
    · rw [c] at hx; exact new 1 (by omega) hx
    · rcases List.mem_cons.mp c with c | c
      · rw [c] at hx; exact new 2 (by omega) hx
      · rcases List.mem_cons.mp hx with d | d
        · exact nd.1 (d ▸ c)
        · exact h1 q (List.mem_cons_of_mem p c) d
  · refine List.nodup_cons.mpr ⟨fun hm => ?_, List.nodup_cons.mpr ⟨fun hm => ?_, nd.2⟩⟩
    · rcases List.mem_cons.mp hm with c | c
      · have := congrArg Prod.snd c; simp at this
      · have := inV _ (Or.inr (List.mem_cons_of_mem p c)) rfl; simp at this
    · have := inV _ (Or.inr (List.mem_cons_of_mem p hm)) rfl; simp at this
  · rcases List.mem_cons.mp hm with c | c
    · exact ⟨p, List.mem_cons_self .., by rw [c]; exact hw⟩
    · obtain ⟨q, a, b⟩ := h3 m c
      exact ⟨q, List.mem_cons_of_mem p a, b⟩
  · have old : (q ∈ X ∨ q ∈ p :: ports st) → (q.2 = 3 ∧ q.1 < t) ∨ (q.1 ∈ n :: V ∧ (q.2 = 1 ∨ q.2 = 2)) := fun hq => by
      rcases h4 q hq with c | c
      · exact Or.inl c
      · exact Or.inr ⟨List.mem_cons_of_mem n c.1, c.2⟩
    rcases hq with c | c
    · rcases List.mem_cons.mp c with c | c
      · exact old (Or.inr (by rw [c]; exact pin))
      · exact old (Or.inl c)
    · rcases List.mem_cons.mp c with c | c
      · rw [c]; exact Or.inr ⟨List.mem_cons_self .., Or.inl rfl⟩
      · rcases List.mem_cons.mp c with c | c
        · rw [c]; exact Or.inr ⟨List.mem_cons_self .., Or.inr rfl⟩
        · exact old (Or.inr (List.mem_cons_of_mem p c))
  · rcases List.mem_cons.mp hm with c | c
    · rw [c]; exact ⟨k, hk⟩
    · exact h6 m c
  · rw [hs]; simp only [List.length_cons] at h7 ⊢; omega
  · simp only [List.length_cons] at h8 ⊢; omega
  · have oc := WF_to hF n
    rcases List.mem_cons.mp hq with c | c
    · rw [c]; exact oc.2.1.mpr ⟨k, hk⟩
    · rcases List.mem_cons.mp c with c | c
      · rw [c]; exact oc.2.2.mpr ⟨k, hk⟩
      · exact h9 q (List.mem_cons_of_mem p c)
theorem nodup_lt : ∀ (m : Nat) (V : List Nat), V.Nodup → (∀ n, n ∈ V → n < m) → V.length ≤ m := by
  intro m
  induction m with
  | zero =>
    intro V _ hl
    cases V with
    | nil => exact Nat.le_refl 0
    | cons x l => have := hl x (List.mem_cons_self ..); omega
  | succ m ih =>
    intro V hn hl
    have h := ih (V.erase m) (hn.erase m) (fun n hn' => by
      have h1 := (List.Nodup.mem_erase_iff hn).mp hn'
      have h2 := hl n h1.2
      have h3 := h1.1
      omega)
    rw [List.length_erase] at h
    split at h <;> omega
end RIS
