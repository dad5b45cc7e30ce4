/-! THE REFERENCE: what slot b of it holds of a net -/
def mp (q : Port) : Nat := if q.2 = 3 then 900 + q.1 else 3 * q.1 + q.2
def vm (p : Port) : Prop := (p.2 < 3 ∧ p.1 < 180) ∨ (p.2 = 3 ∧ p.1 < 8)
def ma (b : Nat) (o : Ob) (p : Port) : Int32 := if p.2 = 3 then oA o 2 (8 * b + p.1) else oA o 1 (540 * b + 3 * p.1 + p.2)
def ms (b : Nat) (o : Ob) (p : Port) (v : Int32) : Ob := if p.2 = 3 then sA o 2 (8 * b + p.1) v else sA o 1 (540 * b + 3 * p.1 + p.2) v
def RMk (b : Nat) (o : Ob) (K : Kd) : Prop := (∀ n, n < 180 → oA o 0 (180 * b + n) = jI (kI (K n))) ∧ (∀ n, 180 ≤ n → K n = none) ∧ ∀ n k, K n = some k → k ≤ 3
def RMw (b : Nat) (o : Ob) (w : Wr) : Prop := (∀ p q, w p = some q → vm p ∧ vm q ∧ ma b o p = jI (mp q)) ∧ ∀ i, i < 8 → w (i, 3) = none → oA o 2 (8 * b + i) = jI (-1)
/-- what a turn in slot b leaves: the other slots, all that isn't its scratch -/
def Fm (b : Nat) (o o' : Ob) : Prop := (∀ i, ¬ (180 * b ≤ i ∧ i < 180 * b + 180) → oA o' 0 i = oA o 0 i) ∧ (∀ i, ¬ (540 * b ≤ i ∧ i < 540 * b + 540) → oA o' 1 i = oA o 1 i) ∧ (∀ i, ¬ (8 * b ≤ i ∧ i < 8 * b + 8) → oA o' 2 i = oA o 2 i) ∧ (∀ i, i ≠ b → oA o' 3 i = oA o 3 i) ∧ (∀ k, 3 < k → ¬ (13 ≤ k ∧ k ≤ 17) → oA o' k = oA o k) ∧ (∀ k, oV o' k = oV o k) ∧ ∀ k, oL o' k = oL o k
theorem Fm_rf (b : Nat) (o : Ob) : Fm b o o := ⟨fun _ _ => rfl, fun _ _ => rfl, fun _ _ => rfl, fun _ _ => rfl, fun _ _ _ => rfl, fun _ => rfl, fun _ => rfl⟩
theorem Fm_tr {b : Nat} {o o' o'' : Ob} (h : Fm b o o') (h' : Fm b o' o'') : Fm b o o'' :=
  ⟨fun i hi => (h'.1 i hi).trans (h.1 i hi), fun i hi => (h'.2.1 i hi).trans (h.2.1 i hi), fun i hi => (h'.2.2.1 i hi).trans (h.2.2.1 i hi), fun i hi => (h'.2.2.2.1 i hi).trans (h.2.2.2.1 i hi), fun k h1 h2 => (h'.2.2.2.2.1 k h1 h2).trans (h.2.2.2.2.1 k h1 h2), fun k => (h'.2.2.2.2.2.1 k).trans (h.2.2.2.2.2.1 k), fun k => (h'.2.2.2.2.2.2 k).trans (h.2.2.2.2.2.2 k)⟩
theorem mp_lt {p : Port} (h : vm p) : mp p < 540 ∨ (900 ≤ mp p ∧ mp p < 908) := by
  unfold mp
  rcases h with ⟨h1, h2⟩ | ⟨h1, h2⟩
  · rw [if_neg (by omega)]; omega
  · rw [if_pos h1]; omega
theorem mp_inj {p q : Port} (h : vm p) (h' : vm q) (e : mp p = mp q) : p = q := by
  obtain ⟨a, b⟩ := p
  obtain ⟨c, d⟩ := q
  unfold mp at e
  unfold vm at h h'
  simp only at e h h'
  have : a = c ∧ b = d := by
    by_cases h1 : b = 3 <;> by_cases h2 : d = 3
    · simp only [h1, h2, if_true] at e; omega
    · simp only [h1, h2, if_true, if_false] at e; omega
    · simp only [h1, h2, if_true, if_false] at e; omega
    · simp only [h1, h2, if_false] at e; omega
  rw [this.1, this.2]
theorem ma_ms {b : Nat} {o : Ob} {p q : Port} {v : Int32} (hp : vm p) (hq : vm q) : ma b (ms b o p v) q = if q = p then v else ma b o q := by
  obtain ⟨n, s⟩ := p
  obtain ⟨m, t⟩ := q
  unfold vm at hp hq
  simp only at hp hq
  by_cases e : (m, t) = (n, s)
  · rw [if_pos e]
    cases e
    unfold ma ms
    by_cases c : s = 3
    · rw [if_pos c, if_pos c, oA_sA, if_pos ⟨rfl, rfl⟩]
    · rw [if_neg c, if_neg c, oA_sA, if_pos ⟨rfl, rfl⟩]
  · rw [if_neg e]
    have hne : m ≠ n ∨ t ≠ s := by
      by_cases c : m = n
      · by_cases d : t = s
        · exact absurd (by rw [c, d]) e
        · exact Or.inr d
      · exact Or.inl c
    unfold ma ms
    by_cases c : s = 3 <;> by_cases d : t = 3
    · rw [if_pos d, if_pos c, oA_sA, if_neg (by simp only; omega), if_pos d]
    · rw [if_neg d, if_pos c, oA_sA, if_neg (by simp only; omega), if_neg d]
    · rw [if_pos d, if_neg c, oA_sA, if_neg (by simp only; omega), if_pos d]
    · rw [if_neg d, if_neg c, oA_sA, if_neg (by simp only; omega), if_neg d]
theorem ms_o {b : Nat} {o : Ob} {p : Port} {v : Int32} {k : Nat} (h1 : k ≠ 1) (h2 : k ≠ 2) : oA (ms b o p v) k = oA o k := by
  unfold ms
  by_cases c : p.2 = 3
  · rw [if_pos c]; funext i; rw [oA_sA, if_neg (fun z => h2 z.1)]
  · rw [if_neg c]; funext i; rw [oA_sA, if_neg (fun z => h1 z.1)]
theorem ms_v {b : Nat} {o : Ob} {p : Port} {v : Int32} {k : Nat} : oV (ms b o p v) k = oV o k := by
  unfold ms
  by_cases c : p.2 = 3
  · rw [if_pos c]; rfl
  · rw [if_neg c]; rfl
theorem Fm_ms {b : Nat} {o : Ob} {p : Port} {v : Int32} (hp : vm p) : Fm b o (ms b o p v) := by
  refine ⟨fun i hi => ?_, fun i hi => ?_, fun i hi => ?_, fun i hi => ?_, fun k h1 h2 => ms_o (by omega) (by omega), fun k => ms_v, fun k => ?_⟩
  · rw [ms_o (by omega) (by omega)]
  · unfold ms
    rcases hp with ⟨c, d⟩ | ⟨c, d⟩
    · rw [if_neg (by omega), oA_sA, if_neg (by omega)]
    · rw [if_pos c, oA_sA, if_neg (by omega)]
  · unfold ms
    rcases hp with ⟨c, d⟩ | ⟨c, d⟩
    · rw [if_neg (by omega), oA_sA, if_neg (by omega)]
    · rw [if_pos c, oA_sA, if_neg (by omega)]
  · rw [ms_o (by omega) (by omega)]
  · unfold ms
    by_cases c : p.2 = 3
    · rw [if_pos c]; rfl
    · rw [if_neg c]; rfl
section MR
variable {b : Nat} {o : Ob} {K : Kd} {w : Wr}
theorem m_kindOf (hb : b < 4) (h4 : oV o 4 = jI b) (h : RMk b o K) {n : Nat} (hn : n < 180) : FX7_kindOf (jI n) o = some (jI (kI (K n))) := by
  unfold FX7_kindOf
  rw [h4]
  have e : (jI 180 * jI (b : Int) + jI (n : Int)) = jI ((180 * b + n : Nat)) := by
    rw [jI_mul, jI_add]; rfl
  rw [j_180, e]
  simp (disch := omega) only [j_0, j_1, j_2, j_3, j_4, j_5, j_6, j_7, j_8, j_10, j_16, j_31, j_32, j_39, j_60, j_80, j_126, j_180, j_539, j_540, j_900, j_999, j_1000, j_2000, jI_neg, jI_ofNat, jI_add, jI_sub, jI_mul, jI_lt, jI_le, jI_eq, jI_inb, jI_cl, Int.toNat_natCast, if_pos, if_neg, lT_eq, b1_some, b2_some, b3_some]
  rw [h.1 n hn]
theorem m_at (hb : b < 4) (h4 : oV o 4 = jI b) {p : Port} (hp : vm p) : FX7_at (jI (mp p)) o = some (ma b o p) := by
  unfold FX7_at ma mp
  rw [h4]
  rcases hp with ⟨c, d⟩ | ⟨c, d⟩
  · have c3 : ¬ p.2 = 3 := by omega
    simp only [if_neg c3]
    have e : (jI 540 * jI (b : Int) + jI ((3 * p.1 + p.2 : Nat) : Int)) = jI ((540 * b + 3 * p.1 + p.2 : Nat)) := by
      rw [jI_mul, jI_add]; congr 1; omega
    rw [j_540, e]
    simp (disch := omega) only [j_0, j_1, j_2, j_3, j_4, j_5, j_6, j_7, j_8, j_10, j_16, j_31, j_32, j_39, j_60, j_80, j_126, j_180, j_539, j_540, j_900, j_999, j_1000, j_2000, jI_neg, jI_ofNat, jI_add, jI_sub, jI_mul, jI_lt, jI_le, jI_eq, jI_inb, jI_cl, Int.toNat_natCast, if_pos, if_neg, lT_eq, b1_some, b2_some, b3_some]
  · simp only [if_pos c]
    have e : (jI 8 * jI (b : Int) + jI ((900 + p.1 : Nat) : Int) - jI 900) = jI ((8 * b + p.1 : Nat)) := by
      rw [jI_mul, jI_add, jI_sub]; congr 1; omega
    rw [j_8, j_900, e]
    simp (disch := omega) only [j_0, j_1, j_2, j_3, j_4, j_5, j_6, j_7, j_8, j_10, j_16, j_31, j_32, j_39, j_60, j_80, j_126, j_180, j_539, j_540, j_900, j_999, j_1000, j_2000, jI_neg, jI_ofNat, jI_add, jI_sub, jI_mul, jI_lt, jI_le, jI_eq, jI_inb, jI_cl, Int.toNat_natCast, if_pos, if_neg, lT_eq, b1_some, b2_some, b3_some]
theorem m_set (hb : b < 4) (h4 : oV o 4 = jI b) {p : Port} (hp : vm p) (v : Int32) : FX7_set (jI (mp p)) v o = some (ms b o p v) := by
  unfold FX7_set ms mp
  rw [h4]
  rcases hp with ⟨c, d⟩ | ⟨c, d⟩
  · have c3 : ¬ p.2 = 3 := by omega
    simp only [if_neg c3]
    have e : (jI 540 * jI (b : Int) + jI ((3 * p.1 + p.2 : Nat) : Int)) = jI ((540 * b + 3 * p.1 + p.2 : Nat)) := by
      rw [jI_mul, jI_add]; congr 1; omega
    rw [j_540, e]
    simp (disch := omega) only [j_0, j_1, j_2, j_3, j_4, j_5, j_6, j_7, j_8, j_10, j_16, j_31, j_32, j_39, j_60, j_80, j_126, j_180, j_539, j_540, j_900, j_999, j_1000, j_2000, jI_neg, jI_ofNat, jI_add, jI_sub, jI_mul, jI_lt, jI_le, jI_eq, jI_inb, jI_cl, Int.toNat_natCast, if_pos, if_neg, lT_eq, b1_some, b2_some, b3_some]
  · simp only [if_pos c]
    have e : (jI 8 * jI (b : Int) + jI ((900 + p.1 : Nat) : Int) - jI 900) = jI ((8 * b + p.1 : Nat)) := by
      rw [jI_mul, jI_add, jI_sub]; congr 1; omega
    rw [j_8, j_900, e]
    simp (disch := omega) only [j_0, j_1, j_2, j_3, j_4, j_5, j_6, j_7, j_8, j_10, j_16, j_31, j_32, j_39, j_60, j_80, j_126, j_180, j_539, j_540, j_900, j_999, j_1000, j_2000, jI_neg, jI_ofNat, jI_add, jI_sub, jI_mul, jI_lt, jI_le, jI_eq, jI_inb, jI_cl, Int.toNat_natCast, if_pos, if_neg, lT_eq, b1_some, b2_some, b3_some]
theorem m_wire (hb : b < 4) (h4 : oV o 4 = jI b) {p q : Port} (hp : vm p) (hq : vm q) : FX7_wire (jI (mp p)) (jI (mp q)) o = some (ms b (ms b o p (jI (mp q))) q (jI (mp p))) := by
  unfold FX7_wire
  rw [m_set hb h4 hp, b1_some, m_set hb (by rw [ms_v]; exact h4) hq, b1_some]
theorem RMw_wl (h : RMw b o w) {p q : Port} (hp : vm p) (hq : vm q) (hpq : p ≠ q) : RMw b (ms b (ms b o p (jI (mp q))) q (jI (mp p))) (wl p q w) := by
  refine ⟨fun r s hr => ?_, fun i hi hr => ?_⟩
  · unfold wl at hr
    by_cases e : r = q
    · subst e
      rw [if_pos rfl] at hr
      cases hr
      exact ⟨hq, hp, by rw [ma_ms hq hq, if_pos rfl]⟩
    · rw [if_neg e] at hr
      by_cases e2 : r = p
      · subst e2
        rw [if_pos rfl] at hr
        cases hr
        exact ⟨hp, hq, by rw [ma_ms hq hp, if_neg e, ma_ms hp hp, if_pos rfl]⟩
      · rw [if_neg e2] at hr
        obtain ⟨h1, h2, h3⟩ := h.1 r s hr
        exact ⟨h1, h2, by rw [ma_ms hq h1, if_neg e, ma_ms hp h1, if_neg e2]; exact h3⟩
  · unfold wl at hr
    have hv : vm (i, 3) := Or.inr ⟨rfl, hi⟩
    have conv : ∀ o : Ob, oA o 2 (8 * b + i) = ma b o (i, 3) := fun o => by unfold ma; rw [if_pos rfl]
    by_cases e : (i, 3) = q
    · rw [if_pos e] at hr; cases hr
    · rw [if_neg e] at hr
      by_cases e2 : (i, 3) = p
      · rw [if_pos e2] at hr; cases hr
      · rw [if_neg e2] at hr
        rw [conv, ma_ms hq hv, if_neg e, ma_ms hp hv, if_neg e2, ← conv]
        exact h.2 i hi hr
theorem m_madeLoop (hb : b < 4) (h4 : oV o 4 = jI b) (h : RMk b o K) (x1 : Int32) (E : Int32 → Option (Int32 × Ob)) {n0 : Nat} (hn : n0 < 180) (hl : lf K n0) : ∀ (d i f : Nat), i + d = n0 → d < f → LX7_made_2 x1 o E f (jI i) = E (jI n0) := by
  intro d
  induction d with
  | zero =>
    intro i f hi hf
    have e : i = n0 := by omega
    subst e
    obtain ⟨f, rfl⟩ : ∃ f', f = f' + 1 := ⟨f - 1, by omega⟩
    rw [LX7_made_2.eq_2, m_kindOf hb h4 h hn, b1_some, hl.1]
    exact if_pos rfl
  | succ d ih =>
    intro i f hi hf
    obtain ⟨f, rfl⟩ : ∃ f', f = f' + 1 := ⟨f - 1, by omega⟩
    have hk := hl.2 i (by omega)
    have k0 := kI_ne hk
    have k1 : kI (K i) ≤ 3 := by
      obtain ⟨k, hk2⟩ := some_of hk
      have := h.2.2 i k hk2
      rw [hk2]; unfold kI; simp only; omega
    rw [LX7_made_2.eq_2, m_kindOf hb h4 h (by omega), b1_some, if_neg (by rw [j_m1, jI_eq (by omega) (by omega) (by omega) (by omega)]; omega), lT_eq, j_1, jI_add]
    exact ih (i + 1) f (by omega) (by omega)
theorem m_made (hb : b < 4) (h4 : oV o 4 = jI b) (h : RMk b o K) {n0 k : Nat} (hn : n0 < 180) (hl : lf K n0) (hk : k ≤ 3) : FX7_made (jI k) o = some (jI n0, sA o 0 (180 * b + n0) (jI k)) ∧ RMk b (sA o 0 (180 * b + n0) (jI k)) (ku K n0 (some k)) := by
  refine ⟨?_, fun n hn2 => ?_, fun n hn2 => ?_, fun n k' hk' => ?_⟩
  · unfold FX7_made
    rw [j_0]
    have e := m_madeLoop hb h4 h (jI k) (fun x2_6 => if inb ((180 : Int32) * (oV o 4) + x2_6) 720 then lT (sA o 0 ((180 : Int32) * (oV o 4) + x2_6).toNatClampNeg (jI k)) fun o0_9 => some (x2_6, o0_9) else none) hn hl n0 0 fu (by omega) (by rw [fu_eq]; omega)
    rw [show jI ((0 : Nat) : Int) = jI 0 from rfl] at e
    rw [e, h4]
    have e2 : (jI 180 * jI (b : Int) + jI (n0 : Int)) = jI ((180 * b + n0 : Nat)) := by
      rw [jI_mul, jI_add]; rfl
    rw [j_180, e2]
    simp (disch := omega) only [j_0, j_1, j_2, j_3, j_4, j_5, j_6, j_7, j_8, j_10, j_16, j_31, j_32, j_39, j_60, j_80, j_126, j_180, j_539, j_540, j_900, j_999, j_1000, j_2000, jI_neg, jI_ofNat, jI_add, jI_sub, jI_mul, jI_lt, jI_le, jI_eq, jI_inb, jI_cl, Int.toNat_natCast, if_pos, if_neg, lT_eq, b1_some, b2_some, b3_some]
  · rw [oA_sA]
    unfold ku
    by_cases c : n = n0
    · subst c
      rw [if_pos ⟨rfl, rfl⟩, if_pos rfl]
      rfl
    · rw [if_neg (by omega), if_neg c]
      exact h.1 n hn2
  · unfold ku
    rw [if_neg (by omega)]
    exact h.2.1 n hn2
  · unfold ku at hk'
    by_cases c : n = n0
    · rw [if_pos c] at hk'
      cases hk'
      exact hk
    · rw [if_neg c] at hk'
      exact h.2.2 n k' hk'
end MR
