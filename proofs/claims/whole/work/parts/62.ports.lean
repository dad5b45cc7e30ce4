/-! the reference's vanish, meets, sortOf, layPorts -/
theorem sA_self (o : Ob) (k i : Nat) : sA o k i (oA o k i) = o := by
  unfold sA
  have : upd (oA o k) i (oA o k i) = oA o k := by
    funext j
    unfold upd
    by_cases c : j = i
    · rw [if_pos c, c]
    · rw [if_neg c]
  rw [this]
  exact sR_self o k
theorem RMw_wv {b : Nat} {o : Ob} {w : Wr} (h : RMw b o w) {p : Port} (hp : vm p) : RMw b (ms b o p (jI (-1))) (wv p w) := by
  refine ⟨fun r q hr => ?_, fun i hi hr => ?_⟩
  · unfold wv at hr
    by_cases e : r = p
    · rw [if_pos e] at hr; cases hr
    · rw [if_neg e] at hr
      obtain ⟨h1, h2, h3⟩ := h.1 r q hr
      exact ⟨h1, h2, by rw [ma_ms hp h1, if_neg e]; exact h3⟩
  · have hv : vm (i, 3) := Or.inr ⟨rfl, hi⟩
    have conv : ∀ o : Ob, oA o 2 (8 * b + i) = ma b o (i, 3) := fun o => by unfold ma; rw [if_pos rfl]
    rw [conv, ma_ms hp hv]
    by_cases e : (i, 3) = p
    · rw [if_pos e]
    · rw [if_neg e, ← conv]
      unfold wv at hr
      rw [if_neg e] at hr
      exact h.2 i hi hr
theorem ma_k0 {b : Nat} {o : Ob} {i : Nat} {v : Int32} (p : Port) {k : Nat} (h1 : k ≠ 1) (h2 : k ≠ 2) : ma b (sA o k i v) p = ma b o p := by
  unfold ma
  by_cases c : p.2 = 3
  · rw [if_pos c, if_pos c, oA_sA, if_neg (fun z => h2 z.1.symm)]
  · rw [if_neg c, if_neg c, oA_sA, if_neg (fun z => h1 z.1.symm)]
theorem RMw_k0 {b : Nat} {o : Ob} {w : Wr} (h : RMw b o w) {k i : Nat} {v : Int32} (h1 : k ≠ 1) (h2 : k ≠ 2) : RMw b (sA o k i v) w := by
  refine ⟨fun p q hp => ?_, fun j hj hp => ?_⟩
  · rw [ma_k0 p h1 h2]; exact h.1 p q hp
  · rw [oA_sA, if_neg (fun z => h2 z.1.symm)]; exact h.2 j hj hp
theorem RMk_ms {b : Nat} {o : Ob} {K : Kd} (h : RMk b o K) (p : Port) (v : Int32) : RMk b (ms b o p v) K := by
  refine ⟨fun n hn => ?_, h.2.1, h.2.2⟩
  rw [ms_o (by omega) (by omega)]
  exact h.1 n hn
theorem RMk_k {b : Nat} {o : Ob} {K : Kd} (h : RMk b o K) {k i : Nat} {v : Int32} (hk : k ≠ 0) : RMk b (sA o k i v) K := by
  refine ⟨fun n hn => ?_, h.2.1, h.2.2⟩
  rw [oA_sA, if_neg (fun z => hk z.1.symm)]
  exact h.1 n hn
theorem Fm_sc {b : Nat} {o : Ob} {k i : Nat} {v : Int32} (h : 13 ≤ k ∧ k ≤ 17) : Fm b o (sA o k i v) := by
  refine ⟨fun j _ => ?_, fun j _ => ?_, fun j _ => ?_, fun j _ => ?_, fun k' h1 h2 => ?_, fun _ => rfl, fun _ => rfl⟩
  · rw [oA_sA, if_neg (by omega)]
  · rw [oA_sA, if_neg (by omega)]
  · rw [oA_sA, if_neg (by omega)]
  · rw [oA_sA, if_neg (by omega)]
  · funext j; rw [oA_sA, if_neg (by omega)]
theorem Fm_k0 {b : Nat} {o : Ob} {i : Nat} {v : Int32} (h : i < 180) : Fm b o (sA o 0 (180 * b + i) v) := by
  refine ⟨fun j hj => ?_, fun j _ => ?_, fun j _ => ?_, fun j _ => ?_, fun k' h1 h2 => ?_, fun _ => rfl, fun _ => rfl⟩
  · rw [oA_sA, if_neg (by omega)]
  · rw [oA_sA, if_neg (by omega)]
  · rw [oA_sA, if_neg (by omega)]
  · rw [oA_sA, if_neg (by omega)]
  · funext j; rw [oA_sA, if_neg (by omega)]
/-- a node gone in the reference: its three places too -/
def w3 (n : Nat) (w : Wr) : Wr := wv (n, 2) (wv (n, 1) (wv (n, 0) w))
section MV
variable {b : Nat} {o : Ob} {K : Kd} {w : Wr}
theorem m_vanish (hb : b < 4) (h4 : oV o 4 = jI b) (hK : RMk b o K) (hW : RMw b o w) {n : Nat} (hn : n < 180) : ∃ o', FX7_vanish (jI n) o = some o' ∧ RMk b o' (ku K n none) ∧ RMw b o' (w3 n w) ∧ Fm b o o' ∧ ∀ k, 3 ≤ k → oA o' k = oA o k := by
  have v0 : vm (n, 0) := Or.inl ⟨by omega, hn⟩
  have v1 : vm (n, 1) := Or.inl ⟨by omega, hn⟩
  have v2 : vm (n, 2) := Or.inl ⟨by omega, hn⟩
  have f0 : Fm b o (sA o 0 (180 * b + n) (jI (-1))) := Fm_k0 hn
  refine ⟨ms b (ms b (ms b (sA o 0 (180 * b + n) (jI (-1))) (n, 0) (jI (-1))) (n, 1) (jI (-1))) (n, 2) (jI (-1)), ?_, ?_, ?_, ?_, ?_⟩
  · have st : ∀ (i : Nat) (f : Nat) (u : Ob), i < 3 → oV u 4 = jI b → LX7_vanish_20 (jI n) (f + 1) (jI ((3 * n + i : Nat))) u = LX7_vanish_20 (jI n) f (jI ((3 * n + i + 1 : Nat))) (ms b u (n, i) (jI (-1))) := by
      intro i f u hi hu
      rw [LX7_vanish_20.eq_2]
      have e1 : ((3 : Int32) * jI n + (3 : Int32)) = jI ((3 * n + 3 : Nat)) := by rw [j_3, jI_mul, jI_add]; rfl
      have e2 : ((540 : Int32) * oV u 4 + jI ((3 * n + i : Nat))) = jI ((540 * b + 3 * n + i : Nat)) := by rw [hu, j_540, jI_mul, jI_add]; congr 1; omega
      rw [e1, e2]
      have e3 : ms b u (n, i) (jI (-1)) = sA u 1 (540 * b + 3 * n + i) (jI (-1)) := by
        unfold ms
        rw [if_neg (by simp only; omega)]
      rw [e3]
      have e4 : jI ((3 * n + i : Nat)) + 1 = jI ((3 * n + i + 1 : Nat)) := jI_p1 _
      rw [if_neg (by rw [jI_le (by omega) (by omega) (by omega) (by omega)]; omega), if_pos (by rw [jI_inb (by omega) (by omega)]; omega), lT_eq, lT_eq, e4, jI_cl (by omega) (by omega), Int.toNat_natCast]
      rfl
    unfold FX7_vanish
    have e0 : ((180 : Int32) * oV o 4 + jI n) = jI ((180 * b + n : Nat)) := by rw [h4, j_180, jI_mul, jI_add]; rfl
    rw [e0, if_pos (by rw [jI_inb (by omega) (by omega)]; omega), lT_eq, lT_eq, jI_cl (by omega) (by omega), Int.toNat_natCast]
    have e1 : (3 : Int32) * jI n = jI ((3 * n + 0 : Nat)) := by rw [j_3, jI_mul]; rfl
    rw [e1, show fu = 4996 + 1 + 1 + 1 + 1 from rfl, j_m1, st 0 _ (sA o 0 (180 * b + n) (jI (-1))) (by omega) h4, show 3 * n + 0 + 1 = 3 * n + 1 from rfl, st 1 _ _ (by omega) (by rw [ms_v]; exact h4), show 3 * n + 1 + 1 = 3 * n + 2 from rfl, st 2 _ _ (by omega) (by rw [ms_v, ms_v]; exact h4), LX7_vanish_20.eq_2]
    have e5 : ((3 : Int32) * jI n + (3 : Int32)) = jI ((3 * n + 3 : Nat)) := by rw [j_3, jI_mul, jI_add]; rfl
    rw [e5, if_pos (by rw [jI_le (by omega) (by omega) (by omega) (by omega)]; omega)]
  · refine RMk_ms (RMk_ms (RMk_ms ?_ _ _) _ _) _ _
    refine ⟨fun m hm => ?_, fun m hm => ?_, fun m k hk => ?_⟩
    · rw [oA_sA]
      unfold ku
      by_cases c : m = n
      · subst c
        rw [if_pos ⟨rfl, rfl⟩, if_pos rfl]
        rfl
      · rw [if_neg (by omega), if_neg c]
        exact hK.1 m hm
    · unfold ku
      rw [if_neg (by omega)]
      exact hK.2.1 m hm
    · unfold ku at hk
      by_cases c : m = n
      · rw [if_pos c] at hk; cases hk
      · rw [if_neg c] at hk; exact hK.2.2 m k hk
  · exact RMw_wv (RMw_wv (RMw_wv (RMw_k0 hW (by omega) (by omega)) v0) v1) v2
  · exact Fm_tr (Fm_tr (Fm_tr f0 (Fm_ms v0)) (Fm_ms v1)) (Fm_ms v2)
  · intro k hk
    rw [ms_o (by omega) (by omega), ms_o (by omega) (by omega), ms_o (by omega) (by omega)]
    funext i
    rw [oA_sA, if_neg (by omega)]
theorem m_meets (hb : b < 4) (h4 : oV o 4 = jI b) (hW : RMw b o w) {n : Nat} {q : Port} (hn : n < 180) (hq : w (n, 0) = some q) : FX7_meets (jI n) o = some (jI (if q.2 = 0 then (q.1 : Int) else -1)) := by
  obtain ⟨h1, h2, h3⟩ := hW.1 _ _ hq
  have e0 : (3 : Int32) * jI n = jI (mp (n, 0)) := by
    rw [j_3, jI_mul]
    unfold mp
    rw [if_neg (by simp only; omega)]
    rfl
  have hl := mp_lt h2
  unfold FX7_meets FX7_within
  rw [e0, m_at hb h4 h1, b1_some, h3]
  obtain ⟨m, s⟩ := q
  rcases h2 with ⟨c, d⟩ | ⟨c, d⟩
  · simp only at c d
    have em : mp (m, s) = 3 * m + s := by unfold mp; rw [if_neg (by simp only; omega)]
    rw [em] at hl ⊢
    simp (disch := omega) only [jI_rem3, jI_div3, j_0, j_1, j_2, j_3, j_4, j_5, j_6, j_7, j_8, j_10, j_16, j_31, j_32, j_39, j_60, j_80, j_126, j_180, j_539, j_540, j_900, j_999, j_1000, j_2000, jI_neg, jI_ofNat, jI_add, jI_sub, jI_mul, jI_lt, jI_le, jI_eq, jI_inb, jI_cl, Int.toNat_natCast, if_pos, if_neg, lT_eq, b1_some, b2_some, b3_some]
    by_cases z : s = 0
    · subst z
      rw [if_pos (by omega)]
      simp only [if_true]
      rw [show ((3 * m + 0 : Nat) : Int) / 3 = m from by omega]
    · rw [if_neg (by omega)]
      simp only [if_neg z]
  · simp only at c d
    subst c
    have em : mp (m, 3) = 900 + m := rfl
    rw [em] at hl ⊢
    simp (disch := omega) only [j_0, j_1, j_2, j_3, j_4, j_5, j_6, j_7, j_8, j_10, j_16, j_31, j_32, j_39, j_60, j_80, j_126, j_180, j_539, j_540, j_900, j_999, j_1000, j_2000, jI_neg, jI_ofNat, jI_add, jI_sub, jI_mul, jI_lt, jI_le, jI_eq, jI_inb, jI_cl, Int.toNat_natCast, if_pos, if_neg, lT_eq, b1_some, b2_some, b3_some]
    rw [if_pos trivial]
theorem m_sortOf (hb : b < 4) (h4 : oV o 4 = jI b) (hK : RMk b o K) (hW : RMw b o w) {x y kx ky : Nat} (hx : K x = some kx) (hy : K y = some ky) (hx2 : x < 180) (hy2 : y < 180) (hq : w (x, 0) = some (y, 0)) : FX7_sortOf (jI x) o = some (jI (sortS kx ky)) := by
  have a := hK.2.2 x kx hx
  have c := hK.2.2 y ky hy
  unfold FX7_sortOf
  rw [m_kindOf hb h4 hK hx2, b1_some, m_meets hb h4 hW hx2 hq, b1_some, if_pos rfl, m_kindOf hb h4 hK hy2, b1_some, hx, hy]
  unfold sortS kI
  simp (disch := omega) only [j_0, j_1, j_2, j_3, j_4, j_5, j_6, j_7, j_8, j_10, j_16, j_31, j_32, j_39, j_60, j_80, j_126, j_180, j_539, j_540, j_900, j_999, j_1000, j_2000, jI_neg, jI_ofNat, jI_add, jI_sub, jI_mul, jI_lt, jI_le, jI_eq, jI_inb, jI_cl, Int.toNat_natCast, if_pos, if_neg, lT_eq, b1_some, b2_some, b3_some]
  by_cases c1 : kx = ky
  · rw [if_pos (by omega), if_pos c1]; rfl
  · rw [if_neg (by omega), if_neg c1]
    by_cases c2 : kx = 0
    · rw [if_pos (by omega), if_pos (Or.inl c2)]; rfl
    · rw [if_neg (by omega)]
      by_cases c3 : ky = 0
      · rw [if_pos (by omega), if_pos (Or.inr c3)]; rfl
      · rw [if_neg (by omega), if_neg (by omega)]; rfl
/-! layPorts -/
def PP (x y k : Nat) : Port := (if k < 2 then x else y, 1 + k % 2)
theorem PP_vm {x y k : Nat} (hx : x < 180) (hy : y < 180) : vm (PP x y k) := by
  unfold PP vm
  simp only
  by_cases c : k < 2
  · rw [if_pos c]; exact Or.inl ⟨by omega, hx⟩
  · rw [if_neg c]; exact Or.inl ⟨by omega, hy⟩
/-- what inside comes to for a value that stands at a port -/
def inn (v : Int32) (q : Nat → Int32) : Nat → Int32
  | 0 => jI (-1)
  | e + 1 => if v = q e ∧ v ≠ jI (-1) then jI e else inn v q e
theorem m_layIn (k : Nat) (hk : k < 4) (E : Ob → Option Ob) : ∀ (d e f : Nat) (u : Ob), e + d = 4 → d < f → oA u 15 k = inn (oA u 14 k) (fun e => oA u 13 e) e → ∃ u', LX7_layPorts_77 (jI k) E f (jI e) u = E u' ∧ u' = sA u 15 k (inn (oA u 14 k) (fun e => oA u 13 e) 4) := by
  intro d
  induction d with
  | zero =>
    intro e f u he hf hi
    obtain ⟨f, rfl⟩ : ∃ f', f = f' + 1 := ⟨f - 1, by omega⟩
    have e4 : e = 4 := by omega
    subst e4
    refine ⟨u, ?_, ?_⟩
    · rw [LX7_layPorts_77.eq_2, j_4, if_pos (by rw [jI_le (by omega) (by omega) (by omega) (by omega)]; omega)]
    · rw [← hi, sA_self]
  | succ d ih =>
    intro e f u he hf hi
    obtain ⟨f, rfl⟩ : ∃ f', f = f' + 1 := ⟨f - 1, by omega⟩
    rw [LX7_layPorts_77.eq_2, j_4, if_neg (by rw [jI_le (by omega) (by omega) (by omega) (by omega)]; omega), if_pos (by rw [jI_inb (by omega) (by omega)]; omega), if_pos (by rw [jI_inb (by omega) (by omega)]; omega)]
    simp only [lT_eq, jI_cl (show (-2147483648 : Int) ≤ (k : Int) by omega) (show (k : Int) < 2147483648 by omega), jI_cl (show (-2147483648 : Int) ≤ (e : Int) by omega) (show (e : Int) < 2147483648 by omega), Int.toNat_natCast, sA_self]
    have nx : jI (e : Int) + 1 = jI ((e + 1 : Nat)) := jI_p1 e
    rw [nx]
    have same : ∀ v : Int32, oA (sA u 15 k v) 14 k = oA u 14 k ∧ (fun e => oA (sA u 15 k v) 13 e) = fun e => oA u 13 e := fun v => ⟨by rw [oA_sA, if_neg (by omega)], by funext e; rw [oA_sA, if_neg (by omega)]⟩
    by_cases c1 : oA u 14 k = oA u 13 e
    · rw [if_pos c1]
      by_cases c2 : oA u 14 k = (-1 : Int32)
      · rw [if_pos c2]
        exact ih (e + 1) f u (by omega) (by omega) (by
          rw [hi]
          show _ = if _ then _ else _
          rw [if_neg (fun z => z.2 c2)])
      · rw [if_neg c2]
        obtain ⟨u', h1, h2⟩ := ih (e + 1) f (sA u 15 k (jI e)) (by omega) (by omega) (by
          rw [(same _).1, (same _).2, oA_sA, if_pos ⟨rfl, rfl⟩]
          show _ = if _ then _ else _
          rw [if_pos ⟨c1, c2⟩])
        refine ⟨u', h1, ?_⟩
        rw [h2, (same _).1, (same _).2]
        unfold sA
        rw [oA_sR, sR_sR]
        congr 1
        funext j
        unfold upd
        by_cases z : j = k
        · rw [if_pos z, if_pos z]
        · rw [if_neg z, if_neg z, if_neg z]
    · rw [if_neg c1]
      exact ih (e + 1) f u (by omega) (by omega) (by
        rw [hi]
        show _ = if _ then _ else _
        rw [if_neg (fun z => c1 z.1)])
/-- layPorts, as it leaves the reference's scratch -/
theorem m_layPorts (hb : b < 4) (h4 : oV o 4 = jI b) {x y : Nat} (hx : x < 180) (hy : y < 180) : ∃ u, FX7_layPorts (jI x) (jI y) o = some u ∧ (∀ k, k < 4 → oA u 14 k = ma b o (PP x y k) ∧ oA u 16 k = 0 ∧ oA u 15 k = inn (ma b o (PP x y k)) (fun e => jI (mp (PP x y e))) 4) ∧ Fm b o u ∧ (∀ p, ma b u p = ma b o p) ∧ (∀ k, k < 13 → oA u k = oA o k) ∧ oA u 17 = oA o 17 := by
  have st : ∀ (k f : Nat) (E : Ob → Option Ob) (u : Ob), k < 4 → oV u 4 = jI b → LX7_layPorts_2 (jI x) (jI y) E (f + 1) (jI k) u = LX7_layPorts_2 (jI x) (jI y) E f (jI ((k + 1 : Nat))) (sA (sA (sA u 13 k (jI (mp (PP x y k)))) 14 k (ma b u (PP x y k))) 16 k 0) := by
    intro k f E u hk hu
    have hv : vm (PP x y k) := PP_vm hx hy
    have hu1 : oV (sA u 13 k (jI (mp (PP x y k)))) 4 = jI b := hu
    have em : ∀ z : Nat, (z = if k < 2 then x else y) → ((3 : Int32) * jI z + (1 : Int32)) + (jI k - jI k / (2 : Int32) * (2 : Int32)) = jI (mp (PP x y k)) := by
      intro z hz
      have r2 : jI (k : Int) - jI (k : Int) / jI 2 * jI 2 = jI ((k % 2 : Nat)) := by
        have := pk_rem (a := k) (d := 2) (by omega) (by omega) (by omega)
        exact this
      rw [j_3, j_1, j_2, r2, jI_mul, jI_add, jI_add]
      unfold mp PP
      rw [if_neg (by simp only; omega)]
      congr 1
      simp only [← hz]
      omega
    have kc : (jI (k : Int)).toNatClampNeg = k := by rw [jI_cl (by omega) (by omega), Int.toNat_natCast]
    have ki : inb (jI (k : Int)) 4 := by rw [jI_inb (by omega) (by omega)]; omega
    have nx : jI (k : Int) + 1 = jI ((k + 1 : Nat)) := jI_p1 k
    have nb : vp_nar .boolean (0 : Int32) = 0 := rfl
    rw [LX7_layPorts_2.eq_2, j_4, if_neg (by rw [jI_le (by omega) (by omega) (by omega) (by omega)]; omega)]
    by_cases c : k < 2
    · rw [if_neg (by rw [j_2, jI_le (by omega) (by omega) (by omega) (by omega)]; omega)]
      unfold BX7_layPorts_23
      rw [if_pos ki, lT_eq, kc, em x (by rw [if_pos c]), if_pos ki, oA_sA, if_pos ⟨rfl, rfl⟩, m_at hb hu1 hv, b1_some, lT_eq, lT_eq, lT_eq, nx, nb, ma_k0 _ (by omega) (by omega)]
    · rw [if_pos (by rw [j_2, jI_le (by omega) (by omega) (by omega) (by omega)]; omega)]
      unfold BX7_layPorts_23
      rw [if_pos ki, lT_eq, kc, em y (by rw [if_neg c]), if_pos ki, oA_sA, if_pos ⟨rfl, rfl⟩, m_at hb hu1 hv, b1_some, lT_eq, lT_eq, lT_eq, nx, nb, ma_k0 _ (by omega) (by omega)]
  have st2 : ∀ (k f : Nat) (u : Ob), k < 4 → LX7_layPorts_62 (f + 1) (jI k) u = LX7_layPorts_62 f (jI ((k + 1 : Nat))) (sA (sA u 15 k (jI (-1))) 15 k (inn (oA u 14 k) (fun e => oA u 13 e) 4)) := by
    intro k f u hk
    have kc : (jI (k : Int)).toNatClampNeg = k := by rw [jI_cl (by omega) (by omega), Int.toNat_natCast]
    have ki : inb (jI (k : Int)) 4 := by rw [jI_inb (by omega) (by omega)]; omega
    have nx : jI (k : Int) + 1 = jI ((k + 1 : Nat)) := jI_p1 k
    rw [LX7_layPorts_62.eq_2, j_4, if_neg (by rw [jI_le (by omega) (by omega) (by omega) (by omega)]; omega), if_pos ki, lT_eq, kc, j_0, j_m1]
    obtain ⟨u', h1, h2⟩ := m_layIn k hk (fun o0_36 => lT (jI (k : Int) + (1 : Int32)) fun x3_37 => LX7_layPorts_62 f x3_37 o0_36) 4 0 fu (sA u 15 k (jI (-1))) (by omega) (by rw [fu_eq]; omega) (by rw [oA_sA, if_pos ⟨rfl, rfl⟩]; rfl)
    rw [show jI ((0 : Nat) : Int) = jI 0 from rfl] at h1
    rw [h1, h2, lT_eq, nx, oA_sA, if_neg (by omega)]
    congr 3
  let p1 : Ob → Nat → Ob := fun u k => sA (sA (sA u 13 k (jI (mp (PP x y k)))) 14 k (ma b u (PP x y k))) 16 k 0
  let p2 : Ob → Nat → Ob := fun u k => sA (sA u 15 k (jI (-1))) 15 k (inn (oA u 14 k) (fun e => oA u 13 e) 4)
  have m1 : ∀ u k p, ma b (p1 u k) p = ma b u p := fun u k p => by
    show ma b (sA (sA (sA u 13 k _) 14 k _) 16 k _) p = _
    rw [ma_k0 p (by omega) (by omega), ma_k0 p (by omega) (by omega), ma_k0 p (by omega) (by omega)]
  have m2 : ∀ u k p, ma b (p2 u k) p = ma b u p := fun u k p => by
    show ma b (sA (sA u 15 k _) 15 k _) p = _
    rw [ma_k0 p (by omega) (by omega), ma_k0 p (by omega) (by omega)]
  have a13 : ∀ u k j, oA (p1 u k) 13 j = if j = k then jI (mp (PP x y k)) else oA u 13 j := fun u k j => by
    show oA (sA (sA (sA u 13 k _) 14 k _) 16 k _) 13 j = _
    rw [oA_sA, if_neg (by omega), oA_sA, if_neg (by omega), oA_sA]
    by_cases c : j = k
    · rw [if_pos ⟨rfl, c⟩, if_pos c]
    · rw [if_neg (fun z => c z.2), if_neg c]
  have a14 : ∀ u k j, oA (p1 u k) 14 j = if j = k then ma b u (PP x y k) else oA u 14 j := fun u k j => by
    show oA (sA (sA (sA u 13 k _) 14 k _) 16 k _) 14 j = _
    rw [oA_sA, if_neg (by omega), oA_sA]
    by_cases c : j = k
    · rw [if_pos ⟨rfl, c⟩, if_pos c]
    · rw [if_neg (fun z => c z.2), if_neg c, oA_sA, if_neg (by omega)]
  have a16 : ∀ u k j, oA (p1 u k) 16 j = if j = k then 0 else oA u 16 j := fun u k j => by
    show oA (sA (sA (sA u 13 k _) 14 k _) 16 k _) 16 j = _
    rw [oA_sA]
    by_cases c : j = k
    · rw [if_pos ⟨rfl, c⟩, if_pos c]
    · rw [if_neg (fun z => c z.2), if_neg c, oA_sA, if_neg (by omega), oA_sA, if_neg (by omega)]
  have aO : ∀ u k q, q ≠ 13 → q ≠ 14 → q ≠ 16 → oA (p1 u k) q = oA u q := fun u k q h1 h2 h3 => by
    funext j
    show oA (sA (sA (sA u 13 k _) 14 k _) 16 k _) q j = _
    rw [oA_sA, if_neg (fun z => h3 z.1), oA_sA, if_neg (fun z => h2 z.1), oA_sA, if_neg (fun z => h1 z.1)]
  have b15 : ∀ u k j, oA (p2 u k) 15 j = if j = k then inn (oA u 14 k) (fun e => oA u 13 e) 4 else oA u 15 j := fun u k j => by
    show oA (sA (sA u 15 k _) 15 k _) 15 j = _
    rw [oA_sA]
    by_cases c : j = k
    · rw [if_pos ⟨rfl, c⟩, if_pos c]
    · rw [if_neg (fun z => c z.2), if_neg c, oA_sA, if_neg (fun z => c z.2)]
  have bO : ∀ u k q, q ≠ 15 → oA (p2 u k) q = oA u q := fun u k q h1 => by
    funext j
    show oA (sA (sA u 15 k _) 15 k _) q j = _
    rw [oA_sA, if_neg (fun z => h1 z.1), oA_sA, if_neg (fun z => h1 z.1)]
  have f1 : ∀ u k, Fm b u (p1 u k) := fun u k => Fm_tr (Fm_tr (Fm_sc (by omega)) (Fm_sc (by omega))) (Fm_sc (by omega))
  have f2 : ∀ u k, Fm b u (p2 u k) := fun u k => Fm_tr (Fm_sc (by omega)) (Fm_sc (by omega))
  have v1 : ∀ u k q, oV (p1 u k) q = oV u q := fun _ _ _ => rfl
  have innE : ∀ (v : Int32) (q q' : Nat → Int32), (∀ e, e < 4 → q e = q' e) → inn v q 4 = inn v q' 4 := by
    intro v q q' hq
    simp only [inn, hq 0 (by omega), hq 1 (by omega), hq 2 (by omega), hq 3 (by omega)]
  have st' : ∀ (k f : Nat) (E : Ob → Option Ob) (u : Ob), k < 4 → oV u 4 = jI b → LX7_layPorts_2 (jI x) (jI y) E (f + 1) (jI k) u = LX7_layPorts_2 (jI x) (jI y) E f (jI ((k + 1 : Nat))) (p1 u k) := st
  have st2' : ∀ (k f : Nat) (u : Ob), k < 4 → LX7_layPorts_62 (f + 1) (jI k) u = LX7_layPorts_62 f (jI ((k + 1 : Nat))) (p2 u k) := st2
  generalize p1 = p1 at m1 a13 a14 a16 aO f1 v1 st'
  generalize p2 = p2 at m2 b15 bO f2 st2'
  refine ⟨p2 (p2 (p2 (p2 (p1 (p1 (p1 (p1 o 0) 1) 2) 3) 0) 1) 2) 3, ?_, fun k hk => ?_, ?_, fun p => ?_, fun k hk => ?_, ?_⟩
  · unfold FX7_layPorts
    rw [show (0 : Int32) = jI ((0 : Nat) : Int) from rfl, show fu = 4995 + 1 + 1 + 1 + 1 + 1 from rfl, st' 0 _ _ _ (by omega) h4, st' 1 _ _ _ (by omega) (by rw [v1]; exact h4), st' 2 _ _ _ (by omega) (by rw [v1, v1]; exact h4), st' 3 _ _ _ (by omega) (by rw [v1, v1, v1]; exact h4), LX7_layPorts_2.eq_2, if_pos (by rw [j_4, jI_le (by omega) (by omega) (by omega) (by omega)]; omega)]
    rw [st2' 0 _ _ (by omega), st2' 1 _ _ (by omega), st2' 2 _ _ (by omega), st2' 3 _ _ (by omega), LX7_layPorts_62.eq_2, if_pos (by rw [j_4, jI_le (by omega) (by omega) (by omega) (by omega)]; omega)]
  · have e13 : ∀ e, e < 4 → oA (p1 (p1 (p1 (p1 o 0) 1) 2) 3) 13 e = jI (mp (PP x y e)) := by
      intro e he
      rw [a13, a13, a13, a13]
      rcases (show e = 0 ∨ e = 1 ∨ e = 2 ∨ e = 3 by omega) with rfl | rfl | rfl | rfl <;> simp
    have e14 : ∀ e, e < 4 → oA (p1 (p1 (p1 (p1 o 0) 1) 2) 3) 14 e = ma b o (PP x y e) := by
      intro e he
      rw [a14, a14, a14, a14, m1, m1, m1, m1, m1, m1]
      rcases (show e = 0 ∨ e = 1 ∨ e = 2 ∨ e = 3 by omega) with rfl | rfl | rfl | rfl <;> simp
    have e16 : ∀ e, e < 4 → oA (p1 (p1 (p1 (p1 o 0) 1) 2) 3) 16 e = 0 := by
      intro e he
      rw [a16, a16, a16, a16]
      rcases (show e = 0 ∨ e = 1 ∨ e = 2 ∨ e = 3 by omega) with rfl | rfl | rfl | rfl <;> simp
    generalize p1 (p1 (p1 (p1 o 0) 1) 2) 3 = u at e13 e14 e16
    refine ⟨?_, ?_, ?_⟩
    · rw [bO _ _ _ (by omega), bO _ _ _ (by omega), bO _ _ _ (by omega), bO _ _ _ (by omega)]; exact e14 k hk
    · rw [bO _ _ _ (by omega), bO _ _ _ (by omega), bO _ _ _ (by omega), bO _ _ _ (by omega)]; exact e16 k hk
    · have gen : ∀ v : Int32, inn v (fun e => oA u 13 e) 4 = inn v (fun e => jI (mp (PP x y e))) 4 := fun v => innE v _ _ e13
      rw [b15, b15, b15, b15]
      simp only [bO _ _ 13 (by omega), bO _ _ 14 (by omega), gen]
      rcases (show k = 0 ∨ k = 1 ∨ k = 2 ∨ k = 3 by omega) with rfl | rfl | rfl | rfl <;> simp [e14]
  · exact Fm_tr (Fm_tr (Fm_tr (Fm_tr (Fm_tr (Fm_tr (Fm_tr (f1 _ _) (f1 _ _)) (f1 _ _)) (f1 _ _)) (f2 _ _)) (f2 _ _)) (f2 _ _)) (f2 _ _)
  · rw [m2, m2, m2, m2, m1, m1, m1, m1]
  · rw [bO _ _ _ (by omega), bO _ _ _ (by omega), bO _ _ _ (by omega), bO _ _ _ (by omega), aO _ _ _ (by omega) (by omega) (by omega), aO _ _ _ (by omega) (by omega) (by omega), aO _ _ _ (by omega) (by omega) (by omega), aO _ _ _ (by omega) (by omega) (by omega)]
  · rw [bO _ _ _ (by omega), bO _ _ _ (by omega), bO _ _ _ (by omega), bO _ _ _ (by omega), aO _ _ _ (by omega) (by omega) (by omega), aO _ _ _ (by omega) (by omega) (by omega), aO _ _ _ (by omega) (by omega) (by omega), aO _ _ _ (by omega) (by omega) (by omega)]
end MV
