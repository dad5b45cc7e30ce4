/-! what is told of a node -/
section CA
variable {n : Nat} {M : Nat → Ob} {o : Ob}
theorem node_told {N N' : Nt} {t hi s s' l : Nat} {cs : Nat → Nat} (h : Bq n M o N N' t hi s s' l cs) {m k v : Nat} (hk : N.1 m = some k) (hv : v < 5) : ∃ r, FX6_toldOfNode (jI m) (jI v) M = some r ∧ FX7_nodeNow (jI m) (jI v) o = some (r, o) := by
  have hms := Bq_MS h
  have hF := h.1.1.1
  have hbd := RGr_bd h.1.2.1
  have hm : m < 60 := by
    rcases Nat.lt_or_ge m 60 with c | c
    · exact c
    · rw [hbd m c] at hk; cases hk
  have hG := h.1.2.1
  obtain ⟨T, t0, gK, gW, -⟩ := h.1.2.1
  have k3 := gK.2.2.2.2 m k hk
  have c1 : FX2_kindOf 60 (jI m) (M 3) = some (jI k) := by rw [s_kindOf (by omega) gK m (by omega), hk]; rfl
  have r1 : FX7_kindOf (jI m) o = some (jI k) := by rw [m_kindOf (b := 0) (by omega) hms.1 hms.2.1 (by omega), hk]; rfl
  have oc := WF_to hF m
  obtain ⟨q0, hq0⟩ := some_of (oc.1.mpr (by rw [hk]; exact fun z => by cases z))
  have plc : ∀ w : Nat, w < 3 → (w = 0 ∨ k ≠ 0) → ∃ q, N.2.1 (m, w) = some q := fun w hw hwk => by
    rcases (show w = 0 ∨ w = 1 ∨ w = 2 by omega) with rfl | rfl | rfl
    · exact ⟨q0, hq0⟩
    · exact some_of (oc.2.1.mpr ⟨k - 1, by rw [hk]; congr 1; omega⟩)
    · exact some_of (oc.2.2.mpr ⟨k - 1, by rw [hk]; congr 1; omega⟩)
  have cb : ∀ w q, w < 3 → N.2.1 (m, w) = some q → BX6_toldOfNode_42 (jI m) (jI ((w + 1 : Nat))) M = some (jI (mp q)) := fun w q hw hq => by
    unfold BX6_toldOfNode_42
    rw [show jI ((w + 1 : Nat) : Int) - (1 : Int32) = jI (w : Int) from by rw [j_1, jI_sub]; congr 1; omega, s_port_cp hw, b1_some, told (by omega) hF hG hq, b1_some]
  have pl : ∀ w q, w < 3 → N.2.1 (m, w) = some q → FX7_at (((3 : Int32) * jI (m : Int)) + jI (w : Int)) o = some (jI (mp q)) := fun w q hw hq => by
    rw [show ((3 : Int32) * jI (m : Int)) + jI (w : Int) = jI (mp (m, w)) from by rw [j_3, jI_mul, jI_add]; unfold mp; rw [if_neg (by simp only; omega)]; rfl]
    exact m_told (by omega) hms hq
  have rb : ∀ w q, w < 3 → (w = 0 ∨ k ≠ 0) → N.2.1 (m, w) = some q → BX7_nodeNow_46 (jI m) (jI ((w + 1 : Nat))) o = some (jI (mp q), o) := fun w q hw hwk hq => by
    unfold BX7_nodeNow_46 FX7_placeTold
    rw [show jI ((w + 1 : Nat) : Int) - (1 : Int32) = jI (w : Int) from by rw [j_1, jI_sub]; congr 1; omega, pl w q hw hq]
    by_cases w0 : w = 0
    · rw [if_pos (by rw [j_0, jI_le (by omega) (by omega) (by omega) (by omega)]; omega), b1_some, b1_some]
    · rw [if_neg (by rw [j_0, jI_le (by omega) (by omega) (by omega) (by omega)]; omega), r1, b1_some, if_neg (by rw [j_0, jI_eq (by omega) (by omega) (by omega) (by omega)]; omega), b1_some, b1_some]
  rcases (show v = 0 ∨ v = 1 ∨ v = 2 ∨ v = 3 ∨ v = 4 by omega) with rfl | rfl | rfl | rfl | rfl
  · exact ⟨jI k, by unfold FX6_toldOfNode; rw [c1, b1_some, if_pos (by rfl)], by unfold FX7_nodeNow; rw [if_pos (by rfl), r1, b1_some]⟩
  · refine ⟨jI (mp q0), ?_, ?_⟩
    · unfold FX6_toldOfNode
      rw [c1, b1_some, if_neg (by decide), if_neg (by decide)]
      by_cases k0 : k = 0
      · rw [if_pos (by rw [k0]; rfl), if_pos (by decide)]; exact cb 0 q0 (by omega) hq0
      · rw [if_neg (by rw [j_0, jI_eq (by omega) (by omega) (by omega) (by omega)]; omega)]; exact cb 0 q0 (by omega) hq0
    · unfold FX7_nodeNow
      rw [if_neg (by decide), if_pos (by rfl)]
      exact rb 0 q0 (by omega) (Or.inl rfl) hq0
  · by_cases k0 : k = 0
    · refine ⟨-1, ?_, ?_⟩
      · unfold FX6_toldOfNode
        rw [c1, b1_some, if_neg (by decide), if_neg (by decide), if_pos (by rw [k0]; rfl), if_neg (by decide)]
      · unfold FX7_nodeNow BX7_nodeNow_46 FX7_placeTold
        rw [if_neg (by decide), if_neg (by decide), if_pos (by rfl), if_neg (by decide), r1, b1_some, if_pos (by rw [k0]; rfl), b1_some]
    · obtain ⟨q, hq⟩ := plc 1 (by omega) (Or.inr k0)
      refine ⟨jI (mp q), ?_, ?_⟩
      · unfold FX6_toldOfNode
        rw [c1, b1_some, if_neg (by decide), if_neg (by decide), if_neg (by rw [j_0, jI_eq (by omega) (by omega) (by omega) (by omega)]; omega)]
        exact cb 1 q (by omega) hq
      · unfold FX7_nodeNow
        rw [if_neg (by decide), if_neg (by decide), if_pos (by rfl)]
        exact rb 1 q (by omega) (Or.inr k0) hq
  · by_cases k0 : k = 0
    · refine ⟨-1, ?_, ?_⟩
      · unfold FX6_toldOfNode
        rw [c1, b1_some, if_neg (by decide), if_neg (by decide), if_pos (by rw [k0]; rfl), if_neg (by decide)]
      · unfold FX7_nodeNow BX7_nodeNow_46 FX7_placeTold
        rw [if_neg (by decide), if_neg (by decide), if_neg (by decide), if_pos (by rfl), if_neg (by decide), r1, b1_some, if_pos (by rw [k0]; rfl), b1_some]
    · obtain ⟨q, hq⟩ := plc 2 (by omega) (Or.inr k0)
      refine ⟨jI (mp q), ?_, ?_⟩
      · unfold FX6_toldOfNode
        rw [c1, b1_some, if_neg (by decide), if_neg (by decide), if_neg (by rw [j_0, jI_eq (by omega) (by omega) (by omega) (by omega)]; omega)]
        exact cb 2 q (by omega) hq
      · unfold FX7_nodeNow
        rw [if_neg (by decide), if_neg (by decide), if_neg (by decide), if_pos (by rfl)]
        exact rb 2 q (by omega) (Or.inr k0) hq
  · refine ⟨jI (if q0.2 = 0 then (q0.1 : Int) else -1), ?_, ?_⟩
    · unfold FX6_toldOfNode
      rw [c1, b1_some, if_neg (by decide), if_pos (by rfl), s_partnerOf (by omega) gK gW (by rw [hk]; exact fun z => by cases z) (by omega) hq0, b1_some]
    · unfold FX7_nodeNow
      rw [if_neg (by decide), if_neg (by decide), if_neg (by decide), if_neg (by decide), if_pos (by rfl), m_meets (b := 0) (by omega) hms.1 hms.2.2.1 (by omega) hq0, b1_some]
/-- what lasts, without the rows that some calls keep for themselves -/
def Pb (k : Nat) : Prop := k = 6 ∨ k = 8 ∨ k = 9 ∨ k = 10 ∨ k = 12 ∨ k = 45 ∨ k = 46 ∨ k = 47 ∨ k = 48
def Wm (m : Nat) (o o' : Ob) : Prop := (∀ i, i < 360 → i ≠ m → oA o' 0 i = oA o 0 i) ∧ (∀ i, i < 1080 → oA o' 1 i = oA o 1 i) ∧ (∀ i, i < 16 → oA o' 2 i = oA o 2 i) ∧ (∀ i, i < 2 → oA o' 3 i = oA o 3 i) ∧ (∀ k, Pb k → oA o' k = oA o k) ∧ ∀ k, Pv k → oV o' k = oV o k
theorem Wm_rf (m : Nat) (o : Ob) : Wm m o o := ⟨fun _ _ _ => rfl, fun _ _ => rfl, fun _ _ => rfl, fun _ _ => rfl, fun _ _ => rfl, fun _ _ => rfl⟩
theorem Wm_tr {m : Nat} {o o' o'' : Ob} (h : Wm m o o') (h' : Wm m o' o'') : Wm m o o'' := ⟨fun i hi hm => (h'.1 i hi hm).trans (h.1 i hi hm), fun i hi => (h'.2.1 i hi).trans (h.2.1 i hi), fun i hi => (h'.2.2.1 i hi).trans (h.2.2.1 i hi), fun i hi => (h'.2.2.2.1 i hi).trans (h.2.2.2.1 i hi), fun k hk => (h'.2.2.2.2.1 k hk).trans (h.2.2.2.2.1 k hk), fun k hk => (h'.2.2.2.2.2 k hk).trans (h.2.2.2.2.2 k hk)⟩
theorem Wm_Wk {m : Nat} {o o' : Ob} (h : Wk o o') : Wm m o o' := ⟨fun i hi _ => h.1 i hi, h.2.1, h.2.2.1, h.2.2.2.1, fun k hk => h.2.2.2.2.1 k (by unfold Pb at hk; unfold Pk; omega), h.2.2.2.2.2.1⟩
theorem Wm_0 (m : Nat) (o : Ob) (v : Int32) : Wm m o (sA o 0 m v) := ⟨fun i _ hm => by rw [sA_rw, if_neg hm], fun _ _ => by rw [sA_ne _ _ _ (by omega)], fun _ _ => by rw [sA_ne _ _ _ (by omega)], fun _ _ => by rw [sA_ne _ _ _ (by omega)], fun k hk => sA_ne _ _ _ (by unfold Pb at hk; omega), fun _ _ => rfl⟩
theorem Wm_40 (m : Nat) (o : Ob) (i : Nat) (v : Int32) : Wm m o (sA o 40 i v) := ⟨fun _ _ _ => by rw [sA_ne _ _ _ (by omega)], fun _ _ => by rw [sA_ne _ _ _ (by omega)], fun _ _ => by rw [sA_ne _ _ _ (by omega)], fun _ _ => by rw [sA_ne _ _ _ (by omega)], fun k hk => sA_ne _ _ _ (by unfold Pb at hk; omega), fun _ _ => rfl⟩
theorem Bq_Wm {N N' : Nt} {t hi s s' l : Nat} {cs : Nat → Nat} (h : Bq n M o N N' t hi s s' l cs) {m : Nat} {o' : Ob} (hw : Wm m o o') (hm : oA o' 0 m = oA o 0 m) (h4 : oV o' 4 = 0) : Bq n M o' N N' t hi s s' l cs := by
  -- by way of an object that has the rows 39, 40 of the old one
  have w : ∃ o2, Wk o o2 ∧ oV o2 4 = 0 ∧ (∀ k, k ≠ 39 → k ≠ 40 → oA o2 k = oA o' k) ∧ ∀ k, oV o2 k = oV o' k := by
    refine ⟨((sR (sR o' 39 (oA o 39)) 40 (oA o 40)).1, o'.2.1, o.2.2), ⟨fun i hi => ?_, hw.2.1, hw.2.2.1, hw.2.2.2.1, fun k hk => ?_, hw.2.2.2.2.2, rfl⟩, h4, fun k h1 h2 => by show oA (sR (sR o' 39 (oA o 39)) 40 (oA o 40)) k = _; rw [oA_sRj, if_neg h2, oA_sRj, if_neg h1], fun _ => rfl⟩
    · show oA o' 0 i = _
      by_cases c : i = m
      · rw [c]; exact hm
      · exact hw.1 i hi c
    · show oA (sR (sR o' 39 (oA o 39)) 40 (oA o 40)) k = _
      rw [oA_sRj]
      by_cases c : k = 40
      · rw [if_pos c, c]
      · rw [if_neg c, oA_sRj]
        by_cases c2 : k = 39
        · rw [if_pos c2, c2]
        · rw [if_neg c2]; exact hw.2.2.2.2.1 k (by unfold Pk at hk; unfold Pb; omega)
  obtain ⟨o2, w1, w2, w3, w4⟩ := w
  obtain ⟨a1, a2, a3, a4, a5, a6, a7, a8, a9⟩ := Bq_Wk h w1 w2
  have hA : ∀ k, k ≠ 39 → k ≠ 40 → oA o' k = oA o2 k := fun k h1 h2 => (w3 k h1 h2).symm
  have hV : ∀ k, oV o' k = oV o2 k := fun k => (w4 k).symm
  have nb : ∀ g b dr N, dr ≠ 39 → dr ≠ 40 → NB g o2 b dr N → NB g o' b dr N := fun g b dr N hd hd2 ⟨b1, b2, b3, b4, b5⟩ => ⟨b1, b2, Sl_o b3 (hA 0 (by omega) (by omega)) (hA 1 (by omega) (by omega)) (hA 2 (by omega) (by omega)) (hA 3 (by omega) (by omega)), by rw [hA dr hd hd2]; exact b4, by rw [hA dr hd hd2]; exact b5⟩
  have sb : ∀ x vs r1 r2 r3 s, r1 ≠ 39 → r1 ≠ 40 → r2 ≠ 39 → r2 ≠ 40 → r3 ≠ 39 → r3 ≠ 40 → SB x o2 vs r1 r2 r3 s → SB x o' vs r1 r2 r3 s := fun x vs r1 r2 r3 s h1 g1 h2 g2 h3 g3 ⟨b1, b2, b3, b4, b5⟩ => ⟨b1, b2, by rw [hV vs]; exact b3, by rw [hA r1 h1 g1, hA r2 h2 g2, hA r3 h3 g3]; exact b4, b5⟩
  exact ⟨nb _ _ _ _ (by omega) (by omega) a1, h4, FB_v a3 (hV 5) (hV 42) (hV 43), a4, a5, fun z => nb _ _ _ _ (by omega) (by omega) (a6 z), sb _ _ _ _ _ _ (by omega) (by omega) (by omega) (by omega) (by omega) (by omega) a7, sb _ _ _ _ _ _ (by omega) (by omega) (by omega) (by omega) (by omega) (by omega) a8, PgB_v a9 (hV 11) (hA 12 (by omega) (by omega))⟩
theorem Sl_Wm {o o' : Ob} {N : Nt} (h : Sl 0 o N.1 N.2.1 N.2.2) {m k0 k : Nat} (hw : Wm m o o') (hm : N.1 m = some k0) (hk : k ≤ 3) : Sl 0 (sA o' 0 m (jI k)) (ku N.1 m (some k)) N.2.1 N.2.2 := by
  have h1 := Sl_kind h hm hk
  rw [Nat.mul_zero, Nat.zero_add] at h1
  obtain ⟨⟨b1, b2⟩, ⟨b3, b4⟩, b5⟩ := h1
  refine ⟨⟨fun j hj => ?_, b2⟩, ⟨fun p q hp => ?_, fun i hi hp => ?_⟩, ?_⟩
  · rw [← b1 j hj, Nat.mul_zero, Nat.zero_add, sA_rw, sA_rw]
    by_cases c : j = m
    · rw [if_pos c, if_pos c]
    · rw [if_neg c, if_neg c]; exact hw.1 j (by omega) c
  · obtain ⟨x1, x2, x3⟩ := b3 p q hp
    refine ⟨x1, x2, ?_⟩
    rw [← x3]
    unfold ma
    rcases x1 with ⟨y1, y2⟩ | ⟨y1, y2⟩
    · rw [if_neg (by omega), if_neg (by omega), sA_ne _ _ _ (by omega), sA_ne _ _ _ (by omega)]
      exact hw.2.1 _ (by omega)
    · rw [if_pos y1, if_pos y1, sA_ne _ _ _ (by omega), sA_ne _ _ _ (by omega)]
      exact hw.2.2.1 _ (by omega)
  · rw [← b4 i hi hp, sA_ne _ _ _ (by omega), sA_ne _ _ _ (by omega)]
    exact hw.2.2.1 _ (by omega)
  · rw [← b5, sA_ne _ _ _ (by omega), sA_ne _ _ _ (by omega)]
    exact hw.2.2.2.1 0 (by omega)
/-- counts to the ending, if the node were of kind k -/
def Nk (N : Nt) (m k : Nat) : Nt := (ku N.1 m (some k), N.2.1, N.2.2)
def VK (N : Nt) (m k : Nat) (f : Nat → Int32) : Prop := (∃ R ss M1, EndD (Nk N m k) R ss M1 ∧ ∀ v, v < 4 → f v = jI (dnc ss v)) ∨ (NoEnd (Nk N m k) ∧ ∀ v, v < 4 → f v = -1)
theorem m_much31 (k : Nat) (hk : k < 4) (x1 x2 : Int32) (r : Nat) (hr : r ≤ 1) (E : Ob → Option Ob) (f : Nat → Int32) : ∀ (e v F : Nat) (o : Ob), v + e = 4 → e < F → (∀ u, u < 4 → f u = if r = 1 then oA o 30 u else -1) → ∃ o', LX7_layMuch_31 x1 x2 (jI k) (jI r) E F (jI v) o = E o' ∧ (∀ u, v ≤ u → u < 4 → oA o' 40 (4 * k + u) = f u) ∧ (∀ j, ¬ (4 * k + v ≤ j ∧ j < 4 * k + 4) → oA o' 40 j = oA o 40 j) ∧ (∀ q, q ≠ 40 → oA o' q = oA o q) ∧ ∀ q, oV o' q = oV o q := by
  intro e
  induction e with
  | zero =>
    intro v F o hv hF hf
    obtain ⟨F, rfl⟩ : ∃ f', F = f' + 1 := ⟨F - 1, by omega⟩
    exact ⟨o, by rw [LX7_layMuch_31.eq_2, if_pos (by rw [j_4, jI_le (by omega) (by omega) (by omega) (by omega)]; omega)], fun u h1 h2 => by omega, fun _ _ => rfl, fun _ _ => rfl, fun _ => rfl⟩
  | succ e ih =>
    intro v F o hv hF hf
    obtain ⟨F, rfl⟩ : ∃ f', F = f' + 1 := ⟨F - 1, by omega⟩
    have e4 : ((4 : Int32) * jI (k : Int)) + jI (v : Int) = jI ((4 * k + v : Nat)) := by rw [j_4, jI_mul, jI_add]; rfl
    obtain ⟨o', q1, q2, q3, q4, q5⟩ := ih (v + 1) F (sA o 40 (4 * k + v) (f v)) (by omega) (by omega) (fun u hu => by rw [sA_ne _ _ _ (by omega)]; exact hf u hu)
    refine ⟨o', ?_, fun u h1 h2 => ?_, fun j hj => ?_, fun q hq => by rw [q4 q hq, sA_ne _ _ _ hq], fun q => q5 q⟩
    · have hfv := hf v (by omega)
      rw [LX7_layMuch_31.eq_2, if_neg (by rw [j_4, jI_le (by omega) (by omega) (by omega) (by omega)]; omega), e4]
      rcases (show r = 0 ∨ r = 1 by omega) with rfl | rfl
      · rw [if_neg (by omega)] at hfv
        rw [if_pos (by rfl), if_pos (by rw [jI_inb (by omega) (by omega)]; omega), lT_eq, lT_eq, jI_p1, jc _ (by omega), ← hfv]
        exact q1
      · rw [if_pos rfl] at hfv
        rw [if_neg (by decide), if_pos (by rw [jI_inb (by omega) (by omega)]; omega), if_pos (by rw [jI_inb (by omega) (by omega)]; omega), lT_eq, lT_eq, jI_p1, jc _ (by omega), jc _ (by omega), ← hfv]
        exact q1
    · by_cases c : u = v
      · rw [c, q3 _ (by omega), sA_rw, if_pos rfl]
      · exact q2 u (by omega) h2
    · rw [q3 j (by omega), sA_rw, if_neg (by omega)]
theorem Good_Nk {N : Nt} (hG : Good N) {m k0 k : Nat} (hm : N.1 m = some (k0 + 1)) : Good (Nk N m (k + 1)) := ⟨WF_kind hG.1 hm, bd_kind hG.2⟩
theorem cnt_Nk {N : Nt} {m k0 k j : Nat} (hm : N.1 m = some k0) : cnt (Nk N m k).1 j = cnt N.1 j := cnt_same (fun i _ => by
  show ku N.1 m (some k) i = none ↔ _
  unfold ku
  by_cases c : i = m
  · rw [if_pos c, c, hm]; simp
  · rw [if_neg c])
theorem bd_Nk {N : Nt} {m k0 k B : Nat} (hm : N.1 m = some k0) (hB : ∀ j, B ≤ j → N.1 j = none) : ∀ j, B ≤ j → (Nk N m k).1 j = none := fun j hj => by
  show ku N.1 m (some k) j = none
  unfold ku
  rw [if_neg (fun z => by rw [← z, hB j hj] at hm; cases hm)]
  exact hB j hj
theorem m_much9 {o : Ob} {N : Nt} (hG : Good N) (hS : Sl 0 o N.1 N.2.1 N.2.2) (hc : cnt N.1 180 ≤ 60) (hbd : ∀ j, 180 ≤ j → N.1 j = none) {m k0 : Nat} (hm : N.1 m = some (k0 + 1)) (hm60 : m < 60) (f : Nat → Nat → Int32) (hf : ∀ k, 1 ≤ k → k < 4 → VK N m k (f k)) (x2 : Int32) (E : Ob → Option Ob) : ∀ (e k F : Nat) (o' : Ob), k + e = 4 → e < F → 1 ≤ k → Wm m o o' → oV o' 4 = 0 → (∀ k', 1 ≤ k' → k' < k → ∀ v, v < 4 → oA o' 40 (4 * k' + v) = f k' v) → ∃ o'', LX7_layMuch_9 (jI m) x2 E F (jI k) o' = E o'' ∧ Wm m o o'' ∧ oV o'' 4 = 0 ∧ ∀ k', 1 ≤ k' → k' < 4 → ∀ v, v < 4 → oA o'' 40 (4 * k' + v) = f k' v := by
  intro e
  induction e with
  | zero =>
    intro k F o' hk hF hk1 hw h4 hv
    obtain ⟨F, rfl⟩ : ∃ f', F = f' + 1 := ⟨F - 1, by omega⟩
    exact ⟨o', by rw [LX7_layMuch_9.eq_2, if_pos (by rw [j_4, jI_le (by omega) (by omega) (by omega) (by omega)]; omega)], hw, h4, fun k' h1 h2 => hv k' h1 (by omega)⟩
  | succ e ih =>
    intro k F o' hk hF hk1 hw h4 hv
    obtain ⟨F, rfl⟩ : ∃ f', F = f' + 1 := ⟨F - 1, by omega⟩
    obtain ⟨kk, rfl⟩ : ∃ kk, k = kk + 1 := ⟨k - 1, by omega⟩
    have sl := Sl_Wm hS hw hm (k := kk + 1) (by omega)
    have gd : Good (Nk N m (kk + 1)) := Good_Nk hG hm
    have cn : cnt (Nk N m (kk + 1)).1 180 ≤ 60 := by rw [cnt_Nk hm]; exact hc
    have fin : ∀ (r : Nat) (o1 : Ob), r ≤ 1 → FX7_layEnding (0 : Int32) (sA o' 0 m (jI ((kk + 1 : Nat)))) = some (jI r, o1) → Wk (sA o' 0 m (jI ((kk + 1 : Nat)))) o1 → oV o1 4 = 0 → (∀ u, u < 4 → f (kk + 1) u = if r = 1 then oA o1 30 u else -1) → ∃ o'', LX7_layMuch_9 (jI m) x2 E (F + 1) (jI ((kk + 1 : Nat))) o' = E o'' ∧ Wm m o o'' ∧ oV o'' 4 = 0 ∧ ∀ k', 1 ≤ k' → k' < 4 → ∀ v, v < 4 → oA o'' 40 (4 * k' + v) = f k' v := by
      intro r o1 hr e1 w1 v1 hfu
      obtain ⟨o2, q1, q2, q3, q4, q5⟩ := m_much31 (kk + 1) (by omega) (jI m) x2 r hr (fun o0_23 => lT (jI ((kk + 1 : Nat) : Int) + (1 : Int32)) fun x3_24 => LX7_layMuch_9 (jI m) x2 E F x3_24 o0_23) (f (kk + 1)) 4 0 fu o1 (by omega) (by rw [fu_eq]; omega) hfu
      have w2 : Wm m o1 o2 := ⟨fun i _ _ => by rw [q4 0 (by omega)], fun i _ => by rw [q4 1 (by omega)], fun i _ => by rw [q4 2 (by omega)], fun i _ => by rw [q4 3 (by omega)], fun q hq => q4 q (by unfold Pb at hq; omega), fun q _ => q5 q⟩
      have r40 : oA o1 40 = oA o' 40 := by rw [w1.2.2.2.2.1 40 (by unfold Pk; omega), sA_ne _ _ _ (by omega)]
      obtain ⟨o3, t1, t2, t3, t4⟩ := ih (kk + 1 + 1) F o2 (by omega) (by omega) (by omega) (Wm_tr (Wm_tr hw (Wm_0 m o' _)) (Wm_tr (Wm_Wk w1) w2)) (by rw [q5]; exact v1) (fun k' h1 h2 v hv' => by
        by_cases ck : k' = kk + 1
        · rw [ck]; exact q2 v (by omega) hv'
        · rw [q3 _ (by omega), r40]; exact hv k' h1 (by omega) v hv')
      refine ⟨o3, ?_, t2, t3, t4⟩
      rw [LX7_layMuch_9.eq_2, if_neg (by rw [j_4, jI_le (by omega) (by omega) (by omega) (by omega)]; omega), if_pos (by rw [jI_inb (by omega) (by omega)]; omega), lT_eq, jc _ (by omega), e1, b2_some]
      refine q1.trans ?_
      rw [lT_eq, jI_p1]
      exact t1
    rcases hf (kk + 1) (by omega) (by omega) with ⟨R, ss, M1, f1, f2⟩ | ⟨f1, f2⟩
    · obtain ⟨o1, M2, e1, s2, g2, v4, h30, w1, -⟩ := m_end (b := 0) (by omega) gd sl cn (bd_Nk hm hbd) f1
      exact fin 1 o1 (by omega) e1 w1 v4 (fun u hu => by rw [if_pos rfl, f2 u hu, h30 u hu])
    · obtain ⟨o1, e1, v4, w1⟩ := m_noend (b := 0) (by omega) gd sl cn f1
      exact fin 0 o1 (by omega) e1 w1 v4 (fun u hu => by rw [if_neg (by omega)]; exact f2 u hu)
/-- the class, for one kind -/
theorem c_put {ans : Ob} {k v : Nat} (hk : k < 4) (hv : v < 4) (x : Int32) : FX0_put (jI k) (jI v) x ans = some (sA ans 0 (4 * k + v) x) := by
  unfold FX0_put
  rw [show (jI (k : Int) * (4 : Int32)) + jI (v : Int) = jI ((4 * k + v : Nat)) from by rw [j_4, jI_mul, jI_add]; congr 1; omega, lT_eq, if_neg (by rw [j_0, jI_lt (by omega) (by omega) (by omega) (by omega)]; omega), if_neg (by rw [j_16, jI_le (by omega) (by omega) (by omega) (by omega)]; omega), if_pos (by rw [jI_inb (by omega) (by omega)]; omega), lT_eq, jc _ (by omega)]
theorem c_ansAt {ans : Ob} {k v : Nat} (hk : k < 4) (hv : v < 4) : FX0_at (jI k) (jI v) ans = some (oA ans 0 (4 * k + v)) := by
  unfold FX0_at
  rw [show (jI (k : Int) * (4 : Int32)) + jI (v : Int) = jI ((4 * k + v : Nat)) from by rw [j_4, jI_mul, jI_add]; congr 1; omega, lT_eq, if_neg (by rw [j_0, jI_lt (by omega) (by omega) (by omega) (by omega)]; omega), if_neg (by rw [j_16, jI_le (by omega) (by omega) (by omega) (by omega)]; omega), if_pos (by rw [jI_inb (by omega) (by omega)]; omega), jc _ (by omega)]
theorem c_put4 {k : Nat} (hk : k < 4) (x1 x2 x4 : Int32) (E : (Nat → Ob) → Option (Int32 × (Nat → Ob))) (f : Nat → Int32) (g2 : Ob) (ht : ∀ v : Nat, v < 4 → ∀ M : Nat → Ob, M 5 = g2 → FX6_toldOfEnding x4 (jI v) M = some (f v)) : ∀ (e v F : Nat) (M : Nat → Ob), v + e = 4 → e < F → M 5 = g2 → ∃ M', LX6_kindsLeft_41 x1 x2 (jI k) x4 E F (jI v) M = E M' ∧ (∀ j, j ≠ 10 → M' j = M j) ∧ (∀ u, v ≤ u → u < 4 → oA (M' 10) 0 (4 * k + u) = f u) ∧ ∀ j, ¬ (4 * k + v ≤ j ∧ j < 4 * k + 4) → oA (M' 10) 0 j = oA (M 10) 0 j := by
  intro e
  induction e with
  | zero =>
    intro v F M hv hF hM
    obtain ⟨F, rfl⟩ : ∃ f', F = f' + 1 := ⟨F - 1, by omega⟩
    exact ⟨M, by rw [LX6_kindsLeft_41.eq_2, if_pos (by rw [j_4, jI_le (by omega) (by omega) (by omega) (by omega)]; omega)], fun _ _ => rfl, fun u h1 h2 => by omega, fun _ _ => rfl⟩
  | succ e ih =>
    intro v F M hv hF hM
    obtain ⟨F, rfl⟩ : ∃ f', F = f' + 1 := ⟨F - 1, by omega⟩
    obtain ⟨M', q1, q2, q3, q4⟩ := ih (v + 1) F (sM M 10 (sA (M 10) 0 (4 * k + v) (f v))) (by omega) (by omega) hM
    refine ⟨M', ?_, fun j hj => by rw [q2 j hj, sM_at, if_neg hj], fun u h1 h2 => ?_, fun j hj => ?_⟩
    · rw [LX6_kindsLeft_41.eq_2, if_neg (by rw [j_4, jI_le (by omega) (by omega) (by omega) (by omega)]; omega), ht v (by omega) M hM, b1_some, c_put hk (by omega), b1_some, lT_eq, lT_eq, jI_p1]
      exact q1
    · by_cases c : u = v
      · rw [c, q4 _ (by omega), sM_at, if_pos rfl, sA_rw, if_pos rfl]
      · exact q3 u (by omega) h2
    · rw [q4 j (by omega), sM_at, if_pos rfl, sA_rw, if_neg (by omega)]
/-- what is seen agrees with these counts -/
def agB (x : Ob) (m : Nat) (f : Nat → Int32) : Nat → Nat → Bool
  | 0, _ => true
  | d + 1, i => (decide (oA x 0 i ≠ jI m) || decide (f (oA x 1 i).toNatClampNeg = oA x 2 i)) && agB x m f d (i + 1)
theorem agB_s (x : Ob) (m : Nat) (f : Nat → Int32) (d i : Nat) : agB x m f (d + 1) i = ((decide (oA x 0 i ≠ jI m) || decide (f (oA x 1 i).toNatClampNeg = oA x 2 i)) && agB x m f d (i + 1)) := rfl
theorem c_agree {x ans : Ob} {k s m : Nat} (hk : k < 4) (hs : oV x 3 = jI s) (hs6 : s ≤ 6) (hw : ∀ i, i < s → ∃ v : Nat, v < 4 ∧ oA x 1 i = jI v) (f : Nat → Int32) (hf : ∀ v, v < 4 → oA ans 0 (4 * k + v) = f v) : ∀ (e i F : Nat), i + e = s → e < F → LX4_agree_3 (jI m) (jI k) x ans F (jI i) = some (if agB x m f e i = true then 1 else 0) := by
  intro e
  induction e with
  | zero =>
    intro i F hi hF
    obtain ⟨F, rfl⟩ : ∃ f', F = f' + 1 := ⟨F - 1, by omega⟩
    rw [LX4_agree_3.eq_2, hs, if_pos (by rw [jI_le (by omega) (by omega) (by omega) (by omega)]; omega)]
    rfl
  | succ e ih =>
    intro i F hi hF
    obtain ⟨F, rfl⟩ : ∃ f', F = f' + 1 := ⟨F - 1, by omega⟩
    obtain ⟨v, hv, ev⟩ := hw i (by omega)
    rw [LX4_agree_3.eq_2, hs, if_neg (by rw [jI_le (by omega) (by omega) (by omega) (by omega)]; omega), if_neg (by rw [j_6, jI_le (by omega) (by omega) (by omega) (by omega)]; omega), if_pos (by rw [jI_inb (by omega) (by omega)]; omega), jc _ (by omega), ev, c_ansAt hk hv, b1_some, hf v hv, agB_s, ev, jc _ (by omega)]
    simp only [lT_eq, jI_p1, ih (i + 1) F (by omega) (by omega)]
    by_cases c1 : oA x 0 i = jI m
    · rw [if_pos c1]
      by_cases c2 : f v = oA x 2 i
      · rw [if_pos c2]; simp [c1, c2]
      · rw [if_neg c2]; simp [c1, c2]
    · rw [if_neg c1]; simp [c1]
theorem m_agree {x o : Ob} {k s m : Nat} (hk : k < 4) (hs : oV o 7 = jI s) (hs6 : s ≤ 6) (hrow : ∀ i, i < 6 → oA x 0 i = oA o 8 i ∧ oA x 1 i = oA o 9 i ∧ oA x 2 i = oA o 10 i) (hw : ∀ i, i < s → ∃ v : Nat, v < 4 ∧ oA x 1 i = jI v) (f : Nat → Int32) (hf : ∀ v, v < 4 → oA o 40 (4 * k + v) = f v) (x2 : Int32) (E : Int32 → Option Int32) : ∀ (e i F y : Nat), i + e = s → e < F → y ≤ 1 → LX7_kindsBy_15 (jI m) x2 (jI k) o E F (jI y) (jI i) = E (if y = 1 ∧ agB x m f e i = true then 1 else 0) := by
  intro e
  induction e with
  | zero =>
    intro i F y hi hF hy
    obtain ⟨F, rfl⟩ : ∃ f', F = f' + 1 := ⟨F - 1, by omega⟩
    rw [LX7_kindsBy_15.eq_2, hs, if_pos (by rw [jI_le (by omega) (by omega) (by omega) (by omega)]; omega)]
    rcases (show y = 0 ∨ y = 1 by omega) with rfl | rfl
    · rw [if_neg (by omega)]; rfl
    · rw [if_pos ⟨rfl, rfl⟩]; rfl
  | succ e ih =>
    intro i F y hi hF hy
    obtain ⟨F, rfl⟩ : ∃ f', F = f' + 1 := ⟨F - 1, by omega⟩
    have i0 := ih (i + 1) F 0 (by omega) (by omega) (by omega)
    have i1 := ih (i + 1) F 1 (by omega) (by omega) (by omega)
    rw [if_neg (show ¬ (0 = 1 ∧ agB x m f e (i + 1) = true) from fun z => by have := z.1; omega)] at i0
    have z0 : jI ((0 : Nat) : Int) = (0 : Int32) := rfl
    have z1 : jI ((1 : Nat) : Int) = (1 : Int32) := rfl
    rw [z0] at i0
    rw [z1] at i1
    rw [LX7_kindsBy_15.eq_2, hs, if_neg (by rw [jI_le (by omega) (by omega) (by omega) (by omega)]; omega)]
    rcases (show y = 0 ∨ y = 1 by omega) with rfl | rfl
    · rw [if_pos (by rfl), lT_eq, jI_p1, i0, if_neg (show ¬ (0 = 1 ∧ agB x m f (e + 1) i = true) from fun z => by have := z.1; omega)]
    · obtain ⟨v, hv, ev⟩ := hw i (by omega)
      obtain ⟨h1, h2, h3⟩ := hrow i (by omega)
      have e4 : ((4 : Int32) * jI (k : Int)) + jI (v : Int) = jI ((4 * k + v : Nat)) := by rw [j_4, jI_mul, jI_add]; rfl
      rw [if_neg (by decide), if_pos (by rw [jI_inb (by omega) (by omega)]; omega), jc _ (by omega), ← h1, agB_s, ev, jc _ (by omega)]
      by_cases c1 : oA x 0 i = jI m
      · rw [if_pos c1, ← h2, ev, e4, if_pos (by rw [jI_inb (by omega) (by omega)]; omega), jc _ (by omega), hf v hv, ← h3]
        simp only [lT_eq, jI_p1, i0, i1]
        by_cases c2 : f v = oA x 2 i
        · rw [if_pos c2]; simp [c1, c2]
        · rw [if_neg c2]; simp [c1, c2]
      · rw [if_neg c1]
        simp only [lT_eq, jI_p1, i1]
        simp [c1]
end CA
