/-! THE PURE CLAIM -/
theorem i_step {b : Nat} (hb : b < 4) (E : Ob → Option Ob) (f : Nat) (o : Ob) : ∃ o', LX7_init_252 E (f + 1) (jI b) o = LX7_init_252 E f (jI ((b + 1 : Nat))) o' ∧ Sl b o' (fun _ => none) (fun _ => none) 0 ∧ Fm b (sV o 4 (jI b)) o' ∧ ∀ k, 3 < k → oA o' k = oA o k := by
  obtain ⟨o', e, h0, -, h2, h3, h4, h5⟩ := m_empty hb (o := sV o 4 (jI b)) (by rw [oV_sV, if_pos rfl])
  refine ⟨o', ?_, Sl_empty h0 h2 h3, h4, h5⟩
  rw [LX7_init_252.eq_2, if_neg (by rw [j_4, jI_le (by omega) (by omega) (by omega) (by omega)]; omega), lT_eq, e, b1_some, lT_eq, jI_p1]
theorem i_start : ∃ o, FX7_init zOb = some o ∧ Bd 0 M0 o := by
  let E : Ob → Option Ob := fun o0_8 => lT (sV o0_8 4 (0 : Int32)) fun o0_10 => some o0_10
  obtain ⟨oa, a1, a2, a3, a4⟩ := i_step (b := 0) (by omega) E 4999 zOb
  obtain ⟨ob, b1, b2, b3, b4⟩ := i_step (b := 1) (by omega) E 4998 oa
  obtain ⟨oc, c1, c2, c3, c4⟩ := i_step (b := 2) (by omega) E 4997 ob
  obtain ⟨od, d1, d2, d3, d4⟩ := i_step (b := 3) (by omega) E 4996 oc
  have hv : ∀ k, k ≠ 4 → oV od k = 0 := fun k hk => by
    rw [d3.2.2.2.2.2.1, oV_sV, if_neg hk, c3.2.2.2.2.2.1, oV_sV, if_neg hk, b3.2.2.2.2.2.1, oV_sV, if_neg hk, a3.2.2.2.2.2.1, oV_sV, if_neg hk]
    rfl
  have hA : ∀ k, 3 < k → oA od k = fun _ => 0 := fun k hk => by
    rw [d4 k hk, c4 k hk, b4 k hk, a4 k hk]
    rfl
  have s1 : Sl 0 ob (fun _ => none) (fun _ => none) 0 := Sl_Fm (b := 1) (o := sV oa 4 (jI ((1 : Nat) : Int))) (by omega) (Sl_o a2 rfl rfl rfl rfl) b3
  have s2 : Sl 0 oc (fun _ => none) (fun _ => none) 0 := Sl_Fm (b := 2) (o := sV ob 4 (jI ((2 : Nat) : Int))) (by omega) (Sl_o s1 rfl rfl rfl rfl) c3
  have s3 : Sl 0 od (fun _ => none) (fun _ => none) 0 := Sl_Fm (b := 3) (o := sV oc 4 (jI ((3 : Nat) : Int))) (by omega) (Sl_o s2 rfl rfl rfl rfl) d3
  have v0 : ∀ k, k ≠ 4 → oV (sV od 4 0) k = 0 := fun k hk => by rw [oV_sV, if_neg hk]; exact hv k hk
  refine ⟨sV od 4 0, ?_, (fun _ => none, fun _ => none, 0), (fun _ => none, fun _ => none, 0), 0, 0, 0, 0, 0, fun _ => 0, ⟨⟨⟨⟨fun p q h => (by cases h), fun n s _ => ⟨fun h => absurd rfl h, fun h => ?_⟩, fun n s _ h => absurd rfl h⟩, 0, fun _ _ => rfl⟩, ⟨0, 0, ⟨rfl, by omega, fun n h => absurd h (by omega), fun _ _ => rfl, fun n k h => (by cases h)⟩, ⟨fun p q h => (by cases h), fun i hi _ => ?_⟩, rfl, rfl, fun n h => absurd h (by omega), ?_⟩, Sl_o s3 rfl rfl rfl rfl, fun j _ _ => ?_, ?_⟩, rfl, ⟨rfl, rfl, rfl, v0 5 (by omega), by omega, fun z => absurd z (by omega), fun _ => Or.inl (v0 42 (by omega))⟩, by omega, fun _ => ⟨fun _ => rfl, fun _ => rfl⟩, fun z => absurd z (by omega), ⟨by omega, rfl, v0 7 (by omega), fun i _ => ?_, fun i h => absurd h (by omega)⟩, ⟨by omega, rfl, v0 44 (by omega), fun i _ => ?_, fun i h => absurd h (by omega)⟩, by omega, ⟨rfl, fun i h => absurd h (by omega)⟩, ⟨v0 11 (by omega), fun i h => absurd h (by omega)⟩, fun i h => absurd h (by omega)⟩⟩
  · unfold FX7_init
    refine a1.trans ?_
    refine b1.trans ?_
    refine c1.trans ?_
    refine d1.trans ?_
    rw [LX7_init_252.eq_2, if_pos (by rw [j_4, jI_le (by omega) (by omega) (by omega) (by omega)]; omega)]
    rfl
  · rcases h with ⟨_, h⟩ | ⟨_, k, h⟩
    · exact absurd rfl h
    · cases h
  · show (if i < 196 then (-1 : Int32) else oA zOb 1 i) = jI (-1)
    rw [if_pos (by omega)]
    rfl
  · show (0 : Int32) = jI (cnt (fun _ => none) 60)
    rw [show cnt (fun _ => none) 60 = 0 from by decide +kernel]
    rfl
  · rw [oA_sV, hA 6 (by omega)]
    rfl
  · rw [oA_sV, hA 6 (by omega)]
    rfl
  · rw [oA_sV, oA_sV, oA_sV, hA 8 (by omega), hA 9 (by omega), hA 10 (by omega)]
    exact ⟨rfl, rfl, rfl⟩
  · rw [oA_sV, oA_sV, oA_sV, hA 46 (by omega), hA 47 (by omega), hA 48 (by omega)]
    exact ⟨rfl, rfl, rfl⟩
theorem pure_ok : PureOk := ⟨Bd, i_start, fun _ _ _ h => Bd_mono h, fun n M o hn h => ⟨fun x1 => ok_letter h x1, ok_blank h, ok_fault h, ok_net hn h, fun x1 x2 => ok_node h x1 x2, fun x1 x2 => ok_as h x1 x2, fun x1 => ok_open h x1, fun x1 => ok_meetings hn h x1, fun x1 => ok_meet hn h x1, fun x1 => ok_run hn h x1, fun x1 x2 => ok_join h x1 x2, fun x1 => ok_stop h x1, fun x1 x2 => ok_change h x1 x2, fun x1 => ok_flip h x1, fun x1 => ok_ending hn h x1, fun x1 => ok_reading hn h x1, fun x1 => ok_endReading hn h x1, ok_same hn h, fun x1 x2 x3 => ok_see h x1 x2 x3, ok_forget h, fun x1 x2 x3 => ok_runs hn h x1 x2 x3, ok_image hn h, ok_restore hn h, fun x1 => ok_count h x1, ok_digest hn h⟩⟩
