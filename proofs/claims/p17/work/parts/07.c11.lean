abbrev Z_X4_collectSum (D : va_G) (q : Nat → Nat) (cA : Nat → ClassId) (Fc_unkept : Int32) (Fc_tablesRead : Int32) (Pg_letters : Nat → Int32) (Pg_size : Int32) (Pg_fault : Int32) (Pg_rows : Int32) (Pg_inRow : Int32) (Pg_width : Int32) (Fl_entries : Nat → Int32) (Fl_states : Int32) (Fl_columns : Int32) (Fl_moves : Int32) (Fl_stables : Int32) (Fl_amiss : Int32) (Fl_normal : Int32) (Pt_lessers : Nat → Int32) (Pt_greaters : Nat → Int32) (Pt_size : Int32) (Lc_signals : Nat → Int32) (Lc_kept : Nat → Int64) (Lc_keptFrom : Nat → Int64) (Lc_candidates : Int32) (Lc_size : Int32) (Sc_signals : Nat → Int32) (Sc_codes : Nat → Int32) (Sc_size : Int32) (Ai_codes : Nat → Int32) (Ai_bits : Int32) (Cu_seen : Nat → Int32) (Cu_inThrees : Nat → Int32) (Cu_all : Int32) (Lo_asked : Nat → Nat → Int32) (lo_asked : Nat → Int32) (Lo_ones : Nat → Nat → Int32) (lo_ones : Nat → Int32) (Lo_sum : Nat → Nat → Int32) (Lo_wideSize : Nat → Int32) (lo_wideSize : Int32) (Lo_sumSize : Nat → Int32) (Lo_flickers : Nat → Int32) (Lo_ready : Nat → Int32) (lo_ready : Int32) (Wa_at : Int32) (Wa_turns : Int32) (Wa_changes : Int32) (k : Nat) (post : (Nat → Int32) → Int32 → Int32 → Prop) : State → Prop := fun t => ∃ (y_lo_sum : Nat → Int32) (y_lo_sumSize : Int32) (y_lo_flickers : Int32), post y_lo_sum y_lo_sumSize y_lo_flickers ∧ va_P D vwCl (wC q cA Fc_unkept Fc_tablesRead Pg_letters Pg_size Pg_fault Pg_rows Pg_inRow Pg_width Fl_entries Fl_states Fl_columns Fl_moves Fl_stables Fl_amiss Fl_normal Pt_lessers Pt_greaters Pt_size Lc_signals Lc_kept Lc_keptFrom Lc_candidates Lc_size Sc_signals Sc_codes Sc_size Ai_codes Ai_bits Cu_seen Cu_inThrees Cu_all (va_up Lo_asked k lo_asked) (va_up Lo_ones k lo_ones) (va_up Lo_sum k y_lo_sum) (va_up Lo_wideSize k lo_wideSize) (va_up Lo_sumSize k y_lo_sumSize) (va_up Lo_flickers k y_lo_flickers) (va_up Lo_ready k lo_ready) Wa_at Wa_turns Wa_changes) t.heap
set_option maxHeartbeats 4000000 in
set_option maxRecDepth 100000 in
theorem t_X4_collectSum_7 {p : Program} {l : Launch} {e : Env} {R : Room} {s : State} {m : MethodId} {args : Array Value} {below : List Frame} {meth : Method} {c : Code} {A : Nat → Prop} {D : va_G} {q : Nat → Nat} {cA : Nat → ClassId} {Fc_unkept : Int32} {Fc_tablesRead : Int32} {Pg_letters : Nat → Int32} {Pg_size : Int32} {Pg_fault : Int32} {Pg_rows : Int32} {Pg_inRow : Int32} {Pg_width : Int32} {Fl_entries : Nat → Int32} {Fl_states : Int32} {Fl_columns : Int32} {Fl_moves : Int32} {Fl_stables : Int32} {Fl_amiss : Int32} {Fl_normal : Int32} {Pt_lessers : Nat → Int32} {Pt_greaters : Nat → Int32} {Pt_size : Int32} {Lc_signals : Nat → Int32} {Lc_kept : Nat → Int64} {Lc_keptFrom : Nat → Int64} {Lc_candidates : Int32} {Lc_size : Int32} {Sc_signals : Nat → Int32} {Sc_codes : Nat → Int32} {Sc_size : Int32} {Ai_codes : Nat → Int32} {Ai_bits : Int32} {Cu_seen : Nat → Int32} {Cu_inThrees : Nat → Int32} {Cu_all : Int32} {Lo_asked : Nat → Nat → Int32} {lo_asked : Nat → Int32} {Lo_ones : Nat → Nat → Int32} {lo_ones : Nat → Int32} {Lo_sum : Nat → Nat → Int32} {Lo_wideSize : Nat → Int32} {lo_wideSize : Int32} {Lo_sumSize : Nat → Int32} {Lo_flickers : Nat → Int32} {lo_flickers : Int32} {Lo_ready : Nat → Int32} {lo_ready : Int32} {Wa_at : Int32} {Wa_turns : Int32} {Wa_changes : Int32} {k : Nat} {post : (Nat → Int32) → Int32 → Int32 → Prop} {KE : (Nat → Int32) → Int32 → Prop} {x2 : Int32} (hk : k < 5) (X : kC p R s m args meth c cX4_collectSum RX4 8 none 2) (hK : va_K D vwCl (tyC cA) s) (hN : nwC s) (hE : ∀ (lo_sum : Nat → Int32) (lo_sumSize : Int32), KE lo_sum lo_sumSize → ∀ (ls : Array Slot) (H : Heap) (locs : List Loc), lv_has ls 8 [(0, .ref (q (22 + 4 * k))), (1, .ref (q 15)), (2, .int x2)] → va_P D vwCl (wC q cA Fc_unkept Fc_tablesRead Pg_letters Pg_size Pg_fault Pg_rows Pg_inRow Pg_width Fl_entries Fl_states Fl_columns Fl_moves Fl_stables Fl_amiss Fl_normal Pt_lessers Pt_greaters Pt_size Lc_signals Lc_kept Lc_keptFrom Lc_candidates Lc_size Sc_signals Sc_codes Sc_size Ai_codes Ai_bits Cu_seen Cu_inThrees Cu_all (va_up Lo_asked k lo_asked) (va_up Lo_ones k lo_ones) (va_up Lo_sum k lo_sum) (va_up Lo_wideSize k lo_wideSize) (va_up Lo_sumSize k lo_sumSize) (va_up Lo_flickers k lo_flickers) (va_up Lo_ready k lo_ready) Wa_at Wa_turns Wa_changes) H → va_D A (wC q cA Fc_unkept Fc_tablesRead Pg_letters Pg_size Pg_fault Pg_rows Pg_inRow Pg_width Fl_entries Fl_states Fl_columns Fl_moves Fl_stables Fl_amiss Fl_normal Pt_lessers Pt_greaters Pt_size Lc_signals Lc_kept Lc_keptFrom Lc_candidates Lc_size Sc_signals Sc_codes Sc_size Ai_codes Ai_bits Cu_seen Cu_inThrees Cu_all (va_up Lo_asked k lo_asked) (va_up Lo_ones k lo_ones) (va_up Lo_sum k lo_sum) (va_up Lo_wideSize k lo_wideSize) (va_up Lo_sumSize k lo_sumSize) (va_up Lo_flickers k lo_flickers) (va_up Lo_ready k lo_ready) Wa_at Wa_turns Wa_changes) → va_S A s.heap H locs → W p l e R s m args below meth c H locs 0 0 (MQ below (qWv (Z_X4_collectSum D q cA Fc_unkept Fc_tablesRead Pg_letters Pg_size Pg_fault Pg_rows Pg_inRow Pg_width Fl_entries Fl_states Fl_columns Fl_moves Fl_stables Fl_amiss Fl_normal Pt_lessers Pt_greaters Pt_size Lc_signals Lc_kept Lc_keptFrom Lc_candidates Lc_size Sc_signals Sc_codes Sc_size Ai_codes Ai_bits Cu_seen Cu_inThrees Cu_all Lo_asked lo_asked Lo_ones lo_ones Lo_sum Lo_wideSize lo_wideSize Lo_sumSize Lo_flickers Lo_ready lo_ready Wa_at Wa_turns Wa_changes k post) A) args s 0 0 A) (F0 m 37 ls [])) : ∀ (n : Nat) (x3 : Int32) (lo_sum : Nat → Int32) (lo_sumSize : Int32), w_X4_collectSum_7 KE Ai_codes Ai_bits lo_asked lo_ones lo_wideSize x2 n x3 lo_sum lo_sumSize → ∀ (ls : Array Slot) (H : Heap) (locs : List Loc), lv_has ls 8 [(0, .ref (q (22 + 4 * k))), (1, .ref (q 15)), (2, .int x2), (3, .int x3)] → va_P D vwCl (wC q cA Fc_unkept Fc_tablesRead Pg_letters Pg_size Pg_fault Pg_rows Pg_inRow Pg_width Fl_entries Fl_states Fl_columns Fl_moves Fl_stables Fl_amiss Fl_normal Pt_lessers Pt_greaters Pt_size Lc_signals Lc_kept Lc_keptFrom Lc_candidates Lc_size Sc_signals Sc_codes Sc_size Ai_codes Ai_bits Cu_seen Cu_inThrees Cu_all (va_up Lo_asked k lo_asked) (va_up Lo_ones k lo_ones) (va_up Lo_sum k lo_sum) (va_up Lo_wideSize k lo_wideSize) (va_up Lo_sumSize k lo_sumSize) (va_up Lo_flickers k lo_flickers) (va_up Lo_ready k lo_ready) Wa_at Wa_turns Wa_changes) H → va_D A (wC q cA Fc_unkept Fc_tablesRead Pg_letters Pg_size Pg_fault Pg_rows Pg_inRow Pg_width Fl_entries Fl_states Fl_columns Fl_moves Fl_stables Fl_amiss Fl_normal Pt_lessers Pt_greaters Pt_size Lc_signals Lc_kept Lc_keptFrom Lc_candidates Lc_size Sc_signals Sc_codes Sc_size Ai_codes Ai_bits Cu_seen Cu_inThrees Cu_all (va_up Lo_asked k lo_asked) (va_up Lo_ones k lo_ones) (va_up Lo_sum k lo_sum) (va_up Lo_wideSize k lo_wideSize) (va_up Lo_sumSize k lo_sumSize) (va_up Lo_flickers k lo_flickers) (va_up Lo_ready k lo_ready) Wa_at Wa_turns Wa_changes) → va_S A s.heap H locs → W p l e R s m args below meth c H locs 0 0 (MQ below (qWv (Z_X4_collectSum D q cA Fc_unkept Fc_tablesRead Pg_letters Pg_size Pg_fault Pg_rows Pg_inRow Pg_width Fl_entries Fl_states Fl_columns Fl_moves Fl_stables Fl_amiss Fl_normal Pt_lessers Pt_greaters Pt_size Lc_signals Lc_kept Lc_keptFrom Lc_candidates Lc_size Sc_signals Sc_codes Sc_size Ai_codes Ai_bits Cu_seen Cu_inThrees Cu_all Lo_asked lo_asked Lo_ones lo_ones Lo_sum Lo_wideSize lo_wideSize Lo_sumSize Lo_flickers Lo_ready lo_ready Wa_at Wa_turns Wa_changes k post) A) args s 0 0 A) (F0 m 7 ls []) := by
  obtain ⟨hx, hb, hml, hown, hts, hr, hlocks, hRf, hRl⟩ := id X
  intro n
  induction n with
  | zero => intro x3 lo_sum lo_sumSize hw; exact (show False from hw).elim
  | succ n ih =>
    intro x3 lo_sum lo_sumSize hw ls H locs hl hP hD hS
    have hw : (wp_X0_points (fun (r_1 : Int32) => ((r_1 ≤ x3 → KE lo_sum lo_sumSize) ∧ (¬ r_1 ≤ x3 → (wp_X0_at (fun (r_3 : Int32) => ((r_3 = (1 : Int32) → (wp_X4_cover (fun (ysum_6 : Nat → Int32) (ysumSize_6 : Int32) => (∀ x3_7 : Int32, x3_7 = x3 + (1 : Int32) → w_X4_collectSum_7 KE Ai_codes Ai_bits lo_asked lo_ones lo_wideSize x2 n x3_7 ysum_6 ysumSize_6)) lo_asked lo_ones lo_sum lo_wideSize lo_sumSize x3 (0 : Int32))) ∧ (¬ r_3 = (1 : Int32) → (∀ x3_5 : Int32, x3_5 = x3 + (1 : Int32) → w_X4_collectSum_7 KE Ai_codes Ai_bits lo_asked lo_ones lo_wideSize x2 n x3_5 lo_sum lo_sumSize)))) Ai_codes x2 x3)))) Ai_bits) := hw
    refine lv_iload_n hx hb dX4_collectSum_7 rfl (lv_at hl 3 rfl) ?_
    refine lv_aload_n hx hb dX4_collectSum_8 rfl (lv_at hl 1 rfl) ?_
    refine ro_i (va_runV (As := []) (rest := [.int x3]) ⟨hx, hb, hml, hown, hts⟩ (c_X0_points l hw) (kRX4_43 (h := 0) hts (Nat.le_trans (Nat.le_of_ble_eq_true rfl) hRf) (Nat.le_trans (Nat.le_of_ble_eq_true rfl) hRl)) (preX0 hK hN hP) rfl rfl hl.1 rfl (lv_room (Nat.le_of_ble_eq_true rfl)) dX4_collectSum_9 ⟨Nat.zero_le _, Nat.zero_le _⟩) (fun r_1 hw => ?_)
    refine lv_icmp_ge (tgt := 37) hx hb dX4_collectSum_12 (by decide) (fun c_2 => ?_) (fun c_2 => ?_)
    · have hw := hw.1 c_2
      exact hE _ _ hw ls _ _ (lv_sub hl [0, 1, 2] rfl) hP hD hS
    · have hw := hw.2 c_2
      refine lv_aload_n hx hb dX4_collectSum_15 rfl (lv_at hl 1 rfl) ?_
      refine lv_iload_n hx hb dX4_collectSum_16 rfl (lv_at hl 2 rfl) ?_
      refine lv_iload_n hx hb dX4_collectSum_17 rfl (lv_at hl 3 rfl) ?_
      refine ro_i (va_runV (As := [.int x2, .int x3]) (rest := []) ⟨hx, hb, hml, hown, hts⟩ (c_X0_at l hw) (kRX4_49 (h := 0) hts (Nat.le_trans (Nat.le_of_ble_eq_true rfl) hRf) (Nat.le_trans (Nat.le_of_ble_eq_true rfl) hRl)) (preX0 hK hN hP) rfl rfl hl.1 rfl (lv_room (Nat.le_of_ble_eq_true rfl)) dX4_collectSum_18 ⟨Nat.zero_le _, Nat.zero_le _⟩) (fun r_3 hw => ?_)
      refine lv_iconst (v := (1 : Int32)) hx hb dX4_collectSum_21 (by decide) ?_
      refine lv_icmp_ne (tgt := 31) hx hb dX4_collectSum_22 (by decide) (fun c_4 => ?_) (fun c_4 => ?_)
      · have hw := hw.2 c_4
        obtain ⟨x3_5, e_5⟩ : ∃ z : Int32, z = x3 + (1 : Int32) := ⟨_, rfl⟩
        have hw := hw x3_5 e_5
        refine lv_iinc (v := x3_5) (lv' := [(3, .int x3_5), (0, .ref (q (22 + 4 * k))), (1, .ref (q 15)), (2, .int x2)]) hx hb dX4_collectSum_31 hl (k := 3) rfl (by rw [e_5]; rfl) (by decide) rfl (fun ls hl => ?_)
        refine lv_goto (tgt := 7) hx hb dX4_collectSum_34 (by decide) ?_
        exact ih _ _ _ hw ls _ _ (lv_sub hl [1, 2, 3, 0] rfl) hP hD hS
      · have hw := hw.1 c_4
        refine lv_aload_n hx hb dX4_collectSum_25 rfl (lv_at hl 0 rfl) ?_
        refine lv_iload_n hx hb dX4_collectSum_26 rfl (lv_at hl 3 rfl) ?_
        refine lv_iconst (v := (0 : Int32)) hx hb dX4_collectSum_27 (by decide) ?_
        refine wr_v (va_runV (As := [.int x3, .int (0 : Int32)]) (rest := []) ⟨hx, hb, hml, hown, hts⟩ (c_X4_cover l (k := k) hk hw) (kRX4_53 (h := 1) hts (Nat.le_trans (Nat.le_of_ble_eq_true rfl) hRf) (Nat.le_trans (Nat.le_of_ble_eq_true rfl) hRl)) (preX4w (k := k) hk hK hN hP hD) rfl rfl hl.1 rfl (lv_room (Nat.le_of_ble_eq_true rfl)) dX4_collectSum_28 ⟨Nat.zero_le _, Nat.zero_le _⟩) hS (fun t H locs ht hw hS => ?_)
        obtain ⟨ysum_6, ysumSize_6, hw, hP⟩ := hw
        rw [ht] at hP
        have hP : va_P D vwCl (wC q cA Fc_unkept Fc_tablesRead Pg_letters Pg_size Pg_fault Pg_rows Pg_inRow Pg_width Fl_entries Fl_states Fl_columns Fl_moves Fl_stables Fl_amiss Fl_normal Pt_lessers Pt_greaters Pt_size Lc_signals Lc_kept Lc_keptFrom Lc_candidates Lc_size Sc_signals Sc_codes Sc_size Ai_codes Ai_bits Cu_seen Cu_inThrees Cu_all (va_up Lo_asked k lo_asked) (va_up Lo_ones k lo_ones) (va_up Lo_sum k ysum_6) (va_up Lo_wideSize k lo_wideSize) (va_up Lo_sumSize k ysumSize_6) (va_up Lo_flickers k lo_flickers) (va_up Lo_ready k lo_ready) Wa_at Wa_turns Wa_changes) H := hP
        have hD : va_D A (wC q cA Fc_unkept Fc_tablesRead Pg_letters Pg_size Pg_fault Pg_rows Pg_inRow Pg_width Fl_entries Fl_states Fl_columns Fl_moves Fl_stables Fl_amiss Fl_normal Pt_lessers Pt_greaters Pt_size Lc_signals Lc_kept Lc_keptFrom Lc_candidates Lc_size Sc_signals Sc_codes Sc_size Ai_codes Ai_bits Cu_seen Cu_inThrees Cu_all (va_up Lo_asked k lo_asked) (va_up Lo_ones k lo_ones) (va_up Lo_sum k ysum_6) (va_up Lo_wideSize k lo_wideSize) (va_up Lo_sumSize k ysumSize_6) (va_up Lo_flickers k lo_flickers) (va_up Lo_ready k lo_ready) Wa_at Wa_turns Wa_changes) := dC hD
        obtain ⟨x3_7, e_7⟩ : ∃ z : Int32, z = x3 + (1 : Int32) := ⟨_, rfl⟩
        have hw := hw x3_7 e_7
        refine lv_iinc (v := x3_7) (lv' := [(3, .int x3_7), (0, .ref (q (22 + 4 * k))), (1, .ref (q 15)), (2, .int x2)]) hx hb dX4_collectSum_31 hl (k := 3) rfl (by rw [e_7]; rfl) (by decide) rfl (fun ls hl => ?_)
        refine lv_goto (tgt := 7) hx hb dX4_collectSum_34 (by decide) ?_
        exact ih _ _ _ hw ls _ _ (lv_sub hl [1, 2, 3, 0] rfl) hP hD hS
set_option maxHeartbeats 4000000 in
set_option maxRecDepth 100000 in
theorem t_X4_collectSum_85 {p : Program} {l : Launch} {e : Env} {R : Room} {s : State} {m : MethodId} {args : Array Value} {below : List Frame} {meth : Method} {c : Code} {A : Nat → Prop} {D : va_G} {q : Nat → Nat} {cA : Nat → ClassId} {Fc_unkept : Int32} {Fc_tablesRead : Int32} {Pg_letters : Nat → Int32} {Pg_size : Int32} {Pg_fault : Int32} {Pg_rows : Int32} {Pg_inRow : Int32} {Pg_width : Int32} {Fl_entries : Nat → Int32} {Fl_states : Int32} {Fl_columns : Int32} {Fl_moves : Int32} {Fl_stables : Int32} {Fl_amiss : Int32} {Fl_normal : Int32} {Pt_lessers : Nat → Int32} {Pt_greaters : Nat → Int32} {Pt_size : Int32} {Lc_signals : Nat → Int32} {Lc_kept : Nat → Int64} {Lc_keptFrom : Nat → Int64} {Lc_candidates : Int32} {Lc_size : Int32} {Sc_signals : Nat → Int32} {Sc_codes : Nat → Int32} {Sc_size : Int32} {Ai_codes : Nat → Int32} {Ai_bits : Int32} {Cu_seen : Nat → Int32} {Cu_inThrees : Nat → Int32} {Cu_all : Int32} {Lo_asked : Nat → Nat → Int32} {lo_asked : Nat → Int32} {Lo_ones : Nat → Nat → Int32} {lo_ones : Nat → Int32} {Lo_sum : Nat → Nat → Int32} {lo_sum : Nat → Int32} {Lo_wideSize : Nat → Int32} {lo_wideSize : Int32} {Lo_sumSize : Nat → Int32} {lo_sumSize : Int32} {Lo_flickers : Nat → Int32} {lo_flickers : Int32} {Lo_ready : Nat → Int32} {lo_ready : Int32} {Wa_at : Int32} {Wa_turns : Int32} {Wa_changes : Int32} {k : Nat} {post : (Nat → Int32) → Int32 → Int32 → Prop} {KL : Int32 → (Nat → Int32) → Int32 → Prop} {x2 : Int32} {x3 : Int32} {x4 : Int32} {x5 : Int32} {x6 : Int32} {v0 : Int32} (hk : k < 5) (X : kC p R s m args meth c cX4_collectSum RX4 8 none 2) (hK : va_K D vwCl (tyC cA) s) (hN : nwC s) (hL : ∀ (x5 : Int32) (lo_sum : Nat → Int32) (lo_sumSize : Int32), KL x5 lo_sum lo_sumSize → ∀ (ls : Array Slot) (H : Heap) (locs : List Loc), lv_has ls 8 [(0, .ref (q (22 + 4 * k))), (1, .ref (q 15)), (2, .int x2), (3, .int x3), (4, .int x4), (5, .int x5)] → va_P D vwCl (wC q cA Fc_unkept Fc_tablesRead Pg_letters Pg_size Pg_fault Pg_rows Pg_inRow Pg_width Fl_entries Fl_states Fl_columns Fl_moves Fl_stables Fl_amiss Fl_normal Pt_lessers Pt_greaters Pt_size Lc_signals Lc_kept Lc_keptFrom Lc_candidates Lc_size Sc_signals Sc_codes Sc_size Ai_codes Ai_bits Cu_seen Cu_inThrees Cu_all (va_up Lo_asked k lo_asked) (va_up Lo_ones k lo_ones) (va_up Lo_sum k lo_sum) (va_up Lo_wideSize k lo_wideSize) (va_up Lo_sumSize k lo_sumSize) (va_up Lo_flickers k lo_flickers) (va_up Lo_ready k lo_ready) Wa_at Wa_turns Wa_changes) H → va_D A (wC q cA Fc_unkept Fc_tablesRead Pg_letters Pg_size Pg_fault Pg_rows Pg_inRow Pg_width Fl_entries Fl_states Fl_columns Fl_moves Fl_stables Fl_amiss Fl_normal Pt_lessers Pt_greaters Pt_size Lc_signals Lc_kept Lc_keptFrom Lc_candidates Lc_size Sc_signals Sc_codes Sc_size Ai_codes Ai_bits Cu_seen Cu_inThrees Cu_all (va_up Lo_asked k lo_asked) (va_up Lo_ones k lo_ones) (va_up Lo_sum k lo_sum) (va_up Lo_wideSize k lo_wideSize) (va_up Lo_sumSize k lo_sumSize) (va_up Lo_flickers k lo_flickers) (va_up Lo_ready k lo_ready) Wa_at Wa_turns Wa_changes) → va_S A s.heap H locs → W p l e R s m args below meth c H locs 0 0 (MQ below (qWv (Z_X4_collectSum D q cA Fc_unkept Fc_tablesRead Pg_letters Pg_size Pg_fault Pg_rows Pg_inRow Pg_width Fl_entries Fl_states Fl_columns Fl_moves Fl_stables Fl_amiss Fl_normal Pt_lessers Pt_greaters Pt_size Lc_signals Lc_kept Lc_keptFrom Lc_candidates Lc_size Sc_signals Sc_codes Sc_size Ai_codes Ai_bits Cu_seen Cu_inThrees Cu_all Lo_asked lo_asked Lo_ones lo_ones Lo_sum Lo_wideSize lo_wideSize Lo_sumSize Lo_flickers Lo_ready lo_ready Wa_at Wa_turns Wa_changes k post) A) args s 0 0 A) (F0 m 57 ls [])) (hw : j_X4_collectSum_85 KL Ai_codes lo_asked lo_ones lo_sum lo_wideSize lo_sumSize x2 x4 x5 x6 v0) (ls : Array Slot) (H : Heap) (locs : List Loc) (hl : lv_has ls 8 [(0, .ref (q (22 + 4 * k))), (1, .ref (q 15)), (2, .int x2), (3, .int x3), (4, .int x4), (5, .int x5), (6, .int x6)]) (hP : va_P D vwCl (wC q cA Fc_unkept Fc_tablesRead Pg_letters Pg_size Pg_fault Pg_rows Pg_inRow Pg_width Fl_entries Fl_states Fl_columns Fl_moves Fl_stables Fl_amiss Fl_normal Pt_lessers Pt_greaters Pt_size Lc_signals Lc_kept Lc_keptFrom Lc_candidates Lc_size Sc_signals Sc_codes Sc_size Ai_codes Ai_bits Cu_seen Cu_inThrees Cu_all (va_up Lo_asked k lo_asked) (va_up Lo_ones k lo_ones) (va_up Lo_sum k lo_sum) (va_up Lo_wideSize k lo_wideSize) (va_up Lo_sumSize k lo_sumSize) (va_up Lo_flickers k lo_flickers) (va_up Lo_ready k lo_ready) Wa_at Wa_turns Wa_changes) H) (hD : va_D A (wC q cA Fc_unkept Fc_tablesRead Pg_letters Pg_size Pg_fault Pg_rows Pg_inRow Pg_width Fl_entries Fl_states Fl_columns Fl_moves Fl_stables Fl_amiss Fl_normal Pt_lessers Pt_greaters Pt_size Lc_signals Lc_kept Lc_keptFrom Lc_candidates Lc_size Sc_signals Sc_codes Sc_size Ai_codes Ai_bits Cu_seen Cu_inThrees Cu_all (va_up Lo_asked k lo_asked) (va_up Lo_ones k lo_ones) (va_up Lo_sum k lo_sum) (va_up Lo_wideSize k lo_wideSize) (va_up Lo_sumSize k lo_sumSize) (va_up Lo_flickers k lo_flickers) (va_up Lo_ready k lo_ready) Wa_at Wa_turns Wa_changes)) (hS : va_S A s.heap H locs) : W p l e R s m args below meth c H locs 0 0 (MQ below (qWv (Z_X4_collectSum D q cA Fc_unkept Fc_tablesRead Pg_letters Pg_size Pg_fault Pg_rows Pg_inRow Pg_width Fl_entries Fl_states Fl_columns Fl_moves Fl_stables Fl_amiss Fl_normal Pt_lessers Pt_greaters Pt_size Lc_signals Lc_kept Lc_keptFrom Lc_candidates Lc_size Sc_signals Sc_codes Sc_size Ai_codes Ai_bits Cu_seen Cu_inThrees Cu_all Lo_asked lo_asked Lo_ones lo_ones Lo_sum Lo_wideSize lo_wideSize Lo_sumSize Lo_flickers Lo_ready lo_ready Wa_at Wa_turns Wa_changes k post) A) args s 0 0 A) (F0 m 85 ls [.int v0]) := by
  obtain ⟨hx, hb, hml, hown, hts, hr, hlocks, hRf, hRl⟩ := id X
  refine lv_istore (lv' := [(7, .int v0), (0, .ref (q (22 + 4 * k))), (1, .ref (q 15)), (2, .int x2), (3, .int x3), (4, .int x4), (5, .int x5), (6, .int x6)]) hx hb dX4_collectSum_85 hl (by decide) rfl (fun ls hl => ?_)
  refine lv_iload hx hb dX4_collectSum_87 (lv_at hl 0 rfl) ?_
  refine lv_if_eq (tgt := 125) hx hb dX4_collectSum_89 (by decide) (fun c_14 => ?_) (fun c_14 => ?_)
  · have hw := hw.1 c_14
    obtain ⟨x5_15, e_15⟩ : ∃ z : Int32, z = x5 + (1 : Int32) := ⟨_, rfl⟩
    have hw := hw x5_15 e_15
    refine lv_iinc (v := x5_15) (lv' := [(5, .int x5_15), (7, .int v0), (0, .ref (q (22 + 4 * k))), (1, .ref (q 15)), (2, .int x2), (3, .int x3), (4, .int x4), (6, .int x6)]) hx hb dX4_collectSum_125 hl (k := 6) rfl (by rw [e_15]; rfl) (by decide) rfl (fun ls hl => ?_)
    refine lv_goto (tgt := 57) hx hb dX4_collectSum_128 (by decide) ?_
    exact hL _ _ _ hw ls _ _ (lv_sub hl [2, 3, 4, 5, 6, 0] rfl) hP hD hS
  · have hw := hw.2 c_14
    refine lv_aload_n hx hb dX4_collectSum_92 rfl (lv_at hl 2 rfl) ?_
    refine lv_iload_n hx hb dX4_collectSum_93 rfl (lv_at hl 3 rfl) ?_
    refine lv_iload hx hb dX4_collectSum_94 (lv_at hl 5 rfl) ?_
    refine ro_i (va_runV (As := [.int x2, .int x4]) (rest := []) ⟨hx, hb, hml, hown, hts⟩ (c_X0_at l hw) (kRX4_49 (h := 0) hts (Nat.le_trans (Nat.le_of_ble_eq_true rfl) hRf) (Nat.le_trans (Nat.le_of_ble_eq_true rfl) hRl)) (preX0 hK hN hP) rfl rfl hl.1 rfl (lv_room (Nat.le_of_ble_eq_true rfl)) dX4_collectSum_96 ⟨Nat.zero_le _, Nat.zero_le _⟩) (fun r_16 hw => ?_)
    refine lv_iconst (v := (1 : Int32)) hx hb dX4_collectSum_99 (by decide) ?_
    refine lv_icmp_ne (tgt := 125) hx hb dX4_collectSum_100 (by decide) (fun c_17 => ?_) (fun c_17 => ?_)
    · have hw := hw.2 c_17
      obtain ⟨x5_18, e_18⟩ : ∃ z : Int32, z = x5 + (1 : Int32) := ⟨_, rfl⟩
      have hw := hw x5_18 e_18
      refine lv_iinc (v := x5_18) (lv' := [(5, .int x5_18), (7, .int v0), (0, .ref (q (22 + 4 * k))), (1, .ref (q 15)), (2, .int x2), (3, .int x3), (4, .int x4), (6, .int x6)]) hx hb dX4_collectSum_125 hl (k := 6) rfl (by rw [e_18]; rfl) (by decide) rfl (fun ls hl => ?_)
      refine lv_goto (tgt := 57) hx hb dX4_collectSum_128 (by decide) ?_
      exact hL _ _ _ hw ls _ _ (lv_sub hl [2, 3, 4, 5, 6, 0] rfl) hP hD hS
    · have hw := hw.1 c_17
      refine lv_aload_n hx hb dX4_collectSum_103 rfl (lv_at hl 2 rfl) ?_
      refine lv_iload_n hx hb dX4_collectSum_104 rfl (lv_at hl 3 rfl) ?_
      refine lv_iload hx hb dX4_collectSum_105 (lv_at hl 5 rfl) ?_
      refine lv_iload hx hb dX4_collectSum_107 (lv_at hl 7 rfl) ?_
      refine lv_ior hx hb dX4_collectSum_109 ?_
      refine ro_i (va_runV (As := [.int x2, .int (x4 ||| x6)]) (rest := []) ⟨hx, hb, hml, hown, hts⟩ (c_X0_at l hw) (kRX4_49 (h := 0) hts (Nat.le_trans (Nat.le_of_ble_eq_true rfl) hRf) (Nat.le_trans (Nat.le_of_ble_eq_true rfl) hRl)) (preX0 hK hN hP) rfl rfl hl.1 rfl (lv_room (Nat.le_of_ble_eq_true rfl)) dX4_collectSum_110 ⟨Nat.zero_le _, Nat.zero_le _⟩) (fun r_19 hw => ?_)
      refine lv_iconst (v := (1 : Int32)) hx hb dX4_collectSum_113 (by decide) ?_
      refine lv_icmp_ne (tgt := 125) hx hb dX4_collectSum_114 (by decide) (fun c_20 => ?_) (fun c_20 => ?_)
      · have hw := hw.2 c_20
        obtain ⟨x5_21, e_21⟩ : ∃ z : Int32, z = x5 + (1 : Int32) := ⟨_, rfl⟩
        have hw := hw x5_21 e_21
        refine lv_iinc (v := x5_21) (lv' := [(5, .int x5_21), (7, .int v0), (0, .ref (q (22 + 4 * k))), (1, .ref (q 15)), (2, .int x2), (3, .int x3), (4, .int x4), (6, .int x6)]) hx hb dX4_collectSum_125 hl (k := 6) rfl (by rw [e_21]; rfl) (by decide) rfl (fun ls hl => ?_)
        refine lv_goto (tgt := 57) hx hb dX4_collectSum_128 (by decide) ?_
        exact hL _ _ _ hw ls _ _ (lv_sub hl [2, 3, 4, 5, 6, 0] rfl) hP hD hS
      · have hw := hw.1 c_20
        refine lv_aload_n hx hb dX4_collectSum_117 rfl (lv_at hl 1 rfl) ?_
        refine lv_iload hx hb dX4_collectSum_118 (lv_at hl 5 rfl) ?_
        refine lv_iload hx hb dX4_collectSum_120 (lv_at hl 7 rfl) ?_
        refine wr_v (va_runV (As := [.int x4, .int x6]) (rest := []) ⟨hx, hb, hml, hown, hts⟩ (c_X4_cover l (k := k) hk hw) (kRX4_53 (h := 1) hts (Nat.le_trans (Nat.le_of_ble_eq_true rfl) hRf) (Nat.le_trans (Nat.le_of_ble_eq_true rfl) hRl)) (preX4w (k := k) hk hK hN hP hD) rfl rfl hl.1 rfl (lv_room (Nat.le_of_ble_eq_true rfl)) dX4_collectSum_122 ⟨Nat.zero_le _, Nat.zero_le _⟩) hS (fun t H locs ht hw hS => ?_)
        obtain ⟨ysum_22, ysumSize_22, hw, hP⟩ := hw
        rw [ht] at hP
        have hP : va_P D vwCl (wC q cA Fc_unkept Fc_tablesRead Pg_letters Pg_size Pg_fault Pg_rows Pg_inRow Pg_width Fl_entries Fl_states Fl_columns Fl_moves Fl_stables Fl_amiss Fl_normal Pt_lessers Pt_greaters Pt_size Lc_signals Lc_kept Lc_keptFrom Lc_candidates Lc_size Sc_signals Sc_codes Sc_size Ai_codes Ai_bits Cu_seen Cu_inThrees Cu_all (va_up Lo_asked k lo_asked) (va_up Lo_ones k lo_ones) (va_up Lo_sum k ysum_22) (va_up Lo_wideSize k lo_wideSize) (va_up Lo_sumSize k ysumSize_22) (va_up Lo_flickers k lo_flickers) (va_up Lo_ready k lo_ready) Wa_at Wa_turns Wa_changes) H := hP
        have hD : va_D A (wC q cA Fc_unkept Fc_tablesRead Pg_letters Pg_size Pg_fault Pg_rows Pg_inRow Pg_width Fl_entries Fl_states Fl_columns Fl_moves Fl_stables Fl_amiss Fl_normal Pt_lessers Pt_greaters Pt_size Lc_signals Lc_kept Lc_keptFrom Lc_candidates Lc_size Sc_signals Sc_codes Sc_size Ai_codes Ai_bits Cu_seen Cu_inThrees Cu_all (va_up Lo_asked k lo_asked) (va_up Lo_ones k lo_ones) (va_up Lo_sum k ysum_22) (va_up Lo_wideSize k lo_wideSize) (va_up Lo_sumSize k ysumSize_22) (va_up Lo_flickers k lo_flickers) (va_up Lo_ready k lo_ready) Wa_at Wa_turns Wa_changes) := dC hD
        obtain ⟨x5_23, e_23⟩ : ∃ z : Int32, z = x5 + (1 : Int32) := ⟨_, rfl⟩
        have hw := hw x5_23 e_23
        refine lv_iinc (v := x5_23) (lv' := [(5, .int x5_23), (7, .int v0), (0, .ref (q (22 + 4 * k))), (1, .ref (q 15)), (2, .int x2), (3, .int x3), (4, .int x4), (6, .int x6)]) hx hb dX4_collectSum_125 hl (k := 6) rfl (by rw [e_23]; rfl) (by decide) rfl (fun ls hl => ?_)
        refine lv_goto (tgt := 57) hx hb dX4_collectSum_128 (by decide) ?_
        exact hL _ _ _ hw ls _ _ (lv_sub hl [2, 3, 4, 5, 6, 0] rfl) hP hD hS
set_option maxHeartbeats 4000000 in
set_option maxRecDepth 100000 in
theorem t_X4_collectSum_57 {p : Program} {l : Launch} {e : Env} {R : Room} {s : State} {m : MethodId} {args : Array Value} {below : List Frame} {meth : Method} {c : Code} {A : Nat → Prop} {D : va_G} {q : Nat → Nat} {cA : Nat → ClassId} {Fc_unkept : Int32} {Fc_tablesRead : Int32} {Pg_letters : Nat → Int32} {Pg_size : Int32} {Pg_fault : Int32} {Pg_rows : Int32} {Pg_inRow : Int32} {Pg_width : Int32} {Fl_entries : Nat → Int32} {Fl_states : Int32} {Fl_columns : Int32} {Fl_moves : Int32} {Fl_stables : Int32} {Fl_amiss : Int32} {Fl_normal : Int32} {Pt_lessers : Nat → Int32} {Pt_greaters : Nat → Int32} {Pt_size : Int32} {Lc_signals : Nat → Int32} {Lc_kept : Nat → Int64} {Lc_keptFrom : Nat → Int64} {Lc_candidates : Int32} {Lc_size : Int32} {Sc_signals : Nat → Int32} {Sc_codes : Nat → Int32} {Sc_size : Int32} {Ai_codes : Nat → Int32} {Ai_bits : Int32} {Cu_seen : Nat → Int32} {Cu_inThrees : Nat → Int32} {Cu_all : Int32} {Lo_asked : Nat → Nat → Int32} {lo_asked : Nat → Int32} {Lo_ones : Nat → Nat → Int32} {lo_ones : Nat → Int32} {Lo_sum : Nat → Nat → Int32} {Lo_wideSize : Nat → Int32} {lo_wideSize : Int32} {Lo_sumSize : Nat → Int32} {Lo_flickers : Nat → Int32} {lo_flickers : Int32} {Lo_ready : Nat → Int32} {lo_ready : Int32} {Wa_at : Int32} {Wa_turns : Int32} {Wa_changes : Int32} {k : Nat} {post : (Nat → Int32) → Int32 → Int32 → Prop} {KE : (Nat → Int32) → Int32 → Prop} {x2 : Int32} {x3 : Int32} {x4 : Int32} (hk : k < 5) (X : kC p R s m args meth c cX4_collectSum RX4 8 none 2) (hK : va_K D vwCl (tyC cA) s) (hN : nwC s) (hE : ∀ (lo_sum : Nat → Int32) (lo_sumSize : Int32), KE lo_sum lo_sumSize → ∀ (ls : Array Slot) (H : Heap) (locs : List Loc), lv_has ls 8 [(0, .ref (q (22 + 4 * k))), (1, .ref (q 15)), (2, .int x2), (3, .int x3), (4, .int x4)] → va_P D vwCl (wC q cA Fc_unkept Fc_tablesRead Pg_letters Pg_size Pg_fault Pg_rows Pg_inRow Pg_width Fl_entries Fl_states Fl_columns Fl_moves Fl_stables Fl_amiss Fl_normal Pt_lessers Pt_greaters Pt_size Lc_signals Lc_kept Lc_keptFrom Lc_candidates Lc_size Sc_signals Sc_codes Sc_size Ai_codes Ai_bits Cu_seen Cu_inThrees Cu_all (va_up Lo_asked k lo_asked) (va_up Lo_ones k lo_ones) (va_up Lo_sum k lo_sum) (va_up Lo_wideSize k lo_wideSize) (va_up Lo_sumSize k lo_sumSize) (va_up Lo_flickers k lo_flickers) (va_up Lo_ready k lo_ready) Wa_at Wa_turns Wa_changes) H → va_D A (wC q cA Fc_unkept Fc_tablesRead Pg_letters Pg_size Pg_fault Pg_rows Pg_inRow Pg_width Fl_entries Fl_states Fl_columns Fl_moves Fl_stables Fl_amiss Fl_normal Pt_lessers Pt_greaters Pt_size Lc_signals Lc_kept Lc_keptFrom Lc_candidates Lc_size Sc_signals Sc_codes Sc_size Ai_codes Ai_bits Cu_seen Cu_inThrees Cu_all (va_up Lo_asked k lo_asked) (va_up Lo_ones k lo_ones) (va_up Lo_sum k lo_sum) (va_up Lo_wideSize k lo_wideSize) (va_up Lo_sumSize k lo_sumSize) (va_up Lo_flickers k lo_flickers) (va_up Lo_ready k lo_ready) Wa_at Wa_turns Wa_changes) → va_S A s.heap H locs → W p l e R s m args below meth c H locs 0 0 (MQ below (qWv (Z_X4_collectSum D q cA Fc_unkept Fc_tablesRead Pg_letters Pg_size Pg_fault Pg_rows Pg_inRow Pg_width Fl_entries Fl_states Fl_columns Fl_moves Fl_stables Fl_amiss Fl_normal Pt_lessers Pt_greaters Pt_size Lc_signals Lc_kept Lc_keptFrom Lc_candidates Lc_size Sc_signals Sc_codes Sc_size Ai_codes Ai_bits Cu_seen Cu_inThrees Cu_all Lo_asked lo_asked Lo_ones lo_ones Lo_sum Lo_wideSize lo_wideSize Lo_sumSize Lo_flickers Lo_ready lo_ready Wa_at Wa_turns Wa_changes k post) A) args s 0 0 A) (F0 m 131 ls [])) : ∀ (n : Nat) (x5 : Int32) (lo_sum : Nat → Int32) (lo_sumSize : Int32), w_X4_collectSum_57 KE Ai_codes Ai_bits lo_asked lo_ones lo_wideSize x2 x4 n x5 lo_sum lo_sumSize → ∀ (ls : Array Slot) (H : Heap) (locs : List Loc), lv_has ls 8 [(0, .ref (q (22 + 4 * k))), (1, .ref (q 15)), (2, .int x2), (3, .int x3), (4, .int x4), (5, .int x5)] → va_P D vwCl (wC q cA Fc_unkept Fc_tablesRead Pg_letters Pg_size Pg_fault Pg_rows Pg_inRow Pg_width Fl_entries Fl_states Fl_columns Fl_moves Fl_stables Fl_amiss Fl_normal Pt_lessers Pt_greaters Pt_size Lc_signals Lc_kept Lc_keptFrom Lc_candidates Lc_size Sc_signals Sc_codes Sc_size Ai_codes Ai_bits Cu_seen Cu_inThrees Cu_all (va_up Lo_asked k lo_asked) (va_up Lo_ones k lo_ones) (va_up Lo_sum k lo_sum) (va_up Lo_wideSize k lo_wideSize) (va_up Lo_sumSize k lo_sumSize) (va_up Lo_flickers k lo_flickers) (va_up Lo_ready k lo_ready) Wa_at Wa_turns Wa_changes) H → va_D A (wC q cA Fc_unkept Fc_tablesRead Pg_letters Pg_size Pg_fault Pg_rows Pg_inRow Pg_width Fl_entries Fl_states Fl_columns Fl_moves Fl_stables Fl_amiss Fl_normal Pt_lessers Pt_greaters Pt_size Lc_signals Lc_kept Lc_keptFrom Lc_candidates Lc_size Sc_signals Sc_codes Sc_size Ai_codes Ai_bits Cu_seen Cu_inThrees Cu_all (va_up Lo_asked k lo_asked) (va_up Lo_ones k lo_ones) (va_up Lo_sum k lo_sum) (va_up Lo_wideSize k lo_wideSize) (va_up Lo_sumSize k lo_sumSize) (va_up Lo_flickers k lo_flickers) (va_up Lo_ready k lo_ready) Wa_at Wa_turns Wa_changes) → va_S A s.heap H locs → W p l e R s m args below meth c H locs 0 0 (MQ below (qWv (Z_X4_collectSum D q cA Fc_unkept Fc_tablesRead Pg_letters Pg_size Pg_fault Pg_rows Pg_inRow Pg_width Fl_entries Fl_states Fl_columns Fl_moves Fl_stables Fl_amiss Fl_normal Pt_lessers Pt_greaters Pt_size Lc_signals Lc_kept Lc_keptFrom Lc_candidates Lc_size Sc_signals Sc_codes Sc_size Ai_codes Ai_bits Cu_seen Cu_inThrees Cu_all Lo_asked lo_asked Lo_ones lo_ones Lo_sum Lo_wideSize lo_wideSize Lo_sumSize Lo_flickers Lo_ready lo_ready Wa_at Wa_turns Wa_changes k post) A) args s 0 0 A) (F0 m 57 ls []) := by
  obtain ⟨hx, hb, hml, hown, hts, hr, hlocks, hRf, hRl⟩ := id X
  intro n
  induction n with
  | zero => intro x5 lo_sum lo_sumSize hw; exact (show False from hw).elim
  | succ n ih =>
    intro x5 lo_sum lo_sumSize hw ls H locs hl hP hD hS
    refine lv_iload hx hb dX4_collectSum_57 (lv_at hl 5 rfl) ?_
    refine lv_aload_n hx hb dX4_collectSum_59 rfl (lv_at hl 1 rfl) ?_
    refine gRX4_57 hx hb hown hts hK hN hP dX4_collectSum_60 ?_
    refine lv_icmp_ge (tgt := 131) hx hb dX4_collectSum_63 (by decide) (fun c_11 => ?_) (fun c_11 => ?_)
    · have hw := hw.1 c_11
      exact hE _ _ hw ls _ _ (lv_sub hl [0, 1, 2, 3, 4] rfl) hP hD hS
    · have hw := hw.2 c_11
      refine lv_iconst (v := (1 : Int32)) hx hb dX4_collectSum_66 (by decide) ?_
      refine lv_iload hx hb dX4_collectSum_67 (lv_at hl 5 rfl) ?_
      refine lv_ishl hx hb dX4_collectSum_69 ?_
      refine lv_topi (fun x6_12 e_12 => ?_)
      have hw := hw x6_12 e_12
      refine lv_istore (lv' := [(6, .int x6_12), (0, .ref (q (22 + 4 * k))), (1, .ref (q 15)), (2, .int x2), (3, .int x3), (4, .int x4), (5, .int x5)]) hx hb dX4_collectSum_70 hl (by decide) rfl (fun ls hl => ?_)
      refine lv_iload hx hb dX4_collectSum_72 (lv_at hl 5 rfl) ?_
      refine lv_iload hx hb dX4_collectSum_74 (lv_at hl 0 rfl) ?_
      refine lv_iand hx hb dX4_collectSum_76 ?_
      refine lv_if_ne (tgt := 84) hx hb dX4_collectSum_77 (by decide) (fun c_13 => ?_) (fun c_13 => ?_)
      · have hw := hw.2 c_13
        refine lv_iconst (v := (0 : Int32)) hx hb dX4_collectSum_84 (by decide) ?_
        exact t_X4_collectSum_85 hk X hK hN ih hw ls _ _ (lv_sub hl [1, 2, 3, 4, 5, 6, 0] rfl) hP hD hS
      · have hw := hw.1 c_13
        refine lv_iconst (v := (1 : Int32)) hx hb dX4_collectSum_80 (by decide) ?_
        refine lv_goto (tgt := 85) hx hb dX4_collectSum_81 (by decide) ?_
        exact t_X4_collectSum_85 hk X hK hN ih hw ls _ _ (lv_sub hl [1, 2, 3, 4, 5, 6, 0] rfl) hP hD hS
set_option maxHeartbeats 4000000 in
set_option maxRecDepth 100000 in
theorem t_X4_collectSum_45 {p : Program} {l : Launch} {e : Env} {R : Room} {s : State} {m : MethodId} {args : Array Value} {below : List Frame} {meth : Method} {c : Code} {A : Nat → Prop} {D : va_G} {q : Nat → Nat} {cA : Nat → ClassId} {Fc_unkept : Int32} {Fc_tablesRead : Int32} {Pg_letters : Nat → Int32} {Pg_size : Int32} {Pg_fault : Int32} {Pg_rows : Int32} {Pg_inRow : Int32} {Pg_width : Int32} {Fl_entries : Nat → Int32} {Fl_states : Int32} {Fl_columns : Int32} {Fl_moves : Int32} {Fl_stables : Int32} {Fl_amiss : Int32} {Fl_normal : Int32} {Pt_lessers : Nat → Int32} {Pt_greaters : Nat → Int32} {Pt_size : Int32} {Lc_signals : Nat → Int32} {Lc_kept : Nat → Int64} {Lc_keptFrom : Nat → Int64} {Lc_candidates : Int32} {Lc_size : Int32} {Sc_signals : Nat → Int32} {Sc_codes : Nat → Int32} {Sc_size : Int32} {Ai_codes : Nat → Int32} {Ai_bits : Int32} {Cu_seen : Nat → Int32} {Cu_inThrees : Nat → Int32} {Cu_all : Int32} {Lo_asked : Nat → Nat → Int32} {lo_asked : Nat → Int32} {Lo_ones : Nat → Nat → Int32} {lo_ones : Nat → Int32} {Lo_sum : Nat → Nat → Int32} {Lo_wideSize : Nat → Int32} {lo_wideSize : Int32} {Lo_sumSize : Nat → Int32} {Lo_flickers : Nat → Int32} {lo_flickers : Int32} {Lo_ready : Nat → Int32} {lo_ready : Int32} {Wa_at : Int32} {Wa_turns : Int32} {Wa_changes : Int32} {k : Nat} {post : (Nat → Int32) → Int32 → Int32 → Prop} {KE : (Nat → Int32) → Int32 → Prop} {x2 : Int32} {x3 : Int32} (hk : k < 5) (X : kC p R s m args meth c cX4_collectSum RX4 8 none 2) (hK : va_K D vwCl (tyC cA) s) (hN : nwC s) (hE : ∀ (lo_sum : Nat → Int32) (lo_sumSize : Int32), KE lo_sum lo_sumSize → ∀ (ls : Array Slot) (H : Heap) (locs : List Loc), lv_has ls 8 [(0, .ref (q (22 + 4 * k))), (3, .int x3)] → va_P D vwCl (wC q cA Fc_unkept Fc_tablesRead Pg_letters Pg_size Pg_fault Pg_rows Pg_inRow Pg_width Fl_entries Fl_states Fl_columns Fl_moves Fl_stables Fl_amiss Fl_normal Pt_lessers Pt_greaters Pt_size Lc_signals Lc_kept Lc_keptFrom Lc_candidates Lc_size Sc_signals Sc_codes Sc_size Ai_codes Ai_bits Cu_seen Cu_inThrees Cu_all (va_up Lo_asked k lo_asked) (va_up Lo_ones k lo_ones) (va_up Lo_sum k lo_sum) (va_up Lo_wideSize k lo_wideSize) (va_up Lo_sumSize k lo_sumSize) (va_up Lo_flickers k lo_flickers) (va_up Lo_ready k lo_ready) Wa_at Wa_turns Wa_changes) H → va_D A (wC q cA Fc_unkept Fc_tablesRead Pg_letters Pg_size Pg_fault Pg_rows Pg_inRow Pg_width Fl_entries Fl_states Fl_columns Fl_moves Fl_stables Fl_amiss Fl_normal Pt_lessers Pt_greaters Pt_size Lc_signals Lc_kept Lc_keptFrom Lc_candidates Lc_size Sc_signals Sc_codes Sc_size Ai_codes Ai_bits Cu_seen Cu_inThrees Cu_all (va_up Lo_asked k lo_asked) (va_up Lo_ones k lo_ones) (va_up Lo_sum k lo_sum) (va_up Lo_wideSize k lo_wideSize) (va_up Lo_sumSize k lo_sumSize) (va_up Lo_flickers k lo_flickers) (va_up Lo_ready k lo_ready) Wa_at Wa_turns Wa_changes) → va_S A s.heap H locs → W p l e R s m args below meth c H locs 0 0 (MQ below (qWv (Z_X4_collectSum D q cA Fc_unkept Fc_tablesRead Pg_letters Pg_size Pg_fault Pg_rows Pg_inRow Pg_width Fl_entries Fl_states Fl_columns Fl_moves Fl_stables Fl_amiss Fl_normal Pt_lessers Pt_greaters Pt_size Lc_signals Lc_kept Lc_keptFrom Lc_candidates Lc_size Sc_signals Sc_codes Sc_size Ai_codes Ai_bits Cu_seen Cu_inThrees Cu_all Lo_asked lo_asked Lo_ones lo_ones Lo_sum Lo_wideSize lo_wideSize Lo_sumSize Lo_flickers Lo_ready lo_ready Wa_at Wa_turns Wa_changes k post) A) args s 0 0 A) (F0 m 137 ls [])) : ∀ (n : Nat) (x4 : Int32) (lo_sum : Nat → Int32) (lo_sumSize : Int32), w_X4_collectSum_45 KE Ai_codes Ai_bits lo_asked lo_ones lo_wideSize x2 n x4 lo_sum lo_sumSize → ∀ (ls : Array Slot) (H : Heap) (locs : List Loc), lv_has ls 8 [(0, .ref (q (22 + 4 * k))), (1, .ref (q 15)), (2, .int x2), (3, .int x3), (4, .int x4)] → va_P D vwCl (wC q cA Fc_unkept Fc_tablesRead Pg_letters Pg_size Pg_fault Pg_rows Pg_inRow Pg_width Fl_entries Fl_states Fl_columns Fl_moves Fl_stables Fl_amiss Fl_normal Pt_lessers Pt_greaters Pt_size Lc_signals Lc_kept Lc_keptFrom Lc_candidates Lc_size Sc_signals Sc_codes Sc_size Ai_codes Ai_bits Cu_seen Cu_inThrees Cu_all (va_up Lo_asked k lo_asked) (va_up Lo_ones k lo_ones) (va_up Lo_sum k lo_sum) (va_up Lo_wideSize k lo_wideSize) (va_up Lo_sumSize k lo_sumSize) (va_up Lo_flickers k lo_flickers) (va_up Lo_ready k lo_ready) Wa_at Wa_turns Wa_changes) H → va_D A (wC q cA Fc_unkept Fc_tablesRead Pg_letters Pg_size Pg_fault Pg_rows Pg_inRow Pg_width Fl_entries Fl_states Fl_columns Fl_moves Fl_stables Fl_amiss Fl_normal Pt_lessers Pt_greaters Pt_size Lc_signals Lc_kept Lc_keptFrom Lc_candidates Lc_size Sc_signals Sc_codes Sc_size Ai_codes Ai_bits Cu_seen Cu_inThrees Cu_all (va_up Lo_asked k lo_asked) (va_up Lo_ones k lo_ones) (va_up Lo_sum k lo_sum) (va_up Lo_wideSize k lo_wideSize) (va_up Lo_sumSize k lo_sumSize) (va_up Lo_flickers k lo_flickers) (va_up Lo_ready k lo_ready) Wa_at Wa_turns Wa_changes) → va_S A s.heap H locs → W p l e R s m args below meth c H locs 0 0 (MQ below (qWv (Z_X4_collectSum D q cA Fc_unkept Fc_tablesRead Pg_letters Pg_size Pg_fault Pg_rows Pg_inRow Pg_width Fl_entries Fl_states Fl_columns Fl_moves Fl_stables Fl_amiss Fl_normal Pt_lessers Pt_greaters Pt_size Lc_signals Lc_kept Lc_keptFrom Lc_candidates Lc_size Sc_signals Sc_codes Sc_size Ai_codes Ai_bits Cu_seen Cu_inThrees Cu_all Lo_asked lo_asked Lo_ones lo_ones Lo_sum Lo_wideSize lo_wideSize Lo_sumSize Lo_flickers Lo_ready lo_ready Wa_at Wa_turns Wa_changes k post) A) args s 0 0 A) (F0 m 45 ls []) := by
  obtain ⟨hx, hb, hml, hown, hts, hr, hlocks, hRf, hRl⟩ := id X
  intro n
  induction n with
  | zero => intro x4 lo_sum lo_sumSize hw; exact (show False from hw).elim
  | succ n ih =>
    intro x4 lo_sum lo_sumSize hw ls H locs hl hP hD hS
    have hw : (wp_X0_points (fun (r_9 : Int32) => ((r_9 ≤ x4 → KE lo_sum lo_sumSize) ∧ (¬ r_9 ≤ x4 → (∃ fu : Nat, w_X4_collectSum_57 (fun (ysum_24 : Nat → Int32) (ysumSize_24 : Int32) => (∀ x4_25 : Int32, x4_25 = x4 + (1 : Int32) → w_X4_collectSum_45 KE Ai_codes Ai_bits lo_asked lo_ones lo_wideSize x2 n x4_25 ysum_24 ysumSize_24)) Ai_codes Ai_bits lo_asked lo_ones lo_wideSize x2 x4 fu (0 : Int32) lo_sum lo_sumSize)))) Ai_bits) := hw
    refine lv_iload hx hb dX4_collectSum_45 (lv_at hl 4 rfl) ?_
    refine lv_aload_n hx hb dX4_collectSum_47 rfl (lv_at hl 1 rfl) ?_
    refine ro_i (va_runV (As := []) (rest := [.int x4]) ⟨hx, hb, hml, hown, hts⟩ (c_X0_points l hw) (kRX4_43 (h := 0) hts (Nat.le_trans (Nat.le_of_ble_eq_true rfl) hRf) (Nat.le_trans (Nat.le_of_ble_eq_true rfl) hRl)) (preX0 hK hN hP) rfl rfl hl.1 rfl (lv_room (Nat.le_of_ble_eq_true rfl)) dX4_collectSum_48 ⟨Nat.zero_le _, Nat.zero_le _⟩) (fun r_9 hw => ?_)
    refine lv_icmp_ge (tgt := 137) hx hb dX4_collectSum_51 (by decide) (fun c_10 => ?_) (fun c_10 => ?_)
    · have hw := hw.1 c_10
      exact hE _ _ hw ls _ _ (lv_sub hl [0, 3] rfl) hP hD hS
    · have hw := hw.2 c_10
      refine lv_iconst (v := (0 : Int32)) hx hb dX4_collectSum_54 (by decide) ?_
      refine lv_istore (lv' := [(5, .int (0 : Int32)), (0, .ref (q (22 + 4 * k))), (1, .ref (q 15)), (2, .int x2), (3, .int x3), (4, .int x4)]) hx hb dX4_collectSum_55 hl (by decide) rfl (fun ls hl => ?_)
      obtain ⟨n_24, hw⟩ := hw
      refine t_X4_collectSum_57 hk X hK hN (fun ysum_24 ysumSize_24 hw ls H locs hl hP hD hS => ?_) n_24 _ _ _ hw ls _ _ (lv_sub hl [1, 2, 3, 4, 5, 0] rfl) hP hD hS
      obtain ⟨x4_25, e_25⟩ : ∃ z : Int32, z = x4 + (1 : Int32) := ⟨_, rfl⟩
      have hw := hw x4_25 e_25
      refine lv_iinc (v := x4_25) (lv' := [(4, .int x4_25), (0, .ref (q (22 + 4 * k))), (1, .ref (q 15)), (2, .int x2), (3, .int x3)]) hx hb dX4_collectSum_131 hl (k := 4) rfl (by rw [e_25]; rfl) (by decide) rfl (fun ls hl => ?_)
      refine lv_goto (tgt := 45) hx hb dX4_collectSum_134 (by decide) ?_
      exact ih _ _ _ hw ls _ _ (lv_sub hl [1, 2, 3, 4, 0] rfl) hP hD hS
set_option maxHeartbeats 4000000 in
set_option maxRecDepth 100000 in
theorem c_X4_collectSum (l : Launch) {D : va_G} {q : Nat → Nat} {cA : Nat → ClassId} {Fc_unkept : Int32} {Fc_tablesRead : Int32} {Pg_letters : Nat → Int32} {Pg_size : Int32} {Pg_fault : Int32} {Pg_rows : Int32} {Pg_inRow : Int32} {Pg_width : Int32} {Fl_entries : Nat → Int32} {Fl_states : Int32} {Fl_columns : Int32} {Fl_moves : Int32} {Fl_stables : Int32} {Fl_amiss : Int32} {Fl_normal : Int32} {Pt_lessers : Nat → Int32} {Pt_greaters : Nat → Int32} {Pt_size : Int32} {Lc_signals : Nat → Int32} {Lc_kept : Nat → Int64} {Lc_keptFrom : Nat → Int64} {Lc_candidates : Int32} {Lc_size : Int32} {Sc_signals : Nat → Int32} {Sc_codes : Nat → Int32} {Sc_size : Int32} {Ai_codes : Nat → Int32} {Ai_bits : Int32} {Cu_seen : Nat → Int32} {Cu_inThrees : Nat → Int32} {Cu_all : Int32} {Lo_asked : Nat → Nat → Int32} {lo_asked : Nat → Int32} {Lo_ones : Nat → Nat → Int32} {lo_ones : Nat → Int32} {Lo_sum : Nat → Nat → Int32} {lo_sum : Nat → Int32} {Lo_wideSize : Nat → Int32} {lo_wideSize : Int32} {Lo_sumSize : Nat → Int32} {lo_sumSize : Int32} {Lo_flickers : Nat → Int32} {lo_flickers : Int32} {Lo_ready : Nat → Int32} {lo_ready : Int32} {Wa_at : Int32} {Wa_turns : Int32} {Wa_changes : Int32} {k : Nat} {A : Nat → Prop} {post : (Nat → Int32) → Int32 → Int32 → Prop} {x2 : Int32} (hk : k < 5) (hw : wp_X4_collectSum post Ai_codes Ai_bits lo_asked lo_ones lo_sum lo_wideSize lo_sumSize lo_flickers x2) : Met l yX4_collectSum (Cond.code yX4_collectSum cX4_collectSum 8 none :: wsL_law) (rmH 2) (va_Pc [.ref (q (22 + 4 * k)), .ref (q 15), .int x2] (fun U => va_P D vwCl (wC q cA Fc_unkept Fc_tablesRead Pg_letters Pg_size Pg_fault Pg_rows Pg_inRow Pg_width Fl_entries Fl_states Fl_columns Fl_moves Fl_stables Fl_amiss Fl_normal Pt_lessers Pt_greaters Pt_size Lc_signals Lc_kept Lc_keptFrom Lc_candidates Lc_size Sc_signals Sc_codes Sc_size Ai_codes Ai_bits Cu_seen Cu_inThrees Cu_all (va_up Lo_asked k lo_asked) (va_up Lo_ones k lo_ones) (va_up Lo_sum k lo_sum) (va_up Lo_wideSize k lo_wideSize) (va_up Lo_sumSize k lo_sumSize) (va_up Lo_flickers k lo_flickers) (va_up Lo_ready k lo_ready) Wa_at Wa_turns Wa_changes) U.heap ∧ va_K D vwCl (tyC cA) U ∧ nwC U ∧ va_D A (wC q cA Fc_unkept Fc_tablesRead Pg_letters Pg_size Pg_fault Pg_rows Pg_inRow Pg_width Fl_entries Fl_states Fl_columns Fl_moves Fl_stables Fl_amiss Fl_normal Pt_lessers Pt_greaters Pt_size Lc_signals Lc_kept Lc_keptFrom Lc_candidates Lc_size Sc_signals Sc_codes Sc_size Ai_codes Ai_bits Cu_seen Cu_inThrees Cu_all (va_up Lo_asked k lo_asked) (va_up Lo_ones k lo_ones) (va_up Lo_sum k lo_sum) (va_up Lo_wideSize k lo_wideSize) (va_up Lo_sumSize k lo_sumSize) (va_up Lo_flickers k lo_flickers) (va_up Lo_ready k lo_ready) Wa_at Wa_turns Wa_changes))) (qWv (Z_X4_collectSum D q cA Fc_unkept Fc_tablesRead Pg_letters Pg_size Pg_fault Pg_rows Pg_inRow Pg_width Fl_entries Fl_states Fl_columns Fl_moves Fl_stables Fl_amiss Fl_normal Pt_lessers Pt_greaters Pt_size Lc_signals Lc_kept Lc_keptFrom Lc_candidates Lc_size Sc_signals Sc_codes Sc_size Ai_codes Ai_bits Cu_seen Cu_inThrees Cu_all Lo_asked lo_asked Lo_ones lo_ones Lo_sum Lo_wideSize lo_wideSize Lo_sumSize Lo_flickers Lo_ready lo_ready Wa_at Wa_turns Wa_changes k post) A) 0 0 A := by
  refine Met.ofW (cc := cX4_collectSum) (maxL := 8) (ret := none) (by decide) rfl ?_
  intro p e s m args below meth c s₁ B hml hv
  obtain ⟨rfl, hP, hK, hN, hD⟩ := hv
  have X : kC p (headSpec (Cond.code yX4_collectSum cX4_collectSum 8 none :: wsL_law) (rmH 2)).room s m _ meth c cX4_collectSum RX4 8 none 2 := ⟨B.exec, B.bytes, hml, findClass_of_methodNamed B.named, fun w h => atoms_spec (ws := Cond.code yX4_collectSum cX4_collectSum 8 none :: wsL_law) B.pre w (List.mem_cons_of_mem _ h), B.returns, B.notSynchronized, Nat.le_refl _, Nat.le_refl _⟩
  obtain ⟨hx, hb, hml, hown, hts, hr, hlocks, hRf, hRl⟩ := id X
  have hS : va_S A s.heap s.heap [] := va_S.rf
  have hl := lv_entry ([.ref (q (22 + 4 * k)), .ref (q 15), .int x2]) (n := 8) (Nat.le_of_ble_eq_true rfl)
  rw [lg_entry_eq]
  generalize (lg_sl ([.ref (q (22 + 4 * k)), .ref (q 15), .int x2]) ++ List.replicate (8 - (lg_sl ([.ref (q (22 + 4 * k)), .ref (q 15), .int x2])).length) Slot.unset).toArray = ls at hl ⊢
  have hl : lv_has ls 8 [(0, .ref (q (22 + 4 * k))), (1, .ref (q 15)), (2, .int x2)] := hl
  refine lv_aload_n hx hb dX4_collectSum_0 rfl (lv_at hl 0 rfl) ?_
  refine lv_iconst (v := (0 : Int32)) hx hb dX4_collectSum_1 (by decide) ?_
  refine pRX4_40 (k := k) hk hx hb hown hts hK hP hD hS dX4_collectSum_2 (fun H locs hP hD hS => ?_)
  simp only [bx_uu] at hP hD
  refine lv_iconst (v := (0 : Int32)) hx hb dX4_collectSum_5 (by decide) ?_
  refine lv_istore_n (lv' := [(3, .int (0 : Int32)), (0, .ref (q (22 + 4 * k))), (1, .ref (q 15)), (2, .int x2)]) hx hb dX4_collectSum_6 rfl hl (by decide) rfl (fun ls hl => ?_)
  obtain ⟨n_8, hw⟩ := hw
  refine t_X4_collectSum_7 hk X hK hN (fun ysum_8 ysumSize_8 hw ls H locs hl hP hD hS => ?_) n_8 _ _ _ hw ls _ _ (lv_sub hl [1, 2, 3, 0] rfl) hP hD hS
  refine lv_aload_n hx hb dX4_collectSum_37 rfl (lv_at hl 0 rfl) ?_
  refine gRX4_40 (k := k) hk hx hb hown hts hK hP dX4_collectSum_38 ?_
  rw [show va_up Lo_sumSize k ysumSize_8 k = ysumSize_8 from by simp [va_up]]
  refine lv_istore_n (lv' := [(3, .int ysumSize_8), (0, .ref (q (22 + 4 * k))), (1, .ref (q 15)), (2, .int x2)]) hx hb dX4_collectSum_41 rfl hl (by decide) rfl (fun ls hl => ?_)
  refine lv_iconst (v := (0 : Int32)) hx hb dX4_collectSum_42 (by decide) ?_
  refine lv_istore (lv' := [(4, .int (0 : Int32)), (3, .int ysumSize_8), (0, .ref (q (22 + 4 * k))), (1, .ref (q 15)), (2, .int x2)]) hx hb dX4_collectSum_43 hl (by decide) rfl (fun ls hl => ?_)
  obtain ⟨n_26, hw⟩ := hw
  refine t_X4_collectSum_45 hk X hK hN (fun ysum_26 ysumSize_26 hw ls H locs hl hP hD hS => ?_) n_26 _ _ _ hw ls _ _ (lv_sub hl [2, 3, 4, 1, 0] rfl) hP hD hS
  refine lv_aload_n hx hb dX4_collectSum_137 rfl (lv_at hl 0 rfl) ?_
  refine lv_aload_n hx hb dX4_collectSum_138 rfl (lv_at hl 0 rfl) ?_
  refine gRX4_40 (k := k) hk hx hb hown hts hK hP dX4_collectSum_139 ?_
  rw [show va_up Lo_sumSize k ysumSize_26 k = ysumSize_26 from by simp [va_up]]
  refine lv_iload_n hx hb dX4_collectSum_142 rfl (lv_at hl 1 rfl) ?_
  refine lv_isub hx hb dX4_collectSum_143 ?_
  refine lv_topi (fun f_27 e_27 => ?_)
  have hw := hw f_27 e_27
  refine pRX4_60 (k := k) hk hx hb hown hts hK hP hD hS dX4_collectSum_144 (fun H locs hP hD hS => ?_)
  simp only [bx_uu] at hP hD
  exact rw_v hx hb hr hlocks (fun t ht => ⟨ysum_26, ysumSize_26, f_27, hw, by rw [ht]; exact hP⟩) hS dX4_collectSum_147
abbrev Z_X9_workedOut (D : va_G) (q : Nat → Nat) (cA : Nat → ClassId) (Fc_unkept : Int32) (Fc_tablesRead : Int32) (Pg_letters : Nat → Int32) (Pg_size : Int32) (Pg_fault : Int32) (Pg_rows : Int32) (Pg_inRow : Int32) (Pg_width : Int32) (Fl_entries : Nat → Int32) (Fl_states : Int32) (Fl_columns : Int32) (Fl_moves : Int32) (Fl_stables : Int32) (Fl_amiss : Int32) (Fl_normal : Int32) (Pt_lessers : Nat → Int32) (Pt_greaters : Nat → Int32) (Pt_size : Int32) (Lc_signals : Nat → Int32) (Lc_kept : Nat → Int64) (Lc_keptFrom : Nat → Int64) (Lc_candidates : Int32) (Lc_size : Int32) (Sc_signals : Nat → Int32) (Sc_codes : Nat → Int32) (Sc_size : Int32) (Ai_codes : Nat → Int32) (Ai_bits : Int32) (Cu_inThrees : Nat → Int32) (Wa_at : Int32) (Wa_turns : Int32) (Wa_changes : Int32) (post : Nat → (Nat → Int32) → Int32 → (Nat → Nat → Int32) → (Nat → Nat → Int32) → (Nat → Nat → Int32) → (Nat → Int32) → (Nat → Int32) → (Nat → Int32) → (Nat → Int32) → Prop) : Nat → State → Prop := fun r t => ∃ (j : Nat) (y_Cu_seen : Nat → Int32) (y_Cu_all : Int32) (y_Lo_asked : Nat → Nat → Int32) (y_Lo_ones : Nat → Nat → Int32) (y_Lo_sum : Nat → Nat → Int32) (y_Lo_wideSize : Nat → Int32) (y_Lo_sumSize : Nat → Int32) (y_Lo_flickers : Nat → Int32) (y_Lo_ready : Nat → Int32), r = q (22 + 4 * j) ∧ j < 5 ∧ post j y_Cu_seen y_Cu_all y_Lo_asked y_Lo_ones y_Lo_sum y_Lo_wideSize y_Lo_sumSize y_Lo_flickers y_Lo_ready ∧ va_P D vwCl (wC q cA Fc_unkept Fc_tablesRead Pg_letters Pg_size Pg_fault Pg_rows Pg_inRow Pg_width Fl_entries Fl_states Fl_columns Fl_moves Fl_stables Fl_amiss Fl_normal Pt_lessers Pt_greaters Pt_size Lc_signals Lc_kept Lc_keptFrom Lc_candidates Lc_size Sc_signals Sc_codes Sc_size Ai_codes Ai_bits y_Cu_seen Cu_inThrees y_Cu_all y_Lo_asked y_Lo_ones y_Lo_sum y_Lo_wideSize y_Lo_sumSize y_Lo_flickers y_Lo_ready Wa_at Wa_turns Wa_changes) t.heap
set_option maxHeartbeats 4000000 in
set_option maxRecDepth 100000 in
theorem t_X9_workedOut_18 {p : Program} {l : Launch} {e : Env} {R : Room} {s : State} {m : MethodId} {args : Array Value} {below : List Frame} {meth : Method} {c : Code} {A : Nat → Prop} {D : va_G} {q : Nat → Nat} {cA : Nat → ClassId} {Fc_unkept : Int32} {Fc_tablesRead : Int32} {Pg_letters : Nat → Int32} {Pg_size : Int32} {Pg_fault : Int32} {Pg_rows : Int32} {Pg_inRow : Int32} {Pg_width : Int32} {Fl_entries : Nat → Int32} {Fl_states : Int32} {Fl_columns : Int32} {Fl_moves : Int32} {Fl_stables : Int32} {Fl_amiss : Int32} {Fl_normal : Int32} {Pt_lessers : Nat → Int32} {Pt_greaters : Nat → Int32} {Pt_size : Int32} {Lc_signals : Nat → Int32} {Lc_kept : Nat → Int64} {Lc_keptFrom : Nat → Int64} {Lc_candidates : Int32} {Lc_size : Int32} {Sc_signals : Nat → Int32} {Sc_codes : Nat → Int32} {Sc_size : Int32} {Ai_codes : Nat → Int32} {Ai_bits : Int32} {Cu_seen : Nat → Int32} {Cu_inThrees : Nat → Int32} {Cu_all : Int32} {Lo_asked : Nat → Nat → Int32} {Lo_ones : Nat → Nat → Int32} {Lo_sum : Nat → Nat → Int32} {Lo_wideSize : Nat → Int32} {Lo_sumSize : Nat → Int32} {Lo_flickers : Nat → Int32} {Lo_ready : Nat → Int32} {Wa_at : Int32} {Wa_turns : Int32} {Wa_changes : Int32} {post : Nat → (Nat → Int32) → Int32 → (Nat → Nat → Int32) → (Nat → Nat → Int32) → (Nat → Nat → Int32) → (Nat → Int32) → (Nat → Int32) → (Nat → Int32) → (Nat → Int32) → Prop} {x1 : Int32} {v0 : Int32} (X : kC p R s m args meth c cX9_workedOut RX9 3 (some (.object "FlowCodes$Logic")) 3) (hK : va_K D vwCl (tyC cA) s) (hN : nwC s) (hw : j_X9_workedOut_18 post Ai_codes Ai_bits Cu_seen Cu_inThrees Cu_all Lo_asked Lo_ones Lo_sum Lo_wideSize Lo_sumSize Lo_flickers Lo_ready x1 v0) (ls : Array Slot) (H : Heap) (locs : List Loc) (hl : lv_has ls 3 [(0, .ref (q 0)), (1, .int x1)]) (hP : va_P D vwCl (wC q cA Fc_unkept Fc_tablesRead Pg_letters Pg_size Pg_fault Pg_rows Pg_inRow Pg_width Fl_entries Fl_states Fl_columns Fl_moves Fl_stables Fl_amiss Fl_normal Pt_lessers Pt_greaters Pt_size Lc_signals Lc_kept Lc_keptFrom Lc_candidates Lc_size Sc_signals Sc_codes Sc_size Ai_codes Ai_bits Cu_seen Cu_inThrees Cu_all Lo_asked Lo_ones Lo_sum Lo_wideSize Lo_sumSize Lo_flickers Lo_ready Wa_at Wa_turns Wa_changes) H) (hD : va_D A (wC q cA Fc_unkept Fc_tablesRead Pg_letters Pg_size Pg_fault Pg_rows Pg_inRow Pg_width Fl_entries Fl_states Fl_columns Fl_moves Fl_stables Fl_amiss Fl_normal Pt_lessers Pt_greaters Pt_size Lc_signals Lc_kept Lc_keptFrom Lc_candidates Lc_size Sc_signals Sc_codes Sc_size Ai_codes Ai_bits Cu_seen Cu_inThrees Cu_all Lo_asked Lo_ones Lo_sum Lo_wideSize Lo_sumSize Lo_flickers Lo_ready Wa_at Wa_turns Wa_changes)) (hS : va_S A s.heap H locs) : W p l e R s m args below meth c H locs 0 0 (MQ below (qWr (Z_X9_workedOut D q cA Fc_unkept Fc_tablesRead Pg_letters Pg_size Pg_fault Pg_rows Pg_inRow Pg_width Fl_entries Fl_states Fl_columns Fl_moves Fl_stables Fl_amiss Fl_normal Pt_lessers Pt_greaters Pt_size Lc_signals Lc_kept Lc_keptFrom Lc_candidates Lc_size Sc_signals Sc_codes Sc_size Ai_codes Ai_bits Cu_inThrees Wa_at Wa_turns Wa_changes post) A) args s 0 0 A) (F0 m 18 ls [.int v0, .ref (q 20)]) := by
  obtain ⟨hx, hb, hml, hown, hts, hr, hlocks, hRf, hRl⟩ := id X
  have h_2 := hw.1
  have hw := hw.2
  refine ld_logics hx hb hK hP h_2 dX9_workedOut_18 ?_
  refine lv_astore_n (lv' := [(2, .ref (q (22 + 4 * v0.toNatClampNeg))), (0, .ref (q 0)), (1, .int x1)]) hx hb dX9_workedOut_19 rfl hl (by decide) rfl (fun ls hl => ?_)
  refine lv_aload_n hx hb dX9_workedOut_20 rfl (lv_at hl 0 rfl) ?_
  refine gRX9_294 (k := v0.toNatClampNeg) (ltk h_2) hx hb hown hts hK hN hP dX9_workedOut_21 ?_
  refine lv_if_ne (tgt := 61) hx hb dX9_workedOut_24 (by decide) (fun c_3 => ?_) (fun c_3 => ?_)
  · have hw := hw.2 c_3
    refine lv_aload_n hx hb dX9_workedOut_61 rfl (lv_at hl 0 rfl) ?_
    exact rw_r hx hb hr hlocks (fun t ht => ⟨v0.toNatClampNeg, Cu_seen, Cu_all, Lo_asked, Lo_ones, Lo_sum, Lo_wideSize, Lo_sumSize, Lo_flickers, Lo_ready, rfl, (ltk h_2), hw, by rw [ht]; exact hP⟩) hS dX9_workedOut_62
  · have hw := hw.1 c_3
    refine lv_aload_n hx hb dX9_workedOut_27 rfl (lv_at hl 1 rfl) ?_
    refine gRX9_54 hx hb hown hts hK hP dX9_workedOut_28 ?_
    refine lv_aload_n hx hb dX9_workedOut_31 rfl (lv_at hl 1 rfl) ?_
    refine gRX9_47 hx hb hown hts hK hP dX9_workedOut_32 ?_
    refine lv_iload_n hx hb dX9_workedOut_35 rfl (lv_at hl 2 rfl) ?_
    refine wr_v (va_runV (As := [.ref (q 15), .int x1]) (rest := []) ⟨hx, hb, hml, hown, hts⟩ (c_X1_look l hw) (kRX9_301 (h := 1) hts (Nat.le_trans (Nat.le_of_ble_eq_true rfl) hRf) (Nat.le_trans (Nat.le_of_ble_eq_true rfl) hRl)) (preX1w hK hN hP hD) rfl rfl hl.1 rfl (lv_room (Nat.le_of_ble_eq_true rfl)) dX9_workedOut_36 ⟨Nat.zero_le _, Nat.zero_le _⟩) hS (fun t H locs ht hw hS => ?_)
    obtain ⟨yseen_4, yall_4, hw, hP⟩ := hw
    rw [ht] at hP
    have hP : va_P D vwCl (wC q cA Fc_unkept Fc_tablesRead Pg_letters Pg_size Pg_fault Pg_rows Pg_inRow Pg_width Fl_entries Fl_states Fl_columns Fl_moves Fl_stables Fl_amiss Fl_normal Pt_lessers Pt_greaters Pt_size Lc_signals Lc_kept Lc_keptFrom Lc_candidates Lc_size Sc_signals Sc_codes Sc_size Ai_codes Ai_bits yseen_4 Cu_inThrees yall_4 Lo_asked Lo_ones Lo_sum Lo_wideSize Lo_sumSize Lo_flickers Lo_ready Wa_at Wa_turns Wa_changes) H := hP
    have hD : va_D A (wC q cA Fc_unkept Fc_tablesRead Pg_letters Pg_size Pg_fault Pg_rows Pg_inRow Pg_width Fl_entries Fl_states Fl_columns Fl_moves Fl_stables Fl_amiss Fl_normal Pt_lessers Pt_greaters Pt_size Lc_signals Lc_kept Lc_keptFrom Lc_candidates Lc_size Sc_signals Sc_codes Sc_size Ai_codes Ai_bits yseen_4 Cu_inThrees yall_4 Lo_asked Lo_ones Lo_sum Lo_wideSize Lo_sumSize Lo_flickers Lo_ready Wa_at Wa_turns Wa_changes) := dC hD
    refine lv_aload_n hx hb dX9_workedOut_39 rfl (lv_at hl 0 rfl) ?_
    refine lv_aload_n hx hb dX9_workedOut_40 rfl (lv_at hl 1 rfl) ?_
    refine gRX9_54 hx hb hown hts hK hP dX9_workedOut_41 ?_
    have hP2 : va_P D vwCl (wC q cA Fc_unkept Fc_tablesRead Pg_letters Pg_size Pg_fault Pg_rows Pg_inRow Pg_width Fl_entries Fl_states Fl_columns Fl_moves Fl_stables Fl_amiss Fl_normal Pt_lessers Pt_greaters Pt_size Lc_signals Lc_kept Lc_keptFrom Lc_candidates Lc_size Sc_signals Sc_codes Sc_size Ai_codes Ai_bits yseen_4 Cu_inThrees yall_4 (va_up Lo_asked v0.toNatClampNeg (Lo_asked v0.toNatClampNeg)) (va_up Lo_ones v0.toNatClampNeg (Lo_ones v0.toNatClampNeg)) (va_up Lo_sum v0.toNatClampNeg (Lo_sum v0.toNatClampNeg)) (va_up Lo_wideSize v0.toNatClampNeg (Lo_wideSize v0.toNatClampNeg)) (va_up Lo_sumSize v0.toNatClampNeg (Lo_sumSize v0.toNatClampNeg)) (va_up Lo_flickers v0.toNatClampNeg (Lo_flickers v0.toNatClampNeg)) (va_up Lo_ready v0.toNatClampNeg (Lo_ready v0.toNatClampNeg)) Wa_at Wa_turns Wa_changes) H := by simp only [up_self]; exact hP
    have hD2 : va_D A (wC q cA Fc_unkept Fc_tablesRead Pg_letters Pg_size Pg_fault Pg_rows Pg_inRow Pg_width Fl_entries Fl_states Fl_columns Fl_moves Fl_stables Fl_amiss Fl_normal Pt_lessers Pt_greaters Pt_size Lc_signals Lc_kept Lc_keptFrom Lc_candidates Lc_size Sc_signals Sc_codes Sc_size Ai_codes Ai_bits yseen_4 Cu_inThrees yall_4 (va_up Lo_asked v0.toNatClampNeg (Lo_asked v0.toNatClampNeg)) (va_up Lo_ones v0.toNatClampNeg (Lo_ones v0.toNatClampNeg)) (va_up Lo_sum v0.toNatClampNeg (Lo_sum v0.toNatClampNeg)) (va_up Lo_wideSize v0.toNatClampNeg (Lo_wideSize v0.toNatClampNeg)) (va_up Lo_sumSize v0.toNatClampNeg (Lo_sumSize v0.toNatClampNeg)) (va_up Lo_flickers v0.toNatClampNeg (Lo_flickers v0.toNatClampNeg)) (va_up Lo_ready v0.toNatClampNeg (Lo_ready v0.toNatClampNeg)) Wa_at Wa_turns Wa_changes) := dC hD
    refine wr_v (va_runV (As := [.ref (q 17)]) (rest := []) ⟨hx, hb, hml, hown, hts⟩ (c_X4_collectWide l (k := v0.toNatClampNeg) (ltk h_2) hw) (kRX9_305 (h := 2) hts (Nat.le_trans (Nat.le_of_ble_eq_true rfl) hRf) (Nat.le_trans (Nat.le_of_ble_eq_true rfl) hRl)) (preX4w (k := v0.toNatClampNeg) (ltk h_2) hK hN hP2 hD2) rfl rfl hl.1 rfl (lv_room (Nat.le_of_ble_eq_true rfl)) dX9_workedOut_44 ⟨Nat.zero_le _, Nat.zero_le _⟩) hS (fun t H locs ht hw hS => ?_)
    obtain ⟨yasked_5, yones_5, ywideSize_5, hw, hP⟩ := hw
    rw [ht] at hP
    simp only [up_self] at hP
    have hP : va_P D vwCl (wC q cA Fc_unkept Fc_tablesRead Pg_letters Pg_size Pg_fault Pg_rows Pg_inRow Pg_width Fl_entries Fl_states Fl_columns Fl_moves Fl_stables Fl_amiss Fl_normal Pt_lessers Pt_greaters Pt_size Lc_signals Lc_kept Lc_keptFrom Lc_candidates Lc_size Sc_signals Sc_codes Sc_size Ai_codes Ai_bits yseen_4 Cu_inThrees yall_4 (va_up Lo_asked v0.toNatClampNeg yasked_5) (va_up Lo_ones v0.toNatClampNeg yones_5) Lo_sum (va_up Lo_wideSize v0.toNatClampNeg ywideSize_5) Lo_sumSize Lo_flickers Lo_ready Wa_at Wa_turns Wa_changes) H := hP
    have hD : va_D A (wC q cA Fc_unkept Fc_tablesRead Pg_letters Pg_size Pg_fault Pg_rows Pg_inRow Pg_width Fl_entries Fl_states Fl_columns Fl_moves Fl_stables Fl_amiss Fl_normal Pt_lessers Pt_greaters Pt_size Lc_signals Lc_kept Lc_keptFrom Lc_candidates Lc_size Sc_signals Sc_codes Sc_size Ai_codes Ai_bits yseen_4 Cu_inThrees yall_4 (va_up Lo_asked v0.toNatClampNeg yasked_5) (va_up Lo_ones v0.toNatClampNeg yones_5) Lo_sum (va_up Lo_wideSize v0.toNatClampNeg ywideSize_5) Lo_sumSize Lo_flickers Lo_ready Wa_at Wa_turns Wa_changes) := dC hD
    refine lv_aload_n hx hb dX9_workedOut_47 rfl (lv_at hl 0 rfl) ?_
    refine lv_aload_n hx hb dX9_workedOut_48 rfl (lv_at hl 1 rfl) ?_
    refine gRX9_47 hx hb hown hts hK hP dX9_workedOut_49 ?_
    refine lv_iload_n hx hb dX9_workedOut_52 rfl (lv_at hl 2 rfl) ?_
    have hP2 : va_P D vwCl (wC q cA Fc_unkept Fc_tablesRead Pg_letters Pg_size Pg_fault Pg_rows Pg_inRow Pg_width Fl_entries Fl_states Fl_columns Fl_moves Fl_stables Fl_amiss Fl_normal Pt_lessers Pt_greaters Pt_size Lc_signals Lc_kept Lc_keptFrom Lc_candidates Lc_size Sc_signals Sc_codes Sc_size Ai_codes Ai_bits yseen_4 Cu_inThrees yall_4 (va_up (va_up Lo_asked v0.toNatClampNeg yasked_5) v0.toNatClampNeg ((va_up Lo_asked v0.toNatClampNeg yasked_5) v0.toNatClampNeg)) (va_up (va_up Lo_ones v0.toNatClampNeg yones_5) v0.toNatClampNeg ((va_up Lo_ones v0.toNatClampNeg yones_5) v0.toNatClampNeg)) (va_up Lo_sum v0.toNatClampNeg (Lo_sum v0.toNatClampNeg)) (va_up (va_up Lo_wideSize v0.toNatClampNeg ywideSize_5) v0.toNatClampNeg ((va_up Lo_wideSize v0.toNatClampNeg ywideSize_5) v0.toNatClampNeg)) (va_up Lo_sumSize v0.toNatClampNeg (Lo_sumSize v0.toNatClampNeg)) (va_up Lo_flickers v0.toNatClampNeg (Lo_flickers v0.toNatClampNeg)) (va_up Lo_ready v0.toNatClampNeg (Lo_ready v0.toNatClampNeg)) Wa_at Wa_turns Wa_changes) H := by simp only [up_self]; exact hP
    have hD2 : va_D A (wC q cA Fc_unkept Fc_tablesRead Pg_letters Pg_size Pg_fault Pg_rows Pg_inRow Pg_width Fl_entries Fl_states Fl_columns Fl_moves Fl_stables Fl_amiss Fl_normal Pt_lessers Pt_greaters Pt_size Lc_signals Lc_kept Lc_keptFrom Lc_candidates Lc_size Sc_signals Sc_codes Sc_size Ai_codes Ai_bits yseen_4 Cu_inThrees yall_4 (va_up (va_up Lo_asked v0.toNatClampNeg yasked_5) v0.toNatClampNeg ((va_up Lo_asked v0.toNatClampNeg yasked_5) v0.toNatClampNeg)) (va_up (va_up Lo_ones v0.toNatClampNeg yones_5) v0.toNatClampNeg ((va_up Lo_ones v0.toNatClampNeg yones_5) v0.toNatClampNeg)) (va_up Lo_sum v0.toNatClampNeg (Lo_sum v0.toNatClampNeg)) (va_up (va_up Lo_wideSize v0.toNatClampNeg ywideSize_5) v0.toNatClampNeg ((va_up Lo_wideSize v0.toNatClampNeg ywideSize_5) v0.toNatClampNeg)) (va_up Lo_sumSize v0.toNatClampNeg (Lo_sumSize v0.toNatClampNeg)) (va_up Lo_flickers v0.toNatClampNeg (Lo_flickers v0.toNatClampNeg)) (va_up Lo_ready v0.toNatClampNeg (Lo_ready v0.toNatClampNeg)) Wa_at Wa_turns Wa_changes) := dC hD
    refine wr_v (va_runV (As := [.ref (q 15), .int x1]) (rest := []) ⟨hx, hb, hml, hown, hts⟩ (c_X4_collectSum l (k := v0.toNatClampNeg) (ltk h_2) hw) (kRX9_309 (h := 2) hts (Nat.le_trans (Nat.le_of_ble_eq_true rfl) hRf) (Nat.le_trans (Nat.le_of_ble_eq_true rfl) hRl)) (preX4w (k := v0.toNatClampNeg) (ltk h_2) hK hN hP2 hD2) rfl rfl hl.1 rfl (lv_room (Nat.le_of_ble_eq_true rfl)) dX9_workedOut_53 ⟨Nat.zero_le _, Nat.zero_le _⟩) hS (fun t H locs ht hw hS => ?_)
    obtain ⟨ysum_6, ysumSize_6, yflickers_6, hw, hP⟩ := hw
    rw [ht] at hP
    simp only [up_self] at hP
    have hP : va_P D vwCl (wC q cA Fc_unkept Fc_tablesRead Pg_letters Pg_size Pg_fault Pg_rows Pg_inRow Pg_width Fl_entries Fl_states Fl_columns Fl_moves Fl_stables Fl_amiss Fl_normal Pt_lessers Pt_greaters Pt_size Lc_signals Lc_kept Lc_keptFrom Lc_candidates Lc_size Sc_signals Sc_codes Sc_size Ai_codes Ai_bits yseen_4 Cu_inThrees yall_4 (va_up Lo_asked v0.toNatClampNeg yasked_5) (va_up Lo_ones v0.toNatClampNeg yones_5) (va_up Lo_sum v0.toNatClampNeg ysum_6) (va_up Lo_wideSize v0.toNatClampNeg ywideSize_5) (va_up Lo_sumSize v0.toNatClampNeg ysumSize_6) (va_up Lo_flickers v0.toNatClampNeg yflickers_6) Lo_ready Wa_at Wa_turns Wa_changes) H := hP
    have hD : va_D A (wC q cA Fc_unkept Fc_tablesRead Pg_letters Pg_size Pg_fault Pg_rows Pg_inRow Pg_width Fl_entries Fl_states Fl_columns Fl_moves Fl_stables Fl_amiss Fl_normal Pt_lessers Pt_greaters Pt_size Lc_signals Lc_kept Lc_keptFrom Lc_candidates Lc_size Sc_signals Sc_codes Sc_size Ai_codes Ai_bits yseen_4 Cu_inThrees yall_4 (va_up Lo_asked v0.toNatClampNeg yasked_5) (va_up Lo_ones v0.toNatClampNeg yones_5) (va_up Lo_sum v0.toNatClampNeg ysum_6) (va_up Lo_wideSize v0.toNatClampNeg ywideSize_5) (va_up Lo_sumSize v0.toNatClampNeg ysumSize_6) (va_up Lo_flickers v0.toNatClampNeg yflickers_6) Lo_ready Wa_at Wa_turns Wa_changes) := dC hD
    refine lv_aload_n hx hb dX9_workedOut_56 rfl (lv_at hl 0 rfl) ?_
    refine lv_iconst (v := (1 : Int32)) hx hb dX9_workedOut_57 (by decide) ?_
    refine pRX9_294 (k := v0.toNatClampNeg) (ltk h_2) hx hb hown hts hK hN hP hD hS rfl rfl dX9_workedOut_58 (fun H locs hP hD hS => ?_)
    refine lv_aload_n hx hb dX9_workedOut_61 rfl (lv_at hl 0 rfl) ?_
    exact rw_r hx hb hr hlocks (fun t ht => ⟨v0.toNatClampNeg, yseen_4, yall_4, (va_up Lo_asked v0.toNatClampNeg yasked_5), (va_up Lo_ones v0.toNatClampNeg yones_5), (va_up Lo_sum v0.toNatClampNeg ysum_6), (va_up Lo_wideSize v0.toNatClampNeg ywideSize_5), (va_up Lo_sumSize v0.toNatClampNeg ysumSize_6), (va_up Lo_flickers v0.toNatClampNeg yflickers_6), (va_up Lo_ready v0.toNatClampNeg (1 : Int32)), rfl, (ltk h_2), hw, by rw [ht]; exact hP⟩) hS dX9_workedOut_62
set_option maxHeartbeats 4000000 in
set_option maxRecDepth 100000 in
theorem c_X9_workedOut (l : Launch) {D : va_G} {q : Nat → Nat} {cA : Nat → ClassId} {Fc_unkept : Int32} {Fc_tablesRead : Int32} {Pg_letters : Nat → Int32} {Pg_size : Int32} {Pg_fault : Int32} {Pg_rows : Int32} {Pg_inRow : Int32} {Pg_width : Int32} {Fl_entries : Nat → Int32} {Fl_states : Int32} {Fl_columns : Int32} {Fl_moves : Int32} {Fl_stables : Int32} {Fl_amiss : Int32} {Fl_normal : Int32} {Pt_lessers : Nat → Int32} {Pt_greaters : Nat → Int32} {Pt_size : Int32} {Lc_signals : Nat → Int32} {Lc_kept : Nat → Int64} {Lc_keptFrom : Nat → Int64} {Lc_candidates : Int32} {Lc_size : Int32} {Sc_signals : Nat → Int32} {Sc_codes : Nat → Int32} {Sc_size : Int32} {Ai_codes : Nat → Int32} {Ai_bits : Int32} {Cu_seen : Nat → Int32} {Cu_inThrees : Nat → Int32} {Cu_all : Int32} {Lo_asked : Nat → Nat → Int32} {Lo_ones : Nat → Nat → Int32} {Lo_sum : Nat → Nat → Int32} {Lo_wideSize : Nat → Int32} {Lo_sumSize : Nat → Int32} {Lo_flickers : Nat → Int32} {Lo_ready : Nat → Int32} {Wa_at : Int32} {Wa_turns : Int32} {Wa_changes : Int32} {A : Nat → Prop} {post : Nat → (Nat → Int32) → Int32 → (Nat → Nat → Int32) → (Nat → Nat → Int32) → (Nat → Nat → Int32) → (Nat → Int32) → (Nat → Int32) → (Nat → Int32) → (Nat → Int32) → Prop} {x1 : Int32} (hw : wp_X9_workedOut post Ai_codes Ai_bits Cu_seen Cu_inThrees Cu_all Lo_asked Lo_ones Lo_sum Lo_wideSize Lo_sumSize Lo_flickers Lo_ready x1) : Met l yX9_workedOut (Cond.code yX9_workedOut cX9_workedOut 3 (some (.object "FlowCodes$Logic")) :: wsL_law) (rmH 3) (va_Pc [.ref (q 0), .int x1] (fun U => va_P D vwCl (wC q cA Fc_unkept Fc_tablesRead Pg_letters Pg_size Pg_fault Pg_rows Pg_inRow Pg_width Fl_entries Fl_states Fl_columns Fl_moves Fl_stables Fl_amiss Fl_normal Pt_lessers Pt_greaters Pt_size Lc_signals Lc_kept Lc_keptFrom Lc_candidates Lc_size Sc_signals Sc_codes Sc_size Ai_codes Ai_bits Cu_seen Cu_inThrees Cu_all Lo_asked Lo_ones Lo_sum Lo_wideSize Lo_sumSize Lo_flickers Lo_ready Wa_at Wa_turns Wa_changes) U.heap ∧ va_K D vwCl (tyC cA) U ∧ nwC U ∧ va_D A (wC q cA Fc_unkept Fc_tablesRead Pg_letters Pg_size Pg_fault Pg_rows Pg_inRow Pg_width Fl_entries Fl_states Fl_columns Fl_moves Fl_stables Fl_amiss Fl_normal Pt_lessers Pt_greaters Pt_size Lc_signals Lc_kept Lc_keptFrom Lc_candidates Lc_size Sc_signals Sc_codes Sc_size Ai_codes Ai_bits Cu_seen Cu_inThrees Cu_all Lo_asked Lo_ones Lo_sum Lo_wideSize Lo_sumSize Lo_flickers Lo_ready Wa_at Wa_turns Wa_changes))) (qWr (Z_X9_workedOut D q cA Fc_unkept Fc_tablesRead Pg_letters Pg_size Pg_fault Pg_rows Pg_inRow Pg_width Fl_entries Fl_states Fl_columns Fl_moves Fl_stables Fl_amiss Fl_normal Pt_lessers Pt_greaters Pt_size Lc_signals Lc_kept Lc_keptFrom Lc_candidates Lc_size Sc_signals Sc_codes Sc_size Ai_codes Ai_bits Cu_inThrees Wa_at Wa_turns Wa_changes post) A) 0 0 A := by
  refine Met.ofW (cc := cX9_workedOut) (maxL := 3) (ret := (some (.object "FlowCodes$Logic"))) (by decide) rfl ?_
  intro p e s m args below meth c s₁ B hml hv
  obtain ⟨rfl, hP, hK, hN, hD⟩ := hv
  have X : kC p (headSpec (Cond.code yX9_workedOut cX9_workedOut 3 (some (.object "FlowCodes$Logic")) :: wsL_law) (rmH 3)).room s m _ meth c cX9_workedOut RX9 3 (some (.object "FlowCodes$Logic")) 3 := ⟨B.exec, B.bytes, hml, findClass_of_methodNamed B.named, fun w h => atoms_spec (ws := Cond.code yX9_workedOut cX9_workedOut 3 (some (.object "FlowCodes$Logic")) :: wsL_law) B.pre w (List.mem_cons_of_mem _ h), B.returns, B.notSynchronized, Nat.le_refl _, Nat.le_refl _⟩
  obtain ⟨hx, hb, hml, hown, hts, hr, hlocks, hRf, hRl⟩ := id X
  have hS : va_S A s.heap s.heap [] := va_S.rf
  have hl := lv_entry ([.ref (q 0), .int x1]) (n := 3) (Nat.le_of_ble_eq_true rfl)
  rw [lg_entry_eq]
  generalize (lg_sl ([.ref (q 0), .int x1]) ++ List.replicate (3 - (lg_sl ([.ref (q 0), .int x1])).length) Slot.unset).toArray = ls at hl ⊢
  have hl : lv_has ls 3 [(0, .ref (q 0)), (1, .int x1)] := hl
  refine lv_aload_n hx hb dX9_workedOut_0 rfl (lv_at hl 0 rfl) ?_
  refine gRX9_60 hx hb hown hts hK hP dX9_workedOut_1 ?_
  refine lv_iload_n hx hb dX9_workedOut_4 rfl (lv_at hl 1 rfl) ?_
  refine lv_if_lt (tgt := 17) hx hb dX9_workedOut_5 (by decide) (fun c_1 => ?_) (fun c_1 => ?_)
  · have hw := hw.1 c_1
    refine lv_iconst (v := (0 : Int32)) hx hb dX9_workedOut_17 (by decide) ?_
    exact t_X9_workedOut_18 X hK hN hw ls _ _ (lv_sub hl [0, 1] rfl) hP hD hS
  · have hw := hw.2 c_1
    refine lv_iload_n hx hb dX9_workedOut_8 rfl (lv_at hl 1 rfl) ?_
    refine lv_iconst (v := (5 : Int32)) hx hb dX9_workedOut_9 (by decide) ?_
    refine lv_icmp_ge (tgt := 17) hx hb dX9_workedOut_10 (by decide) (fun c_7 => ?_) (fun c_7 => ?_)
    · have hw := hw.1 c_7
      refine lv_iconst (v := (0 : Int32)) hx hb dX9_workedOut_17 (by decide) ?_
      exact t_X9_workedOut_18 X hK hN hw ls _ _ (lv_sub hl [0, 1] rfl) hP hD hS
    · have hw := hw.2 c_7
      refine lv_iload_n hx hb dX9_workedOut_13 rfl (lv_at hl 1 rfl) ?_
      refine lv_goto (tgt := 18) hx hb dX9_workedOut_14 (by decide) ?_
      exact t_X9_workedOut_18 X hK hN hw ls _ _ (lv_sub hl [0, 1] rfl) hP hD hS
set_option maxHeartbeats 4000000 in
set_option maxRecDepth 100000 in
theorem t_X0_pointsWith_5 {p : Program} {l : Launch} {e : Env} {R : Room} {s : State} {m : MethodId} {args : Array Value} {below : List Frame} {meth : Method} {c : Code} {D : va_G} {q : Nat → Nat} {cA : Nat → ClassId} {Fc_unkept : Int32} {Fc_tablesRead : Int32} {Pg_letters : Nat → Int32} {Pg_size : Int32} {Pg_fault : Int32} {Pg_rows : Int32} {Pg_inRow : Int32} {Pg_width : Int32} {Fl_entries : Nat → Int32} {Fl_states : Int32} {Fl_columns : Int32} {Fl_moves : Int32} {Fl_stables : Int32} {Fl_amiss : Int32} {Fl_normal : Int32} {Pt_lessers : Nat → Int32} {Pt_greaters : Nat → Int32} {Pt_size : Int32} {Lc_signals : Nat → Int32} {Lc_kept : Nat → Int64} {Lc_keptFrom : Nat → Int64} {Lc_candidates : Int32} {Lc_size : Int32} {Sc_signals : Nat → Int32} {Sc_codes : Nat → Int32} {Sc_size : Int32} {Ai_codes : Nat → Int32} {Ai_bits : Int32} {Cu_seen : Nat → Int32} {Cu_inThrees : Nat → Int32} {Cu_all : Int32} {Lo_asked : Nat → Nat → Int32} {Lo_ones : Nat → Nat → Int32} {Lo_sum : Nat → Nat → Int32} {Lo_wideSize : Nat → Int32} {Lo_sumSize : Nat → Int32} {Lo_flickers : Nat → Int32} {Lo_ready : Nat → Int32} {Wa_at : Int32} {Wa_turns : Int32} {Wa_changes : Int32} {post : Int32 → Prop} {KE : Int32 → Prop} {x1 : Int32} {x2 : Int32} (X : kC p R s m args meth c cX0_pointsWith RX0 5 (some .int) 1) (hK : va_K D vwCl (tyC cA) s) (hN : nwC s) (hP : va_P D vwCl (wC q cA Fc_unkept Fc_tablesRead Pg_letters Pg_size Pg_fault Pg_rows Pg_inRow Pg_width Fl_entries Fl_states Fl_columns Fl_moves Fl_stables Fl_amiss Fl_normal Pt_lessers Pt_greaters Pt_size Lc_signals Lc_kept Lc_keptFrom Lc_candidates Lc_size Sc_signals Sc_codes Sc_size Ai_codes Ai_bits Cu_seen Cu_inThrees Cu_all Lo_asked Lo_ones Lo_sum Lo_wideSize Lo_sumSize Lo_flickers Lo_ready Wa_at Wa_turns Wa_changes) s.heap) (hE : ∀ (x3 : Int32), KE x3 → ∀ (ls : Array Slot), lv_has ls 5 [(3, .int x3)] → W p l e R s m args below meth c s.heap [] 0 0 (MQ below (qRi post) args s 0 0 (fun _ => False)) (F0 m 34 ls [])) : ∀ (n : Nat) (x3 : Int32) (x4 : Int32), w_X0_pointsWith_5 KE Ai_codes Ai_bits x1 x2 n x3 x4 → ∀ (ls : Array Slot), lv_has ls 5 [(0, .ref (q 15)), (1, .int x1), (2, .int x2), (3, .int x3), (4, .int x4)] → W p l e R s m args below meth c s.heap [] 0 0 (MQ below (qRi post) args s 0 0 (fun _ => False)) (F0 m 5 ls []) := by
  obtain ⟨hx, hb, hml, hown, hts, hr, hlocks, hRf, hRl⟩ := id X
  intro n
  induction n with
  | zero => intro x3 x4 hw; exact (show False from hw).elim
  | succ n ih =>
    intro x3 x4 hw ls hl
    have hw : (wp_X0_points (fun (r_1 : Int32) => ((r_1 ≤ x4 → KE x3) ∧ (¬ r_1 ≤ x4 → (wp_X0_at (fun (r_3 : Int32) => ((r_3 = x2 → (∀ x3_6 : Int32, x3_6 = x3 + (1 : Int32) → (∀ x4_7 : Int32, x4_7 = x4 + (1 : Int32) → w_X0_pointsWith_5 KE Ai_codes Ai_bits x1 x2 n x3_6 x4_7))) ∧ (¬ r_3 = x2 → (∀ x4_5 : Int32, x4_5 = x4 + (1 : Int32) → w_X0_pointsWith_5 KE Ai_codes Ai_bits x1 x2 n x3 x4_5)))) Ai_codes x1 x4)))) Ai_bits) := hw
    refine lv_iload hx hb dX0_pointsWith_5 (lv_at hl 4 rfl) ?_
    refine lv_aload_n hx hb dX0_pointsWith_7 rfl (lv_at hl 0 rfl) ?_
    refine ro_i (va_runV (As := []) (rest := [.int x4]) ⟨hx, hb, hml, hown, hts⟩ (c_X0_points l hw) (kRX0_44 (h := 0) hts (Nat.le_trans (Nat.le_of_ble_eq_true rfl) hRf) (Nat.le_trans (Nat.le_of_ble_eq_true rfl) hRl)) (preX0 hK hN hP) rfl rfl hl.1 rfl (lv_room (Nat.le_of_ble_eq_true rfl)) dX0_pointsWith_8 ⟨Nat.zero_le _, Nat.zero_le _⟩) (fun r_1 hw => ?_)
    refine lv_icmp_ge (tgt := 34) hx hb dX0_pointsWith_11 (by decide) (fun c_2 => ?_) (fun c_2 => ?_)
    · have hw := hw.1 c_2
      exact hE _ hw ls (lv_sub hl [3] rfl)
    · have hw := hw.2 c_2
      refine lv_aload_n hx hb dX0_pointsWith_14 rfl (lv_at hl 0 rfl) ?_
      refine lv_iload_n hx hb dX0_pointsWith_15 rfl (lv_at hl 1 rfl) ?_
      refine lv_iload hx hb dX0_pointsWith_16 (lv_at hl 4 rfl) ?_
      refine ro_i (va_runV (As := [.int x1, .int x4]) (rest := []) ⟨hx, hb, hml, hown, hts⟩ (c_X0_at l hw) (kRX0_48 (h := 0) hts (Nat.le_trans (Nat.le_of_ble_eq_true rfl) hRf) (Nat.le_trans (Nat.le_of_ble_eq_true rfl) hRl)) (preX0 hK hN hP) rfl rfl hl.1 rfl (lv_room (Nat.le_of_ble_eq_true rfl)) dX0_pointsWith_18 ⟨Nat.zero_le _, Nat.zero_le _⟩) (fun r_3 hw => ?_)
      refine lv_iload_n hx hb dX0_pointsWith_21 rfl (lv_at hl 2 rfl) ?_
      refine lv_icmp_ne (tgt := 28) hx hb dX0_pointsWith_22 (by decide) (fun c_4 => ?_) (fun c_4 => ?_)
      · have hw := hw.2 c_4
        obtain ⟨x4_5, e_5⟩ : ∃ z : Int32, z = x4 + (1 : Int32) := ⟨_, rfl⟩
        have hw := hw x4_5 e_5
        refine lv_iinc (v := x4_5) (lv' := [(4, .int x4_5), (0, .ref (q 15)), (1, .int x1), (2, .int x2), (3, .int x3)]) hx hb dX0_pointsWith_28 hl (k := 4) rfl (by rw [e_5]; rfl) (by decide) rfl (fun ls hl => ?_)
        refine lv_goto (tgt := 5) hx hb dX0_pointsWith_31 (by decide) ?_
        exact ih _ _ hw ls (lv_sub hl [1, 2, 3, 4, 0] rfl)
      · have hw := hw.1 c_4
        obtain ⟨x3_6, e_6⟩ : ∃ z : Int32, z = x3 + (1 : Int32) := ⟨_, rfl⟩
        have hw := hw x3_6 e_6
        refine lv_iinc (v := x3_6) (lv' := [(3, .int x3_6), (0, .ref (q 15)), (1, .int x1), (2, .int x2), (4, .int x4)]) hx hb dX0_pointsWith_25 hl (k := 3) rfl (by rw [e_6]; rfl) (by decide) rfl (fun ls hl => ?_)
        obtain ⟨x4_7, e_7⟩ : ∃ z : Int32, z = x4 + (1 : Int32) := ⟨_, rfl⟩
        have hw := hw x4_7 e_7
        refine lv_iinc (v := x4_7) (lv' := [(4, .int x4_7), (3, .int x3_6), (0, .ref (q 15)), (1, .int x1), (2, .int x2)]) hx hb dX0_pointsWith_28 hl (k := 4) rfl (by rw [e_7]; rfl) (by decide) rfl (fun ls hl => ?_)
        refine lv_goto (tgt := 5) hx hb dX0_pointsWith_31 (by decide) ?_
        exact ih _ _ hw ls (lv_sub hl [2, 3, 4, 1, 0] rfl)
set_option maxHeartbeats 4000000 in
set_option maxRecDepth 100000 in
theorem c_X0_pointsWith (l : Launch) {D : va_G} {q : Nat → Nat} {cA : Nat → ClassId} {Fc_unkept : Int32} {Fc_tablesRead : Int32} {Pg_letters : Nat → Int32} {Pg_size : Int32} {Pg_fault : Int32} {Pg_rows : Int32} {Pg_inRow : Int32} {Pg_width : Int32} {Fl_entries : Nat → Int32} {Fl_states : Int32} {Fl_columns : Int32} {Fl_moves : Int32} {Fl_stables : Int32} {Fl_amiss : Int32} {Fl_normal : Int32} {Pt_lessers : Nat → Int32} {Pt_greaters : Nat → Int32} {Pt_size : Int32} {Lc_signals : Nat → Int32} {Lc_kept : Nat → Int64} {Lc_keptFrom : Nat → Int64} {Lc_candidates : Int32} {Lc_size : Int32} {Sc_signals : Nat → Int32} {Sc_codes : Nat → Int32} {Sc_size : Int32} {Ai_codes : Nat → Int32} {Ai_bits : Int32} {Cu_seen : Nat → Int32} {Cu_inThrees : Nat → Int32} {Cu_all : Int32} {Lo_asked : Nat → Nat → Int32} {Lo_ones : Nat → Nat → Int32} {Lo_sum : Nat → Nat → Int32} {Lo_wideSize : Nat → Int32} {Lo_sumSize : Nat → Int32} {Lo_flickers : Nat → Int32} {Lo_ready : Nat → Int32} {Wa_at : Int32} {Wa_turns : Int32} {Wa_changes : Int32} {post : Int32 → Prop} {x1 : Int32} {x2 : Int32} (hw : wp_X0_pointsWith post Ai_codes Ai_bits x1 x2) : Met l yX0_pointsWith (Cond.code yX0_pointsWith cX0_pointsWith 5 (some .int) :: wsL_law) (rmH 1) (va_Pc [.ref (q 15), .int x1, .int x2] (fun U => va_P D vwCl (wC q cA Fc_unkept Fc_tablesRead Pg_letters Pg_size Pg_fault Pg_rows Pg_inRow Pg_width Fl_entries Fl_states Fl_columns Fl_moves Fl_stables Fl_amiss Fl_normal Pt_lessers Pt_greaters Pt_size Lc_signals Lc_kept Lc_keptFrom Lc_candidates Lc_size Sc_signals Sc_codes Sc_size Ai_codes Ai_bits Cu_seen Cu_inThrees Cu_all Lo_asked Lo_ones Lo_sum Lo_wideSize Lo_sumSize Lo_flickers Lo_ready Wa_at Wa_turns Wa_changes) U.heap ∧ va_K D vwCl (tyC cA) U ∧ nwC U)) (qRi post) 0 0 (fun _ => False) := by
  refine Met.ofW (cc := cX0_pointsWith) (maxL := 5) (ret := (some .int)) (by decide) rfl ?_
  intro p e s m args below meth c s₁ B hml hv
  obtain ⟨rfl, hP, hK, hN⟩ := hv
  have X : kC p (headSpec (Cond.code yX0_pointsWith cX0_pointsWith 5 (some .int) :: wsL_law) (rmH 1)).room s m _ meth c cX0_pointsWith RX0 5 (some .int) 1 := ⟨B.exec, B.bytes, hml, findClass_of_methodNamed B.named, fun w h => atoms_spec (ws := Cond.code yX0_pointsWith cX0_pointsWith 5 (some .int) :: wsL_law) B.pre w (List.mem_cons_of_mem _ h), B.returns, B.notSynchronized, Nat.le_refl _, Nat.le_refl _⟩
  obtain ⟨hx, hb, hml, hown, hts, hr, hlocks, hRf, hRl⟩ := id X
  have hl := lv_entry ([.ref (q 15), .int x1, .int x2]) (n := 5) (Nat.le_of_ble_eq_true rfl)
  rw [lg_entry_eq]
  generalize (lg_sl ([.ref (q 15), .int x1, .int x2]) ++ List.replicate (5 - (lg_sl ([.ref (q 15), .int x1, .int x2])).length) Slot.unset).toArray = ls at hl ⊢
  have hl : lv_has ls 5 [(0, .ref (q 15)), (1, .int x1), (2, .int x2)] := hl
  refine lv_iconst (v := (0 : Int32)) hx hb dX0_pointsWith_0 (by decide) ?_
  refine lv_istore_n (lv' := [(3, .int (0 : Int32)), (0, .ref (q 15)), (1, .int x1), (2, .int x2)]) hx hb dX0_pointsWith_1 rfl hl (by decide) rfl (fun ls hl => ?_)
  refine lv_iconst (v := (0 : Int32)) hx hb dX0_pointsWith_2 (by decide) ?_
  refine lv_istore (lv' := [(4, .int (0 : Int32)), (3, .int (0 : Int32)), (0, .ref (q 15)), (1, .int x1), (2, .int x2)]) hx hb dX0_pointsWith_3 hl (by decide) rfl (fun ls hl => ?_)
  obtain ⟨n_8, hw⟩ := hw
  refine t_X0_pointsWith_5 X hK hN hP (fun x3_8 hw ls hl => ?_) n_8 _ _ hw ls (lv_sub hl [2, 3, 4, 1, 0] rfl)
  refine lv_iload_n hx hb dX0_pointsWith_34 rfl (lv_at hl 0 rfl) ?_
  exact rt_i hx hb hr hlocks hw dX0_pointsWith_35
set_option maxHeartbeats 4000000 in
set_option maxRecDepth 100000 in
theorem t_X4_askedInSum_4 {p : Program} {l : Launch} {e : Env} {R : Room} {s : State} {m : MethodId} {args : Array Value} {below : List Frame} {meth : Method} {c : Code} {D : va_G} {q : Nat → Nat} {cA : Nat → ClassId} {Fc_unkept : Int32} {Fc_tablesRead : Int32} {Pg_letters : Nat → Int32} {Pg_size : Int32} {Pg_fault : Int32} {Pg_rows : Int32} {Pg_inRow : Int32} {Pg_width : Int32} {Fl_entries : Nat → Int32} {Fl_states : Int32} {Fl_columns : Int32} {Fl_moves : Int32} {Fl_stables : Int32} {Fl_amiss : Int32} {Fl_normal : Int32} {Pt_lessers : Nat → Int32} {Pt_greaters : Nat → Int32} {Pt_size : Int32} {Lc_signals : Nat → Int32} {Lc_kept : Nat → Int64} {Lc_keptFrom : Nat → Int64} {Lc_candidates : Int32} {Lc_size : Int32} {Sc_signals : Nat → Int32} {Sc_codes : Nat → Int32} {Sc_size : Int32} {Ai_codes : Nat → Int32} {Ai_bits : Int32} {Cu_seen : Nat → Int32} {Cu_inThrees : Nat → Int32} {Cu_all : Int32} {Lo_asked : Nat → Nat → Int32} {lo_asked : Nat → Int32} {Lo_ones : Nat → Nat → Int32} {lo_ones : Nat → Int32} {Lo_sum : Nat → Nat → Int32} {lo_sum : Nat → Int32} {Lo_wideSize : Nat → Int32} {lo_wideSize : Int32} {Lo_sumSize : Nat → Int32} {lo_sumSize : Int32} {Lo_flickers : Nat → Int32} {lo_flickers : Int32} {Lo_ready : Nat → Int32} {lo_ready : Int32} {Wa_at : Int32} {Wa_turns : Int32} {Wa_changes : Int32} {k : Nat} {post : Int32 → Prop} {KE : Int32 → Prop} (hk : k < 5) (X : kC p R s m args meth c cX4_askedInSum RX4 3 (some .int) 1) (hK : va_K D vwCl (tyC cA) s) (hN : nwC s) (hP : va_P D vwCl (wC q cA Fc_unkept Fc_tablesRead Pg_letters Pg_size Pg_fault Pg_rows Pg_inRow Pg_width Fl_entries Fl_states Fl_columns Fl_moves Fl_stables Fl_amiss Fl_normal Pt_lessers Pt_greaters Pt_size Lc_signals Lc_kept Lc_keptFrom Lc_candidates Lc_size Sc_signals Sc_codes Sc_size Ai_codes Ai_bits Cu_seen Cu_inThrees Cu_all (va_up Lo_asked k lo_asked) (va_up Lo_ones k lo_ones) (va_up Lo_sum k lo_sum) (va_up Lo_wideSize k lo_wideSize) (va_up Lo_sumSize k lo_sumSize) (va_up Lo_flickers k lo_flickers) (va_up Lo_ready k lo_ready) Wa_at Wa_turns Wa_changes) s.heap) (hE : ∀ (x1 : Int32), KE x1 → ∀ (ls : Array Slot), lv_has ls 3 [(1, .int x1)] → W p l e R s m args below meth c s.heap [] 0 0 (MQ below (qRi post) args s 0 0 (fun _ => False)) (F0 m 35 ls [])) : ∀ (n : Nat) (x1 : Int32) (x2 : Int32), w_X4_askedInSum_4 KE lo_asked lo_sum lo_sumSize n x1 x2 → ∀ (ls : Array Slot), lv_has ls 3 [(0, .ref (q (22 + 4 * k))), (1, .int x1), (2, .int x2)] → W p l e R s m args below meth c s.heap [] 0 0 (MQ below (qRi post) args s 0 0 (fun _ => False)) (F0 m 4 ls []) := by
  obtain ⟨hx, hb, hml, hown, hts, hr, hlocks, hRf, hRl⟩ := id X
  intro n
  induction n with
  | zero => intro x1 x2 hw; exact (show False from hw).elim
  | succ n ih =>
    intro x1 x2 hw ls hl
    refine lv_iload_n hx hb dX4_askedInSum_4 rfl (lv_at hl 2 rfl) ?_
    refine lv_aload_n hx hb dX4_askedInSum_5 rfl (lv_at hl 0 rfl) ?_
    refine gRX4_40 (k := k) hk hx hb hown hts hK hP dX4_askedInSum_6 ?_
    rw [show va_up Lo_sumSize k lo_sumSize k = lo_sumSize from by simp [va_up]]
    refine lv_icmp_ge (tgt := 35) hx hb dX4_askedInSum_9 (by decide) (fun c_1 => ?_) (fun c_1 => ?_)
    · have hw := hw.1 c_1
      exact hE _ hw ls (lv_sub hl [1] rfl)
    · have hw := hw.2 c_1
      refine lv_iload_n hx hb dX4_askedInSum_12 rfl (lv_at hl 1 rfl) ?_
      refine lv_aload_n hx hb dX4_askedInSum_13 rfl (lv_at hl 0 rfl) ?_
      refine gRX4_11 (k := k) hk hx hb hown hts hK hP dX4_askedInSum_14 ?_
      refine lv_aload_n hx hb dX4_askedInSum_17 rfl (lv_at hl 0 rfl) ?_
      refine gRX4_18 (k := k) hk hx hb hown hts hK hP dX4_askedInSum_18 ?_
      refine lv_iload_n hx hb dX4_askedInSum_21 rfl (lv_at hl 2 rfl) ?_
      have h_2 := hw.1
      have hw := hw.2
      refine ld_Lo_sum (k := k) hk hx hb hK hP h_2 dX4_askedInSum_22 ?_
      rw [show va_up Lo_sum k lo_sum k = lo_sum from by simp [va_up]]
      have h_3 := hw.1
      have hw := hw.2
      refine ld_Lo_asked (k := k) hk hx hb hK hP h_3 dX4_askedInSum_23 ?_
      rw [show va_up Lo_asked k lo_asked k = lo_asked from by simp [va_up]]
      refine ro_i (va_runS (As := [.int (lo_asked (lo_sum x2.toNatClampNeg).toNatClampNeg)]) (rest := [.int x1]) ⟨hx, hb, hml, hown, hts⟩ (c_J6_bitCount l hw) (kRX4_30 (h := 0) hts (Nat.le_trans (Nat.le_of_ble_eq_true rfl) hRf) (Nat.le_trans (Nat.le_of_ble_eq_true rfl) hRl)) pre_0 rfl rfl hl.1 rfl (lv_room (Nat.le_of_ble_eq_true rfl)) dX4_askedInSum_24 ⟨Nat.zero_le _, Nat.zero_le _⟩) (fun r_4 hw => ?_)
      refine lv_iadd hx hb dX4_askedInSum_27 ?_
      refine lv_topi (fun x1_5 e_5 => ?_)
      have hw := hw x1_5 e_5
      refine lv_istore_n (lv' := [(1, .int x1_5), (0, .ref (q (22 + 4 * k))), (2, .int x2)]) hx hb dX4_askedInSum_28 rfl hl (by decide) rfl (fun ls hl => ?_)
      obtain ⟨x2_6, e_6⟩ : ∃ z : Int32, z = x2 + (1 : Int32) := ⟨_, rfl⟩
      have hw := hw x2_6 e_6
      refine lv_iinc (v := x2_6) (lv' := [(2, .int x2_6), (1, .int x1_5), (0, .ref (q (22 + 4 * k)))]) hx hb dX4_askedInSum_29 hl (k := 2) rfl (by rw [e_6]; rfl) (by decide) rfl (fun ls hl => ?_)
      refine lv_goto (tgt := 4) hx hb dX4_askedInSum_32 (by decide) ?_
      exact ih _ _ hw ls (lv_sub hl [2, 1, 0] rfl)
set_option maxHeartbeats 4000000 in
set_option maxRecDepth 100000 in
theorem c_X4_askedInSum (l : Launch) {D : va_G} {q : Nat → Nat} {cA : Nat → ClassId} {Fc_unkept : Int32} {Fc_tablesRead : Int32} {Pg_letters : Nat → Int32} {Pg_size : Int32} {Pg_fault : Int32} {Pg_rows : Int32} {Pg_inRow : Int32} {Pg_width : Int32} {Fl_entries : Nat → Int32} {Fl_states : Int32} {Fl_columns : Int32} {Fl_moves : Int32} {Fl_stables : Int32} {Fl_amiss : Int32} {Fl_normal : Int32} {Pt_lessers : Nat → Int32} {Pt_greaters : Nat → Int32} {Pt_size : Int32} {Lc_signals : Nat → Int32} {Lc_kept : Nat → Int64} {Lc_keptFrom : Nat → Int64} {Lc_candidates : Int32} {Lc_size : Int32} {Sc_signals : Nat → Int32} {Sc_codes : Nat → Int32} {Sc_size : Int32} {Ai_codes : Nat → Int32} {Ai_bits : Int32} {Cu_seen : Nat → Int32} {Cu_inThrees : Nat → Int32} {Cu_all : Int32} {Lo_asked : Nat → Nat → Int32} {lo_asked : Nat → Int32} {Lo_ones : Nat → Nat → Int32} {lo_ones : Nat → Int32} {Lo_sum : Nat → Nat → Int32} {lo_sum : Nat → Int32} {Lo_wideSize : Nat → Int32} {lo_wideSize : Int32} {Lo_sumSize : Nat → Int32} {lo_sumSize : Int32} {Lo_flickers : Nat → Int32} {lo_flickers : Int32} {Lo_ready : Nat → Int32} {lo_ready : Int32} {Wa_at : Int32} {Wa_turns : Int32} {Wa_changes : Int32} {k : Nat} {post : Int32 → Prop}  (hk : k < 5) (hw : wp_X4_askedInSum post lo_asked lo_sum lo_sumSize ) : Met l yX4_askedInSum (Cond.code yX4_askedInSum cX4_askedInSum 3 (some .int) :: wsL_law) (rmH 1) (va_Pc [.ref (q (22 + 4 * k))] (fun U => va_P D vwCl (wC q cA Fc_unkept Fc_tablesRead Pg_letters Pg_size Pg_fault Pg_rows Pg_inRow Pg_width Fl_entries Fl_states Fl_columns Fl_moves Fl_stables Fl_amiss Fl_normal Pt_lessers Pt_greaters Pt_size Lc_signals Lc_kept Lc_keptFrom Lc_candidates Lc_size Sc_signals Sc_codes Sc_size Ai_codes Ai_bits Cu_seen Cu_inThrees Cu_all (va_up Lo_asked k lo_asked) (va_up Lo_ones k lo_ones) (va_up Lo_sum k lo_sum) (va_up Lo_wideSize k lo_wideSize) (va_up Lo_sumSize k lo_sumSize) (va_up Lo_flickers k lo_flickers) (va_up Lo_ready k lo_ready) Wa_at Wa_turns Wa_changes) U.heap ∧ va_K D vwCl (tyC cA) U ∧ nwC U)) (qRi post) 0 0 (fun _ => False) := by
  refine Met.ofW (cc := cX4_askedInSum) (maxL := 3) (ret := (some .int)) (by decide) rfl ?_
  intro p e s m args below meth c s₁ B hml hv
  obtain ⟨rfl, hP, hK, hN⟩ := hv
  have X : kC p (headSpec (Cond.code yX4_askedInSum cX4_askedInSum 3 (some .int) :: wsL_law) (rmH 1)).room s m _ meth c cX4_askedInSum RX4 3 (some .int) 1 := ⟨B.exec, B.bytes, hml, findClass_of_methodNamed B.named, fun w h => atoms_spec (ws := Cond.code yX4_askedInSum cX4_askedInSum 3 (some .int) :: wsL_law) B.pre w (List.mem_cons_of_mem _ h), B.returns, B.notSynchronized, Nat.le_refl _, Nat.le_refl _⟩
  obtain ⟨hx, hb, hml, hown, hts, hr, hlocks, hRf, hRl⟩ := id X
  have hl := lv_entry ([.ref (q (22 + 4 * k))]) (n := 3) (Nat.le_of_ble_eq_true rfl)
  rw [lg_entry_eq]
  generalize (lg_sl ([.ref (q (22 + 4 * k))]) ++ List.replicate (3 - (lg_sl ([.ref (q (22 + 4 * k))])).length) Slot.unset).toArray = ls at hl ⊢
  have hl : lv_has ls 3 [(0, .ref (q (22 + 4 * k)))] := hl
  refine lv_iconst (v := (0 : Int32)) hx hb dX4_askedInSum_0 (by decide) ?_
  refine lv_istore_n (lv' := [(1, .int (0 : Int32)), (0, .ref (q (22 + 4 * k)))]) hx hb dX4_askedInSum_1 rfl hl (by decide) rfl (fun ls hl => ?_)
  refine lv_iconst (v := (0 : Int32)) hx hb dX4_askedInSum_2 (by decide) ?_
  refine lv_istore_n (lv' := [(2, .int (0 : Int32)), (1, .int (0 : Int32)), (0, .ref (q (22 + 4 * k)))]) hx hb dX4_askedInSum_3 rfl hl (by decide) rfl (fun ls hl => ?_)
  obtain ⟨n_7, hw⟩ := hw
  refine t_X4_askedInSum_4 hk X hK hN hP (fun x1_7 hw ls hl => ?_) n_7 _ _ hw ls (lv_sub hl [2, 1, 0] rfl)
  refine lv_iload_n hx hb dX4_askedInSum_35 rfl (lv_at hl 0 rfl) ?_
  exact rt_i hx hb hr hlocks hw dX4_askedInSum_36
abbrev Z_X9_logic (D : va_G) (q : Nat → Nat) (cA : Nat → ClassId) (Fc_unkept : Int32) (Fc_tablesRead : Int32) (Pg_letters : Nat → Int32) (Pg_size : Int32) (Pg_fault : Int32) (Pg_rows : Int32) (Pg_inRow : Int32) (Pg_width : Int32) (Fl_entries : Nat → Int32) (Fl_states : Int32) (Fl_columns : Int32) (Fl_moves : Int32) (Fl_stables : Int32) (Fl_amiss : Int32) (Fl_normal : Int32) (Pt_lessers : Nat → Int32) (Pt_greaters : Nat → Int32) (Pt_size : Int32) (Lc_signals : Nat → Int32) (Lc_kept : Nat → Int64) (Lc_keptFrom : Nat → Int64) (Lc_candidates : Int32) (Lc_size : Int32) (Sc_signals : Nat → Int32) (Sc_codes : Nat → Int32) (Sc_size : Int32) (Ai_codes : Nat → Int32) (Ai_bits : Int32) (Cu_inThrees : Nat → Int32) (Wa_at : Int32) (Wa_turns : Int32) (Wa_changes : Int32) (post : Int32 → (Nat → Int32) → Int32 → (Nat → Nat → Int32) → (Nat → Nat → Int32) → (Nat → Nat → Int32) → (Nat → Int32) → (Nat → Int32) → (Nat → Int32) → (Nat → Int32) → Prop) : Int32 → State → Prop := fun r t => ∃ (y_Cu_seen : Nat → Int32) (y_Cu_all : Int32) (y_Lo_asked : Nat → Nat → Int32) (y_Lo_ones : Nat → Nat → Int32) (y_Lo_sum : Nat → Nat → Int32) (y_Lo_wideSize : Nat → Int32) (y_Lo_sumSize : Nat → Int32) (y_Lo_flickers : Nat → Int32) (y_Lo_ready : Nat → Int32), post r y_Cu_seen y_Cu_all y_Lo_asked y_Lo_ones y_Lo_sum y_Lo_wideSize y_Lo_sumSize y_Lo_flickers y_Lo_ready ∧ va_P D vwCl (wC q cA Fc_unkept Fc_tablesRead Pg_letters Pg_size Pg_fault Pg_rows Pg_inRow Pg_width Fl_entries Fl_states Fl_columns Fl_moves Fl_stables Fl_amiss Fl_normal Pt_lessers Pt_greaters Pt_size Lc_signals Lc_kept Lc_keptFrom Lc_candidates Lc_size Sc_signals Sc_codes Sc_size Ai_codes Ai_bits y_Cu_seen Cu_inThrees y_Cu_all y_Lo_asked y_Lo_ones y_Lo_sum y_Lo_wideSize y_Lo_sumSize y_Lo_flickers y_Lo_ready Wa_at Wa_turns Wa_changes) t.heap
set_option maxHeartbeats 4000000 in
set_option maxRecDepth 100000 in
theorem c_X9_logic (l : Launch) {D : va_G} {q : Nat → Nat} {cA : Nat → ClassId} {Fc_unkept : Int32} {Fc_tablesRead : Int32} {Pg_letters : Nat → Int32} {Pg_size : Int32} {Pg_fault : Int32} {Pg_rows : Int32} {Pg_inRow : Int32} {Pg_width : Int32} {Fl_entries : Nat → Int32} {Fl_states : Int32} {Fl_columns : Int32} {Fl_moves : Int32} {Fl_stables : Int32} {Fl_amiss : Int32} {Fl_normal : Int32} {Pt_lessers : Nat → Int32} {Pt_greaters : Nat → Int32} {Pt_size : Int32} {Lc_signals : Nat → Int32} {Lc_kept : Nat → Int64} {Lc_keptFrom : Nat → Int64} {Lc_candidates : Int32} {Lc_size : Int32} {Sc_signals : Nat → Int32} {Sc_codes : Nat → Int32} {Sc_size : Int32} {Ai_codes : Nat → Int32} {Ai_bits : Int32} {Cu_seen : Nat → Int32} {Cu_inThrees : Nat → Int32} {Cu_all : Int32} {Lo_asked : Nat → Nat → Int32} {Lo_ones : Nat → Nat → Int32} {Lo_sum : Nat → Nat → Int32} {Lo_wideSize : Nat → Int32} {Lo_sumSize : Nat → Int32} {Lo_flickers : Nat → Int32} {Lo_ready : Nat → Int32} {Wa_at : Int32} {Wa_turns : Int32} {Wa_changes : Int32} {A : Nat → Prop} {post : Int32 → (Nat → Int32) → Int32 → (Nat → Nat → Int32) → (Nat → Nat → Int32) → (Nat → Nat → Int32) → (Nat → Int32) → (Nat → Int32) → (Nat → Int32) → (Nat → Int32) → Prop} {x1 : Int32} {x2 : Int32} (hw : wp_X9_logic post Fc_unkept Fl_normal Sc_size Ai_codes Ai_bits Cu_seen Cu_inThrees Cu_all Lo_asked Lo_ones Lo_sum Lo_wideSize Lo_sumSize Lo_flickers Lo_ready x1 x2) : Met l yX9_logic (Cond.code yX9_logic cX9_logic 5 (some .int) :: wsL_law) (rmH 4) (va_Pc [.ref (q 0), .int x1, .int x2] (fun U => va_P D vwCl (wC q cA Fc_unkept Fc_tablesRead Pg_letters Pg_size Pg_fault Pg_rows Pg_inRow Pg_width Fl_entries Fl_states Fl_columns Fl_moves Fl_stables Fl_amiss Fl_normal Pt_lessers Pt_greaters Pt_size Lc_signals Lc_kept Lc_keptFrom Lc_candidates Lc_size Sc_signals Sc_codes Sc_size Ai_codes Ai_bits Cu_seen Cu_inThrees Cu_all Lo_asked Lo_ones Lo_sum Lo_wideSize Lo_sumSize Lo_flickers Lo_ready Wa_at Wa_turns Wa_changes) U.heap ∧ va_K D vwCl (tyC cA) U ∧ nwC U ∧ va_D A (wC q cA Fc_unkept Fc_tablesRead Pg_letters Pg_size Pg_fault Pg_rows Pg_inRow Pg_width Fl_entries Fl_states Fl_columns Fl_moves Fl_stables Fl_amiss Fl_normal Pt_lessers Pt_greaters Pt_size Lc_signals Lc_kept Lc_keptFrom Lc_candidates Lc_size Sc_signals Sc_codes Sc_size Ai_codes Ai_bits Cu_seen Cu_inThrees Cu_all Lo_asked Lo_ones Lo_sum Lo_wideSize Lo_sumSize Lo_flickers Lo_ready Wa_at Wa_turns Wa_changes))) (qWi (Z_X9_logic D q cA Fc_unkept Fc_tablesRead Pg_letters Pg_size Pg_fault Pg_rows Pg_inRow Pg_width Fl_entries Fl_states Fl_columns Fl_moves Fl_stables Fl_amiss Fl_normal Pt_lessers Pt_greaters Pt_size Lc_signals Lc_kept Lc_keptFrom Lc_candidates Lc_size Sc_signals Sc_codes Sc_size Ai_codes Ai_bits Cu_inThrees Wa_at Wa_turns Wa_changes post) A) 0 0 A := by
  refine Met.ofW (cc := cX9_logic) (maxL := 5) (ret := (some .int)) (by decide) rfl ?_
  intro p e s m args below meth c s₁ B hml hv
  obtain ⟨rfl, hP, hK, hN, hD⟩ := hv
  have X : kC p (headSpec (Cond.code yX9_logic cX9_logic 5 (some .int) :: wsL_law) (rmH 4)).room s m _ meth c cX9_logic RX9 5 (some .int) 4 := ⟨B.exec, B.bytes, hml, findClass_of_methodNamed B.named, fun w h => atoms_spec (ws := Cond.code yX9_logic cX9_logic 5 (some .int) :: wsL_law) B.pre w (List.mem_cons_of_mem _ h), B.returns, B.notSynchronized, Nat.le_refl _, Nat.le_refl _⟩
  obtain ⟨hx, hb, hml, hown, hts, hr, hlocks, hRf, hRl⟩ := id X
  have hS : va_S A s.heap s.heap [] := va_S.rf
  have hl := lv_entry ([.ref (q 0), .int x1, .int x2]) (n := 5) (Nat.le_of_ble_eq_true rfl)
  rw [lg_entry_eq]
  generalize (lg_sl ([.ref (q 0), .int x1, .int x2]) ++ List.replicate (5 - (lg_sl ([.ref (q 0), .int x1, .int x2])).length) Slot.unset).toArray = ls at hl ⊢
  have hl : lv_has ls 5 [(0, .ref (q 0)), (1, .int x1), (2, .int x2)] := hl
  refine lv_aload_n hx hb dX9_logic_0 rfl (lv_at hl 0 rfl) ?_
  refine lv_iload_n hx hb dX9_logic_1 rfl (lv_at hl 1 rfl) ?_
  refine ro_i (va_runV (As := [.int x1]) (rest := []) ⟨hx, hb, hml, hown, hts⟩ (c_X9_refusalOf l hw) (kRX9_190 (h := 1) hts (Nat.le_trans (Nat.le_of_ble_eq_true rfl) hRf) (Nat.le_trans (Nat.le_of_ble_eq_true rfl) hRl)) (preX9 hK hN hP) rfl rfl hl.1 rfl (lv_room (Nat.le_of_ble_eq_true rfl)) dX9_logic_2 ⟨Nat.zero_le _, Nat.zero_le _⟩) (fun r_1 hw => ?_)
  refine lv_istore_n (lv' := [(3, .int r_1), (0, .ref (q 0)), (1, .int x1), (2, .int x2)]) hx hb dX9_logic_5 rfl hl (by decide) rfl (fun ls hl => ?_)
  refine lv_iload_n hx hb dX9_logic_6 rfl (lv_at hl 0 rfl) ?_
  refine lv_if_eq (tgt := 12) hx hb dX9_logic_7 (by decide) (fun c_2 => ?_) (fun c_2 => ?_)
  · have hw := hw.1 c_2
    refine lv_iload_n hx hb dX9_logic_12 rfl (lv_at hl 3 rfl) ?_
    refine lv_if_lt (tgt := 21) hx hb dX9_logic_13 (by decide) (fun c_3 => ?_) (fun c_3 => ?_)
    · have hw := hw.1 c_3
      refine lv_sipush (v := ((-1002) : Int32)) hx hb dX9_logic_21 (by decide +kernel) ?_
      exact rw_i hx hb hr hlocks (fun t ht => ⟨Cu_seen, Cu_all, Lo_asked, Lo_ones, Lo_sum, Lo_wideSize, Lo_sumSize, Lo_flickers, Lo_ready, hw, by rw [ht]; exact hP⟩) hS dX9_logic_24
    · have hw := hw.2 c_3
      refine lv_iload_n hx hb dX9_logic_16 rfl (lv_at hl 3 rfl) ?_
      refine lv_iconst (v := (5 : Int32)) hx hb dX9_logic_17 (by decide) ?_
      refine lv_icmp_le (tgt := 25) hx hb dX9_logic_18 (by decide) (fun c_4 => ?_) (fun c_4 => ?_)
      · have hw := hw.1 c_4
        refine lv_aload_n hx hb dX9_logic_25 rfl (lv_at hl 1 rfl) ?_
        refine lv_iload_n hx hb dX9_logic_26 rfl (lv_at hl 2 rfl) ?_
        refine wr_r (va_runV (As := [.int x1]) (rest := []) ⟨hx, hb, hml, hown, hts⟩ (c_X9_workedOut l hw) (kRX9_199 (h := 3) hts (Nat.le_trans (Nat.le_of_ble_eq_true rfl) hRf) (Nat.le_trans (Nat.le_of_ble_eq_true rfl) hRl)) (preX9w hK hN hP hD) rfl rfl hl.1 rfl (lv_room (Nat.le_of_ble_eq_true rfl)) dX9_logic_27 ⟨Nat.zero_le _, Nat.zero_le _⟩) hS (fun rr t H locs ht hw hS => ?_)
        obtain ⟨j_5, yseen_5, yall_5, yasked_5, yones_5, ysum_5, ywideSize_5, ysumSize_5, yflickers_5, yready_5, rfl, hj_5, hw, hP⟩ := hw
        rw [ht] at hP
        have hP : va_P D vwCl (wC q cA Fc_unkept Fc_tablesRead Pg_letters Pg_size Pg_fault Pg_rows Pg_inRow Pg_width Fl_entries Fl_states Fl_columns Fl_moves Fl_stables Fl_amiss Fl_normal Pt_lessers Pt_greaters Pt_size Lc_signals Lc_kept Lc_keptFrom Lc_candidates Lc_size Sc_signals Sc_codes Sc_size Ai_codes Ai_bits yseen_5 Cu_inThrees yall_5 yasked_5 yones_5 ysum_5 ywideSize_5 ysumSize_5 yflickers_5 yready_5 Wa_at Wa_turns Wa_changes) H := hP
        have hD : va_D A (wC q cA Fc_unkept Fc_tablesRead Pg_letters Pg_size Pg_fault Pg_rows Pg_inRow Pg_width Fl_entries Fl_states Fl_columns Fl_moves Fl_stables Fl_amiss Fl_normal Pt_lessers Pt_greaters Pt_size Lc_signals Lc_kept Lc_keptFrom Lc_candidates Lc_size Sc_signals Sc_codes Sc_size Ai_codes Ai_bits yseen_5 Cu_inThrees yall_5 yasked_5 yones_5 ysum_5 ywideSize_5 ysumSize_5 yflickers_5 yready_5 Wa_at Wa_turns Wa_changes) := dC hD
        refine lv_astore (lv' := [(4, .ref (q (22 + 4 * j_5))), (3, .int r_1), (0, .ref (q 0)), (1, .int x1), (2, .int x2)]) hx hb dX9_logic_30 hl (by decide) rfl (fun ls hl => ?_)
        refine lv_iload_n hx hb dX9_logic_32 rfl (lv_at hl 4 rfl) ?_
        by_cases c_6 : x2 = (0 : Int32)
        · have hw := hw.1 c_6
          refine sw_in (k := (0 : Int32)) (off := 35) (tgt := 68) hx hb dX9_logic_33 c_6 (by decide) (by decide) (by decide) (by decide) ?_
          refine lv_aload hx hb dX9_logic_68 (lv_at hl 0 rfl) ?_
          refine gRX9_203 (k := j_5) (hj_5) hx hb hown hts hK hN hP dX9_logic_70 ?_
          exact rw_i hx hb hr hlocks (fun t ht => ⟨yseen_5, yall_5, yasked_5, yones_5, ysum_5, ywideSize_5, ysumSize_5, yflickers_5, yready_5, hw, by rw [ht]; exact hP⟩) hS dX9_logic_73
        · have hw := hw.2 c_6
          by_cases c_7 : x2 = (1 : Int32)
          · have hw := hw.1 c_7
            refine sw_in (k := (1 : Int32)) (off := 41) (tgt := 74) hx hb dX9_logic_33 c_7 (by decide) (by decide) (by decide) (by decide) ?_
            refine lv_aload hx hb dX9_logic_74 (lv_at hl 0 rfl) ?_
            refine gRX9_206 (k := j_5) (hj_5) hx hb hown hts hK hN hP dX9_logic_76 ?_
            exact rw_i hx hb hr hlocks (fun t ht => ⟨yseen_5, yall_5, yasked_5, yones_5, ysum_5, ywideSize_5, ysumSize_5, yflickers_5, yready_5, hw, by rw [ht]; exact hP⟩) hS dX9_logic_79
          · have hw := hw.2 c_7
            by_cases c_8 : x2 = (2 : Int32)
            · have hw := hw.1 c_8
              refine sw_in (k := (2 : Int32)) (off := 47) (tgt := 80) hx hb dX9_logic_33 c_8 (by decide) (by decide) (by decide) (by decide) ?_
              refine lv_aload hx hb dX9_logic_80 (lv_at hl 0 rfl) ?_
              refine gRX9_209 (k := j_5) (hj_5) hx hb hown hts hK hN hP dX9_logic_82 ?_
              exact rw_i hx hb hr hlocks (fun t ht => ⟨yseen_5, yall_5, yasked_5, yones_5, ysum_5, ywideSize_5, ysumSize_5, yflickers_5, yready_5, hw, by rw [ht]; exact hP⟩) hS dX9_logic_85
            · have hw := hw.2 c_8
              by_cases c_9 : x2 = (3 : Int32)
              · have hw := hw.1 c_9
                refine sw_in (k := (3 : Int32)) (off := 53) (tgt := 86) hx hb dX9_logic_33 c_9 (by decide) (by decide) (by decide) (by decide) ?_
                refine lv_aload hx hb dX9_logic_86 (lv_at hl 0 rfl) ?_
                have hP2 : va_P D vwCl (wC q cA Fc_unkept Fc_tablesRead Pg_letters Pg_size Pg_fault Pg_rows Pg_inRow Pg_width Fl_entries Fl_states Fl_columns Fl_moves Fl_stables Fl_amiss Fl_normal Pt_lessers Pt_greaters Pt_size Lc_signals Lc_kept Lc_keptFrom Lc_candidates Lc_size Sc_signals Sc_codes Sc_size Ai_codes Ai_bits yseen_5 Cu_inThrees yall_5 (va_up yasked_5 j_5 (yasked_5 j_5)) (va_up yones_5 j_5 (yones_5 j_5)) (va_up ysum_5 j_5 (ysum_5 j_5)) (va_up ywideSize_5 j_5 (ywideSize_5 j_5)) (va_up ysumSize_5 j_5 (ysumSize_5 j_5)) (va_up yflickers_5 j_5 (yflickers_5 j_5)) (va_up yready_5 j_5 (yready_5 j_5)) Wa_at Wa_turns Wa_changes) H := by simp only [up_self]; exact hP
                refine ro_i (va_runV (As := []) (rest := []) ⟨hx, hb, hml, hown, hts⟩ (c_X4_askedInSum l (k := j_5) (hj_5) hw) (kRX9_212 (h := 1) hts (Nat.le_trans (Nat.le_of_ble_eq_true rfl) hRf) (Nat.le_trans (Nat.le_of_ble_eq_true rfl) hRl)) (preX4 (k := j_5) (hj_5) hK hN hP2) rfl rfl hl.1 rfl (lv_room (Nat.le_of_ble_eq_true rfl)) dX9_logic_88 ⟨Nat.zero_le _, Nat.zero_le _⟩) (fun r_11 hw => ?_)
                exact rw_i hx hb hr hlocks (fun t ht => ⟨yseen_5, yall_5, yasked_5, yones_5, ysum_5, ywideSize_5, ysumSize_5, yflickers_5, yready_5, hw, by rw [ht]; exact hP⟩) hS dX9_logic_91
              · have hw := hw.2 c_9
                by_cases c_10 : x2 = (4 : Int32)
                · have hw := hw.1 c_10
                  refine sw_in (k := (4 : Int32)) (off := 59) (tgt := 92) hx hb dX9_logic_33 c_10 (by decide) (by decide) (by decide) (by decide) ?_
                  refine lv_aload_n hx hb dX9_logic_92 rfl (lv_at hl 2 rfl) ?_
                  refine gRX9_47 hx hb hown hts hK hP dX9_logic_93 ?_
                  refine lv_iload_n hx hb dX9_logic_96 rfl (lv_at hl 3 rfl) ?_
                  refine lv_iconst (v := (1 : Int32)) hx hb dX9_logic_97 (by decide) ?_
                  refine ro_i (va_runV (As := [.int x1, .int (1 : Int32)]) (rest := []) ⟨hx, hb, hml, hown, hts⟩ (c_X0_pointsWith l hw) (kRX9_215 (h := 1) hts (Nat.le_trans (Nat.le_of_ble_eq_true rfl) hRf) (Nat.le_trans (Nat.le_of_ble_eq_true rfl) hRl)) (preX0 hK hN hP) rfl rfl hl.1 rfl (lv_room (Nat.le_of_ble_eq_true rfl)) dX9_logic_98 ⟨Nat.zero_le _, Nat.zero_le _⟩) (fun r_12 hw => ?_)
                  exact rw_i hx hb hr hlocks (fun t ht => ⟨yseen_5, yall_5, yasked_5, yones_5, ysum_5, ywideSize_5, ysumSize_5, yflickers_5, yready_5, hw, by rw [ht]; exact hP⟩) hS dX9_logic_101
                · have hw := hw.2 c_10
                  refine lv_tableOut (tgt := 102) hx hb dX9_logic_33 (by have q0 := lv_neT c_6 (a := 0) (by decide); have q1 := lv_neT c_7 (a := 1) (by decide); have q2 := lv_neT c_8 (a := 2) (by decide); have q3 := lv_neT c_9 (a := 3) (by decide); have q4 := lv_neT c_10 (a := 4) (by decide); omega) (by decide) ?_
                  refine lv_aload_n hx hb dX9_logic_102 rfl (lv_at hl 2 rfl) ?_
                  refine gRX9_47 hx hb hown hts hK hP dX9_logic_103 ?_
                  refine lv_iload_n hx hb dX9_logic_106 rfl (lv_at hl 3 rfl) ?_
                  refine lv_iconst (v := (0 : Int32)) hx hb dX9_logic_107 (by decide) ?_
                  refine ro_i (va_runV (As := [.int x1, .int (0 : Int32)]) (rest := []) ⟨hx, hb, hml, hown, hts⟩ (c_X0_pointsWith l hw) (kRX9_215 (h := 1) hts (Nat.le_trans (Nat.le_of_ble_eq_true rfl) hRf) (Nat.le_trans (Nat.le_of_ble_eq_true rfl) hRl)) (preX0 hK hN hP) rfl rfl hl.1 rfl (lv_room (Nat.le_of_ble_eq_true rfl)) dX9_logic_108 ⟨Nat.zero_le _, Nat.zero_le _⟩) (fun r_13 hw => ?_)
                  exact rw_i hx hb hr hlocks (fun t ht => ⟨yseen_5, yall_5, yasked_5, yones_5, ysum_5, ywideSize_5, ysumSize_5, yflickers_5, yready_5, hw, by rw [ht]; exact hP⟩) hS dX9_logic_111
      · have hw := hw.2 c_4
        refine lv_sipush (v := ((-1002) : Int32)) hx hb dX9_logic_21 (by decide +kernel) ?_
        exact rw_i hx hb hr hlocks (fun t ht => ⟨Cu_seen, Cu_all, Lo_asked, Lo_ones, Lo_sum, Lo_wideSize, Lo_sumSize, Lo_flickers, Lo_ready, hw, by rw [ht]; exact hP⟩) hS dX9_logic_24
  · have hw := hw.2 c_2
    refine lv_iload_n hx hb dX9_logic_10 rfl (lv_at hl 0 rfl) ?_
    exact rw_i hx hb hr hlocks (fun t ht => ⟨Cu_seen, Cu_all, Lo_asked, Lo_ones, Lo_sum, Lo_wideSize, Lo_sumSize, Lo_flickers, Lo_ready, hw, by rw [ht]; exact hP⟩) hS dX9_logic_11
set_option maxHeartbeats 4000000 in
set_option maxRecDepth 100000 in
theorem c_X10_has (l : Launch)  {post : Int32 → Prop} {x0 : Int32} {x1 : Int32} {x2 : Int32} (hw : wp_X10_has post  x0 x1 x2) : Met l yX10_has (Cond.code yX10_has cX10_has 3 (some .boolean) :: wsL_law) (rmH 0) (va_Pc [.int x0, .int x1, .int x2] (fun _ => True)) (qRi post) 0 0 (fun _ => False) := by
  refine Met.ofW (cc := cX10_has) (maxL := 3) (ret := (some .boolean)) (by decide) rfl ?_
  intro p e s m args below meth c s₁ B hml hv
  obtain ⟨rfl, -⟩ := hv
  have X : kC p (headSpec (Cond.code yX10_has cX10_has 3 (some .boolean) :: wsL_law) (rmH 0)).room s m _ meth c cX10_has RX10 3 (some .boolean) 0 := ⟨B.exec, B.bytes, hml, findClass_of_methodNamed B.named, fun w h => atoms_spec (ws := Cond.code yX10_has cX10_has 3 (some .boolean) :: wsL_law) B.pre w (List.mem_cons_of_mem _ h), B.returns, B.notSynchronized, Nat.le_refl _, Nat.le_refl _⟩
  obtain ⟨hx, hb, hml, hown, hts, hr, hlocks, hRf, hRl⟩ := id X
  have hl := lv_entry ([.int x0, .int x1, .int x2]) (n := 3) (Nat.le_of_ble_eq_true rfl)
  rw [lg_entry_eq]
  generalize (lg_sl ([.int x0, .int x1, .int x2]) ++ List.replicate (3 - (lg_sl ([.int x0, .int x1, .int x2])).length) Slot.unset).toArray = ls at hl ⊢
  have hl : lv_has ls 3 [(0, .int x0), (1, .int x1), (2, .int x2)] := hl
  refine lv_iload_n hx hb dX10_has_0 rfl (lv_at hl 2 rfl) ?_
  refine lv_iload_n hx hb dX10_has_1 rfl (lv_at hl 0 rfl) ?_
  refine lv_iand hx hb dX10_has_2 ?_
  refine lv_iload_n hx hb dX10_has_3 rfl (lv_at hl 1 rfl) ?_
  refine lv_icmp_ne (tgt := 11) hx hb dX10_has_4 (by decide) (fun c_1 => ?_) (fun c_1 => ?_)
  · have hw := hw.2 c_1
    refine lv_iconst (v := (0 : Int32)) hx hb dX10_has_11 (by decide) ?_
    exact rt_z hx hb hr hlocks rfl hw dX10_has_12
  · have hw := hw.1 c_1
    refine lv_iconst (v := (1 : Int32)) hx hb dX10_has_7 (by decide) ?_
    refine lv_goto (tgt := 12) hx hb dX10_has_8 (by decide) ?_
    exact rt_z hx hb hr hlocks rfl hw dX10_has_12
set_option maxHeartbeats 4000000 in
set_option maxRecDepth 100000 in
theorem t_X10_isClean_5 {p : Program} {l : Launch} {e : Env} {R : Room} {s : State} {m : MethodId} {args : Array Value} {below : List Frame} {meth : Method} {c : Code} {D : va_G} {q : Nat → Nat} {cA : Nat → ClassId} {i_pageLength : Int32} {a_page : Nat → Int32} {i_states : Int32} {i_columns : Int32} {a_entries : Nat → Int32} {i_signals : Int32} {a_signalAt : Nat → Int32} {i_walksAt : Int32} {i_turned : Int32} {i_changed : Int32} {i_read : Int32} {i_newRows : Int32} {i_newEntries : Int32} {i_newColumns : Int32} {i_greatest : Int32} {a_newAt : Nat → Int32} {i_partings : Int32} {a_lowSet : Nat → Int32} {a_highSet : Nat → Int32} {i_leastMany : Int32} {a_leastAt : Nat → Int32} {a_tried : Nat → Int32} {a_keptLow : Nat → Int64} {a_keptHigh : Nat → Int64} {i_laid : Int32} {a_wants : Nat → Int32} {i_wide : Int32} {a_wideAsked : Nat → Int32} {a_wideOnes : Nat → Int32} {i_sum : Int32} {i_flickers : Int32} {a_sumAt : Nat → Int32} {j_h : Int64} {post : Int32 → Prop} {KE : Int32 → Prop} {x1 : Int32} {x2 : Int32} (X : kC p R s m args meth c cX10_isClean RX10 5 (some .boolean) 1) (hK : va_K D vwCl (tyM cA) s) (hP : va_P D vwCl (wM q cA i_pageLength a_page i_states i_columns a_entries i_signals a_signalAt i_walksAt i_turned i_changed i_read i_newRows i_newEntries i_newColumns i_greatest a_newAt i_partings a_lowSet a_highSet i_leastMany a_leastAt a_tried a_keptLow a_keptHigh i_laid a_wants i_wide a_wideAsked a_wideOnes i_sum i_flickers a_sumAt j_h) s.heap) (hE : ∀ (x3 : Int32), KE x3 → ∀ (ls : Array Slot), lv_has ls 5 [(3, .int x3)] → W p l e R s m args below meth c s.heap [] 0 0 (MQ below (qRi post) args s 0 0 (fun _ => False)) (F0 m 50 ls [])) : ∀ (n : Nat) (x3 : Int32) (x4 : Int32), w_X10_isClean_5 KE i_signals a_wants x1 x2 n x3 x4 → ∀ (ls : Array Slot), lv_has ls 5 [(0, .ref (q 0)), (1, .int x1), (2, .int x2), (3, .int x3), (4, .int x4)] → W p l e R s m args below meth c s.heap [] 0 0 (MQ below (qRi post) args s 0 0 (fun _ => False)) (F0 m 5 ls []) := by
  obtain ⟨hx, hb, hml, hown, hts, hr, hlocks, hRf, hRl⟩ := id X
  intro n
  induction n with
  | zero => intro x3 x4 hw; exact (show False from hw).elim
  | succ n ih =>
    intro x3 x4 hw ls hl
    have hw : (wp_X10_points (fun (r_1 : Int32) => ((r_1 ≤ x4 → KE x3) ∧ (¬ r_1 ≤ x4 → ((x3 = 0 → KE x3) ∧ (¬ x3 = 0 → (vp_in x4 128 ∧ (((a_wants x4.toNatClampNeg) = 0 → (wp_X10_has (fun (r_7 : Int32) => ((r_7 = 0 → (∀ x4_10 : Int32, x4_10 = x4 + (1 : Int32) → w_X10_isClean_5 KE i_signals a_wants x1 x2 n (1 : Int32) x4_10)) ∧ (¬ r_7 = 0 → (∀ x4_9 : Int32, x4_9 = x4 + (1 : Int32) → w_X10_isClean_5 KE i_signals a_wants x1 x2 n (0 : Int32) x4_9)))) x1 x2 x4)) ∧ (¬ (a_wants x4.toNatClampNeg) = 0 → (∀ x4_6 : Int32, x4_6 = x4 + (1 : Int32) → w_X10_isClean_5 KE i_signals a_wants x1 x2 n (1 : Int32) x4_6))))))))) i_signals) := hw
    refine lv_iload hx hb dX10_isClean_5 (lv_at hl 4 rfl) ?_
    refine lv_aload_n hx hb dX10_isClean_7 rfl (lv_at hl 0 rfl) ?_
    refine ro_i (va_runV (As := []) (rest := [.int x4]) ⟨hx, hb, hml, hown, hts⟩ (c_X10_points l hw) (kRX10_211 (h := 0) hts (Nat.le_trans (Nat.le_of_ble_eq_true rfl) hRf) (Nat.le_trans (Nat.le_of_ble_eq_true rfl) hRl)) (preM hK hP) rfl rfl hl.1 rfl (lv_room (Nat.le_of_ble_eq_true rfl)) dX10_isClean_8 ⟨Nat.zero_le _, Nat.zero_le _⟩) (fun r_1 hw => ?_)
    refine lv_icmp_ge (tgt := 50) hx hb dX10_isClean_11 (by decide) (fun c_2 => ?_) (fun c_2 => ?_)
    · have hw := hw.1 c_2
      exact hE _ hw ls (lv_sub hl [3] rfl)
    · have hw := hw.2 c_2
      refine lv_iload_n hx hb dX10_isClean_14 rfl (lv_at hl 3 rfl) ?_
      refine lv_if_eq (tgt := 50) hx hb dX10_isClean_15 (by decide) (fun c_3 => ?_) (fun c_3 => ?_)
      · have hw := hw.1 c_3
        exact hE _ hw ls (lv_sub hl [3] rfl)
      · have hw := hw.2 c_3
        refine lv_aload_n hx hb dX10_isClean_18 rfl (lv_at hl 0 rfl) ?_
        refine gRX10_48 hx hb hown hts hK hP dX10_isClean_19 ?_
        refine lv_iload hx hb dX10_isClean_22 (lv_at hl 4 rfl) ?_
        have h_4 := hw.1
        have hw := hw.2
        refine ld_a_wants hx hb hK hP h_4 dX10_isClean_24 ?_
        refine lv_if_ne (tgt := 38) hx hb dX10_isClean_25 (by decide) (fun c_5 => ?_) (fun c_5 => ?_)
        · have hw := hw.2 c_5
          refine lv_iconst (v := (1 : Int32)) hx hb dX10_isClean_38 (by decide) ?_
          refine lv_goto (tgt := 43) hx hb dX10_isClean_39 (by decide) ?_
          refine lv_istore_n (lv' := [(3, .int (1 : Int32)), (0, .ref (q 0)), (1, .int x1), (2, .int x2), (4, .int x4)]) hx hb dX10_isClean_43 rfl hl (by decide) rfl (fun ls hl => ?_)
          obtain ⟨x4_6, e_6⟩ : ∃ z : Int32, z = x4 + (1 : Int32) := ⟨_, rfl⟩
          have hw := hw x4_6 e_6
          refine lv_iinc (v := x4_6) (lv' := [(4, .int x4_6), (3, .int (1 : Int32)), (0, .ref (q 0)), (1, .int x1), (2, .int x2)]) hx hb dX10_isClean_44 hl (k := 4) rfl (by rw [e_6]; rfl) (by decide) rfl (fun ls hl => ?_)
          refine lv_goto (tgt := 5) hx hb dX10_isClean_47 (by decide) ?_
          exact ih _ _ hw ls (lv_sub hl [2, 3, 4, 1, 0] rfl)
        · have hw := hw.1 c_5
          refine lv_iload_n hx hb dX10_isClean_28 rfl (lv_at hl 1 rfl) ?_
          refine lv_iload_n hx hb dX10_isClean_29 rfl (lv_at hl 2 rfl) ?_
          refine lv_iload hx hb dX10_isClean_30 (lv_at hl 4 rfl) ?_
          refine ro_i (va_runS (As := [.int x1, .int x2, .int x4]) (rest := []) ⟨hx, hb, hml, hown, hts⟩ (c_X10_has l hw) (kRX10_217 (h := 0) hts (Nat.le_trans (Nat.le_of_ble_eq_true rfl) hRf) (Nat.le_trans (Nat.le_of_ble_eq_true rfl) hRl)) pre_0 rfl rfl hl.1 rfl (lv_room (Nat.le_of_ble_eq_true rfl)) dX10_isClean_32 ⟨Nat.zero_le _, Nat.zero_le _⟩) (fun r_7 hw => ?_)
          refine lv_if_ne (tgt := 42) hx hb dX10_isClean_35 (by decide) (fun c_8 => ?_) (fun c_8 => ?_)
          · have hw := hw.2 c_8
            refine lv_iconst (v := (0 : Int32)) hx hb dX10_isClean_42 (by decide) ?_
            refine lv_istore_n (lv' := [(3, .int (0 : Int32)), (0, .ref (q 0)), (1, .int x1), (2, .int x2), (4, .int x4)]) hx hb dX10_isClean_43 rfl hl (by decide) rfl (fun ls hl => ?_)
            obtain ⟨x4_9, e_9⟩ : ∃ z : Int32, z = x4 + (1 : Int32) := ⟨_, rfl⟩
            have hw := hw x4_9 e_9
            refine lv_iinc (v := x4_9) (lv' := [(4, .int x4_9), (3, .int (0 : Int32)), (0, .ref (q 0)), (1, .int x1), (2, .int x2)]) hx hb dX10_isClean_44 hl (k := 4) rfl (by rw [e_9]; rfl) (by decide) rfl (fun ls hl => ?_)
            refine lv_goto (tgt := 5) hx hb dX10_isClean_47 (by decide) ?_
            exact ih _ _ hw ls (lv_sub hl [2, 3, 4, 1, 0] rfl)
          · have hw := hw.1 c_8
            refine lv_iconst (v := (1 : Int32)) hx hb dX10_isClean_38 (by decide) ?_
            refine lv_goto (tgt := 43) hx hb dX10_isClean_39 (by decide) ?_
            refine lv_istore_n (lv' := [(3, .int (1 : Int32)), (0, .ref (q 0)), (1, .int x1), (2, .int x2), (4, .int x4)]) hx hb dX10_isClean_43 rfl hl (by decide) rfl (fun ls hl => ?_)
            obtain ⟨x4_10, e_10⟩ : ∃ z : Int32, z = x4 + (1 : Int32) := ⟨_, rfl⟩
            have hw := hw x4_10 e_10
            refine lv_iinc (v := x4_10) (lv' := [(4, .int x4_10), (3, .int (1 : Int32)), (0, .ref (q 0)), (1, .int x1), (2, .int x2)]) hx hb dX10_isClean_44 hl (k := 4) rfl (by rw [e_10]; rfl) (by decide) rfl (fun ls hl => ?_)
            refine lv_goto (tgt := 5) hx hb dX10_isClean_47 (by decide) ?_
            exact ih _ _ hw ls (lv_sub hl [2, 3, 4, 1, 0] rfl)
set_option maxHeartbeats 4000000 in
set_option maxRecDepth 100000 in
theorem c_X10_isClean (l : Launch) {D : va_G} {q : Nat → Nat} {cA : Nat → ClassId} {i_pageLength : Int32} {a_page : Nat → Int32} {i_states : Int32} {i_columns : Int32} {a_entries : Nat → Int32} {i_signals : Int32} {a_signalAt : Nat → Int32} {i_walksAt : Int32} {i_turned : Int32} {i_changed : Int32} {i_read : Int32} {i_newRows : Int32} {i_newEntries : Int32} {i_newColumns : Int32} {i_greatest : Int32} {a_newAt : Nat → Int32} {i_partings : Int32} {a_lowSet : Nat → Int32} {a_highSet : Nat → Int32} {i_leastMany : Int32} {a_leastAt : Nat → Int32} {a_tried : Nat → Int32} {a_keptLow : Nat → Int64} {a_keptHigh : Nat → Int64} {i_laid : Int32} {a_wants : Nat → Int32} {i_wide : Int32} {a_wideAsked : Nat → Int32} {a_wideOnes : Nat → Int32} {i_sum : Int32} {i_flickers : Int32} {a_sumAt : Nat → Int32} {j_h : Int64} {post : Int32 → Prop} {x1 : Int32} {x2 : Int32} (hw : wp_X10_isClean post i_signals a_wants x1 x2) : Met l yX10_isClean (Cond.code yX10_isClean cX10_isClean 5 (some .boolean) :: wsL_law) (rmH 1) (va_Pc [.ref (q 0), .int x1, .int x2] (fun U => va_P D vwCl (wM q cA i_pageLength a_page i_states i_columns a_entries i_signals a_signalAt i_walksAt i_turned i_changed i_read i_newRows i_newEntries i_newColumns i_greatest a_newAt i_partings a_lowSet a_highSet i_leastMany a_leastAt a_tried a_keptLow a_keptHigh i_laid a_wants i_wide a_wideAsked a_wideOnes i_sum i_flickers a_sumAt j_h) U.heap ∧ va_K D vwCl (tyM cA) U)) (qRi post) 0 0 (fun _ => False) := by
  refine Met.ofW (cc := cX10_isClean) (maxL := 5) (ret := (some .boolean)) (by decide) rfl ?_
  intro p e s m args below meth c s₁ B hml hv
  obtain ⟨rfl, hP, hK⟩ := hv
  have X : kC p (headSpec (Cond.code yX10_isClean cX10_isClean 5 (some .boolean) :: wsL_law) (rmH 1)).room s m _ meth c cX10_isClean RX10 5 (some .boolean) 1 := ⟨B.exec, B.bytes, hml, findClass_of_methodNamed B.named, fun w h => atoms_spec (ws := Cond.code yX10_isClean cX10_isClean 5 (some .boolean) :: wsL_law) B.pre w (List.mem_cons_of_mem _ h), B.returns, B.notSynchronized, Nat.le_refl _, Nat.le_refl _⟩
  obtain ⟨hx, hb, hml, hown, hts, hr, hlocks, hRf, hRl⟩ := id X
  have hl := lv_entry ([.ref (q 0), .int x1, .int x2]) (n := 5) (Nat.le_of_ble_eq_true rfl)
  rw [lg_entry_eq]
  generalize (lg_sl ([.ref (q 0), .int x1, .int x2]) ++ List.replicate (5 - (lg_sl ([.ref (q 0), .int x1, .int x2])).length) Slot.unset).toArray = ls at hl ⊢
  have hl : lv_has ls 5 [(0, .ref (q 0)), (1, .int x1), (2, .int x2)] := hl
  refine lv_iconst (v := (1 : Int32)) hx hb dX10_isClean_0 (by decide) ?_
  refine lv_istore_n (lv' := [(3, .int (1 : Int32)), (0, .ref (q 0)), (1, .int x1), (2, .int x2)]) hx hb dX10_isClean_1 rfl hl (by decide) rfl (fun ls hl => ?_)
  refine lv_iconst (v := (0 : Int32)) hx hb dX10_isClean_2 (by decide) ?_
  refine lv_istore (lv' := [(4, .int (0 : Int32)), (3, .int (1 : Int32)), (0, .ref (q 0)), (1, .int x1), (2, .int x2)]) hx hb dX10_isClean_3 hl (by decide) rfl (fun ls hl => ?_)
  obtain ⟨n_11, hw⟩ := hw
  refine t_X10_isClean_5 X hK hP (fun x3_11 hw ls hl => ?_) n_11 _ _ hw ls (lv_sub hl [2, 3, 4, 1, 0] rfl)
  refine lv_iload_n hx hb dX10_isClean_50 rfl (lv_at hl 0 rfl) ?_
  have hz := hw.1
  have hw := hw.2
  exact rt_z hx hb hr hlocks hz hw dX10_isClean_51
