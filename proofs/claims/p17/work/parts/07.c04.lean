abbrev Z_X3_prepare (D : va_G) (q : Nat → Nat) (cA : Nat → ClassId) (Fc_unkept : Int32) (Fc_tablesRead : Int32) (Pg_letters : Nat → Int32) (Pg_size : Int32) (Pg_fault : Int32) (Pg_rows : Int32) (Pg_inRow : Int32) (Pg_width : Int32) (Fl_entries : Nat → Int32) (Fl_states : Int32) (Fl_columns : Int32) (Fl_moves : Int32) (Fl_stables : Int32) (Fl_amiss : Int32) (Fl_normal : Int32) (Pt_lessers : Nat → Int32) (Pt_greaters : Nat → Int32) (Pt_size : Int32) (Lc_signals : Nat → Int32) (Lc_size : Int32) (Sc_signals : Nat → Int32) (Sc_codes : Nat → Int32) (Sc_size : Int32) (Ai_codes : Nat → Int32) (Ai_bits : Int32) (Cu_seen : Nat → Int32) (Cu_inThrees : Nat → Int32) (Cu_all : Int32) (Lo_asked : Nat → Nat → Int32) (Lo_ones : Nat → Nat → Int32) (Lo_sum : Nat → Nat → Int32) (Lo_wideSize : Nat → Int32) (Lo_sumSize : Nat → Int32) (Lo_flickers : Nat → Int32) (Lo_ready : Nat → Int32) (Wa_at : Int32) (Wa_turns : Int32) (Wa_changes : Int32) (post : (Nat → Int64) → (Nat → Int64) → Int32 → Prop) : State → Prop := fun t => ∃ (y_Lc_kept : Nat → Int64) (y_Lc_keptFrom : Nat → Int64) (y_Lc_candidates : Int32), post y_Lc_kept y_Lc_keptFrom y_Lc_candidates ∧ va_P D vwCl (wC q cA Fc_unkept Fc_tablesRead Pg_letters Pg_size Pg_fault Pg_rows Pg_inRow Pg_width Fl_entries Fl_states Fl_columns Fl_moves Fl_stables Fl_amiss Fl_normal Pt_lessers Pt_greaters Pt_size Lc_signals y_Lc_kept y_Lc_keptFrom y_Lc_candidates Lc_size Sc_signals Sc_codes Sc_size Ai_codes Ai_bits Cu_seen Cu_inThrees Cu_all Lo_asked Lo_ones Lo_sum Lo_wideSize Lo_sumSize Lo_flickers Lo_ready Wa_at Wa_turns Wa_changes) t.heap
set_option maxHeartbeats 4000000 in
set_option maxRecDepth 100000 in
theorem t_X3_prepare_51 {p : Program} {l : Launch} {e : Env} {R : Room} {s : State} {m : MethodId} {args : Array Value} {below : List Frame} {meth : Method} {c : Code} {A : Nat → Prop} {D : va_G} {q : Nat → Nat} {cA : Nat → ClassId} {Fc_unkept : Int32} {Fc_tablesRead : Int32} {Pg_letters : Nat → Int32} {Pg_size : Int32} {Pg_fault : Int32} {Pg_rows : Int32} {Pg_inRow : Int32} {Pg_width : Int32} {Fl_entries : Nat → Int32} {Fl_states : Int32} {Fl_columns : Int32} {Fl_moves : Int32} {Fl_stables : Int32} {Fl_amiss : Int32} {Fl_normal : Int32} {Pt_lessers : Nat → Int32} {Pt_greaters : Nat → Int32} {Pt_size : Int32} {Lc_signals : Nat → Int32} {Lc_kept : Nat → Int64} {Lc_keptFrom : Nat → Int64} {Lc_candidates : Int32} {Lc_size : Int32} {Sc_signals : Nat → Int32} {Sc_codes : Nat → Int32} {Sc_size : Int32} {Ai_codes : Nat → Int32} {Ai_bits : Int32} {Cu_seen : Nat → Int32} {Cu_inThrees : Nat → Int32} {Cu_all : Int32} {Lo_asked : Nat → Nat → Int32} {Lo_ones : Nat → Nat → Int32} {Lo_sum : Nat → Nat → Int32} {Lo_wideSize : Nat → Int32} {Lo_sumSize : Nat → Int32} {Lo_flickers : Nat → Int32} {Lo_ready : Nat → Int32} {Wa_at : Int32} {Wa_turns : Int32} {Wa_changes : Int32} {post : (Nat → Int64) → (Nat → Int64) → Int32 → Prop} {KE : Int64 → Prop} {x3 : Int32} (X : kC p R s m args meth c cX3_prepare RX3 7 none 2) (hK : va_K D vwCl (tyC cA) s) (hN : nwC s) (hE : ∀ (x4 : Int64), KE x4 → ∀ (ls : Array Slot) (H : Heap) (locs : List Loc), lv_has ls 7 [(0, .ref (q 8)), (2, .ref (q 5)), (3, .int x3), (4, .long x4)] → va_P D vwCl (wC q cA Fc_unkept Fc_tablesRead Pg_letters Pg_size Pg_fault Pg_rows Pg_inRow Pg_width Fl_entries Fl_states Fl_columns Fl_moves Fl_stables Fl_amiss Fl_normal Pt_lessers Pt_greaters Pt_size Lc_signals Lc_kept Lc_keptFrom Lc_candidates Lc_size Sc_signals Sc_codes Sc_size Ai_codes Ai_bits Cu_seen Cu_inThrees Cu_all Lo_asked Lo_ones Lo_sum Lo_wideSize Lo_sumSize Lo_flickers Lo_ready Wa_at Wa_turns Wa_changes) H → va_D A (wC q cA Fc_unkept Fc_tablesRead Pg_letters Pg_size Pg_fault Pg_rows Pg_inRow Pg_width Fl_entries Fl_states Fl_columns Fl_moves Fl_stables Fl_amiss Fl_normal Pt_lessers Pt_greaters Pt_size Lc_signals Lc_kept Lc_keptFrom Lc_candidates Lc_size Sc_signals Sc_codes Sc_size Ai_codes Ai_bits Cu_seen Cu_inThrees Cu_all Lo_asked Lo_ones Lo_sum Lo_wideSize Lo_sumSize Lo_flickers Lo_ready Wa_at Wa_turns Wa_changes) → va_S A s.heap H locs → W p l e R s m args below meth c H locs 0 0 (MQ below (qWv (Z_X3_prepare D q cA Fc_unkept Fc_tablesRead Pg_letters Pg_size Pg_fault Pg_rows Pg_inRow Pg_width Fl_entries Fl_states Fl_columns Fl_moves Fl_stables Fl_amiss Fl_normal Pt_lessers Pt_greaters Pt_size Lc_signals Lc_size Sc_signals Sc_codes Sc_size Ai_codes Ai_bits Cu_seen Cu_inThrees Cu_all Lo_asked Lo_ones Lo_sum Lo_wideSize Lo_sumSize Lo_flickers Lo_ready Wa_at Wa_turns Wa_changes post) A) args s 0 0 A) (F0 m 87 ls [])) : ∀ (n : Nat) (x4 : Int64) (x6 : Int32), w_X3_prepare_51 KE Pt_lessers Pt_greaters Pt_size x3 n x4 x6 → ∀ (ls : Array Slot) (H : Heap) (locs : List Loc), lv_has ls 7 [(0, .ref (q 8)), (2, .ref (q 5)), (3, .int x3), (4, .long x4), (6, .int x6)] → va_P D vwCl (wC q cA Fc_unkept Fc_tablesRead Pg_letters Pg_size Pg_fault Pg_rows Pg_inRow Pg_width Fl_entries Fl_states Fl_columns Fl_moves Fl_stables Fl_amiss Fl_normal Pt_lessers Pt_greaters Pt_size Lc_signals Lc_kept Lc_keptFrom Lc_candidates Lc_size Sc_signals Sc_codes Sc_size Ai_codes Ai_bits Cu_seen Cu_inThrees Cu_all Lo_asked Lo_ones Lo_sum Lo_wideSize Lo_sumSize Lo_flickers Lo_ready Wa_at Wa_turns Wa_changes) H → va_D A (wC q cA Fc_unkept Fc_tablesRead Pg_letters Pg_size Pg_fault Pg_rows Pg_inRow Pg_width Fl_entries Fl_states Fl_columns Fl_moves Fl_stables Fl_amiss Fl_normal Pt_lessers Pt_greaters Pt_size Lc_signals Lc_kept Lc_keptFrom Lc_candidates Lc_size Sc_signals Sc_codes Sc_size Ai_codes Ai_bits Cu_seen Cu_inThrees Cu_all Lo_asked Lo_ones Lo_sum Lo_wideSize Lo_sumSize Lo_flickers Lo_ready Wa_at Wa_turns Wa_changes) → va_S A s.heap H locs → W p l e R s m args below meth c H locs 0 0 (MQ below (qWv (Z_X3_prepare D q cA Fc_unkept Fc_tablesRead Pg_letters Pg_size Pg_fault Pg_rows Pg_inRow Pg_width Fl_entries Fl_states Fl_columns Fl_moves Fl_stables Fl_amiss Fl_normal Pt_lessers Pt_greaters Pt_size Lc_signals Lc_size Sc_signals Sc_codes Sc_size Ai_codes Ai_bits Cu_seen Cu_inThrees Cu_all Lo_asked Lo_ones Lo_sum Lo_wideSize Lo_sumSize Lo_flickers Lo_ready Wa_at Wa_turns Wa_changes post) A) args s 0 0 A) (F0 m 51 ls []) := by
  obtain ⟨hx, hb, hml, hown, hts, hr, hlocks, hRf, hRl⟩ := id X
  intro n
  induction n with
  | zero => intro x4 x6 hw; exact (show False from hw).elim
  | succ n ih =>
    intro x4 x6 hw ls H locs hl hP hD hS
    refine lv_iload hx hb dX3_prepare_51 (lv_at hl 4 rfl) ?_
    refine lv_aload_n hx hb dX3_prepare_53 rfl (lv_at hl 1 rfl) ?_
    refine gRX3_37 hx hb hown hts hK hN hP dX3_prepare_54 ?_
    refine lv_icmp_ge (tgt := 87) hx hb dX3_prepare_57 (by decide) (fun c_5 => ?_) (fun c_5 => ?_)
    · have hw := hw.1 c_5
      exact hE _ hw ls _ _ (lv_sub hl [0, 1, 2, 3] rfl) hP hD hS
    · have hw := hw.2 c_5
      refine lv_aload_n hx hb dX3_prepare_60 rfl (lv_at hl 1 rfl) ?_
      refine lv_iload hx hb dX3_prepare_61 (lv_at hl 4 rfl) ?_
      refine lv_iconst (v := (2 : Int32)) hx hb dX3_prepare_63 (by decide) ?_
      refine lv_iload_n hx hb dX3_prepare_64 rfl (lv_at hl 2 rfl) ?_
      refine lv_imul hx hb dX3_prepare_65 ?_
      refine ro_i (va_runV (As := [.int x6, .int ((2 : Int32) * x3)]) (rest := []) ⟨hx, hb, hml, hown, hts⟩ (c_X6_isKeptBy l hw) (kRX3_40 (h := 1) hts (Nat.le_trans (Nat.le_of_ble_eq_true rfl) hRf) (Nat.le_trans (Nat.le_of_ble_eq_true rfl) hRl)) (preX6 hK hN hP) rfl rfl hl.1 rfl (lv_room (Nat.le_of_ble_eq_true rfl)) dX3_prepare_66 ⟨Nat.zero_le _, Nat.zero_le _⟩) (fun r_6 hw => ?_)
      refine lv_if_eq (tgt := 81) hx hb dX3_prepare_69 (by decide) (fun c_7 => ?_) (fun c_7 => ?_)
      · have hw := hw.1 c_7
        obtain ⟨x6_8, e_8⟩ : ∃ z : Int32, z = x6 + (1 : Int32) := ⟨_, rfl⟩
        have hw := hw x6_8 e_8
        refine lv_iinc (v := x6_8) (lv' := [(6, .int x6_8), (0, .ref (q 8)), (2, .ref (q 5)), (3, .int x3), (4, .long x4)]) hx hb dX3_prepare_81 hl (k := 4) rfl (by rw [e_8]; rfl) (by decide) rfl (fun ls hl => ?_)
        refine lv_goto (tgt := 51) hx hb dX3_prepare_84 (by decide) ?_
        exact ih _ _ hw ls _ _ (lv_sub hl [1, 2, 3, 4, 0] rfl) hP hD hS
      · have hw := hw.2 c_7
        refine lv_lload hx hb dX3_prepare_72 (lv_at hl 3 rfl) ?_
        refine lv_lconst (v := (1 : Int64)) hx hb dX3_prepare_74 (by decide) ?_
        refine lv_iload hx hb dX3_prepare_75 (lv_at hl 4 rfl) ?_
        refine lv_lshl hx hb dX3_prepare_77 rfl ?_
        refine lv_lor hx hb dX3_prepare_78 ?_
        refine lv_topl (fun x4_9 e_9 => ?_)
        have hw := hw x4_9 e_9
        refine lv_lstore (lv' := [(4, .long x4_9), (0, .ref (q 8)), (2, .ref (q 5)), (3, .int x3), (6, .int x6)]) hx hb dX3_prepare_79 hl (by decide) rfl (fun ls hl => ?_)
        obtain ⟨x6_10, e_10⟩ : ∃ z : Int32, z = x6 + (1 : Int32) := ⟨_, rfl⟩
        have hw := hw x6_10 e_10
        refine lv_iinc (v := x6_10) (lv' := [(6, .int x6_10), (4, .long x4_9), (0, .ref (q 8)), (2, .ref (q 5)), (3, .int x3)]) hx hb dX3_prepare_81 hl (k := 4) rfl (by rw [e_10]; rfl) (by decide) rfl (fun ls hl => ?_)
        refine lv_goto (tgt := 51) hx hb dX3_prepare_84 (by decide) ?_
        exact ih _ _ hw ls _ _ (lv_sub hl [2, 3, 4, 1, 0] rfl) hP hD hS
set_option maxHeartbeats 4000000 in
set_option maxRecDepth 100000 in
theorem t_X3_prepare_41 {p : Program} {l : Launch} {e : Env} {R : Room} {s : State} {m : MethodId} {args : Array Value} {below : List Frame} {meth : Method} {c : Code} {A : Nat → Prop} {D : va_G} {q : Nat → Nat} {cA : Nat → ClassId} {Fc_unkept : Int32} {Fc_tablesRead : Int32} {Pg_letters : Nat → Int32} {Pg_size : Int32} {Pg_fault : Int32} {Pg_rows : Int32} {Pg_inRow : Int32} {Pg_width : Int32} {Fl_entries : Nat → Int32} {Fl_states : Int32} {Fl_columns : Int32} {Fl_moves : Int32} {Fl_stables : Int32} {Fl_amiss : Int32} {Fl_normal : Int32} {Pt_lessers : Nat → Int32} {Pt_greaters : Nat → Int32} {Pt_size : Int32} {Lc_signals : Nat → Int32} {Lc_candidates : Int32} {Lc_size : Int32} {Sc_signals : Nat → Int32} {Sc_codes : Nat → Int32} {Sc_size : Int32} {Ai_codes : Nat → Int32} {Ai_bits : Int32} {Cu_seen : Nat → Int32} {Cu_inThrees : Nat → Int32} {Cu_all : Int32} {Lo_asked : Nat → Nat → Int32} {Lo_ones : Nat → Nat → Int32} {Lo_sum : Nat → Nat → Int32} {Lo_wideSize : Nat → Int32} {Lo_sumSize : Nat → Int32} {Lo_flickers : Nat → Int32} {Lo_ready : Nat → Int32} {Wa_at : Int32} {Wa_turns : Int32} {Wa_changes : Int32} {post : (Nat → Int64) → (Nat → Int64) → Int32 → Prop} {KE : (Nat → Int64) → (Nat → Int64) → Prop} (X : kC p R s m args meth c cX3_prepare RX3 7 none 2) (hK : va_K D vwCl (tyC cA) s) (hN : nwC s) (hE : ∀ (Lc_kept : Nat → Int64) (Lc_keptFrom : Nat → Int64), KE Lc_kept Lc_keptFrom → ∀ (ls : Array Slot) (H : Heap) (locs : List Loc), lv_has ls 7 [] → va_P D vwCl (wC q cA Fc_unkept Fc_tablesRead Pg_letters Pg_size Pg_fault Pg_rows Pg_inRow Pg_width Fl_entries Fl_states Fl_columns Fl_moves Fl_stables Fl_amiss Fl_normal Pt_lessers Pt_greaters Pt_size Lc_signals Lc_kept Lc_keptFrom Lc_candidates Lc_size Sc_signals Sc_codes Sc_size Ai_codes Ai_bits Cu_seen Cu_inThrees Cu_all Lo_asked Lo_ones Lo_sum Lo_wideSize Lo_sumSize Lo_flickers Lo_ready Wa_at Wa_turns Wa_changes) H → va_D A (wC q cA Fc_unkept Fc_tablesRead Pg_letters Pg_size Pg_fault Pg_rows Pg_inRow Pg_width Fl_entries Fl_states Fl_columns Fl_moves Fl_stables Fl_amiss Fl_normal Pt_lessers Pt_greaters Pt_size Lc_signals Lc_kept Lc_keptFrom Lc_candidates Lc_size Sc_signals Sc_codes Sc_size Ai_codes Ai_bits Cu_seen Cu_inThrees Cu_all Lo_asked Lo_ones Lo_sum Lo_wideSize Lo_sumSize Lo_flickers Lo_ready Wa_at Wa_turns Wa_changes) → va_S A s.heap H locs → W p l e R s m args below meth c H locs 0 0 (MQ below (qWv (Z_X3_prepare D q cA Fc_unkept Fc_tablesRead Pg_letters Pg_size Pg_fault Pg_rows Pg_inRow Pg_width Fl_entries Fl_states Fl_columns Fl_moves Fl_stables Fl_amiss Fl_normal Pt_lessers Pt_greaters Pt_size Lc_signals Lc_size Sc_signals Sc_codes Sc_size Ai_codes Ai_bits Cu_seen Cu_inThrees Cu_all Lo_asked Lo_ones Lo_sum Lo_wideSize Lo_sumSize Lo_flickers Lo_ready Wa_at Wa_turns Wa_changes post) A) args s 0 0 A) (F0 m 118 ls [])) : ∀ (n : Nat) (x3 : Int32) (Lc_kept : Nat → Int64) (Lc_keptFrom : Nat → Int64), w_X3_prepare_41 KE Pt_lessers Pt_greaters Pt_size n x3 Lc_kept Lc_keptFrom → ∀ (ls : Array Slot) (H : Heap) (locs : List Loc), lv_has ls 7 [(0, .ref (q 8)), (2, .ref (q 5)), (3, .int x3)] → va_P D vwCl (wC q cA Fc_unkept Fc_tablesRead Pg_letters Pg_size Pg_fault Pg_rows Pg_inRow Pg_width Fl_entries Fl_states Fl_columns Fl_moves Fl_stables Fl_amiss Fl_normal Pt_lessers Pt_greaters Pt_size Lc_signals Lc_kept Lc_keptFrom Lc_candidates Lc_size Sc_signals Sc_codes Sc_size Ai_codes Ai_bits Cu_seen Cu_inThrees Cu_all Lo_asked Lo_ones Lo_sum Lo_wideSize Lo_sumSize Lo_flickers Lo_ready Wa_at Wa_turns Wa_changes) H → va_D A (wC q cA Fc_unkept Fc_tablesRead Pg_letters Pg_size Pg_fault Pg_rows Pg_inRow Pg_width Fl_entries Fl_states Fl_columns Fl_moves Fl_stables Fl_amiss Fl_normal Pt_lessers Pt_greaters Pt_size Lc_signals Lc_kept Lc_keptFrom Lc_candidates Lc_size Sc_signals Sc_codes Sc_size Ai_codes Ai_bits Cu_seen Cu_inThrees Cu_all Lo_asked Lo_ones Lo_sum Lo_wideSize Lo_sumSize Lo_flickers Lo_ready Wa_at Wa_turns Wa_changes) → va_S A s.heap H locs → W p l e R s m args below meth c H locs 0 0 (MQ below (qWv (Z_X3_prepare D q cA Fc_unkept Fc_tablesRead Pg_letters Pg_size Pg_fault Pg_rows Pg_inRow Pg_width Fl_entries Fl_states Fl_columns Fl_moves Fl_stables Fl_amiss Fl_normal Pt_lessers Pt_greaters Pt_size Lc_signals Lc_size Sc_signals Sc_codes Sc_size Ai_codes Ai_bits Cu_seen Cu_inThrees Cu_all Lo_asked Lo_ones Lo_sum Lo_wideSize Lo_sumSize Lo_flickers Lo_ready Wa_at Wa_turns Wa_changes post) A) args s 0 0 A) (F0 m 41 ls []) := by
  obtain ⟨hx, hb, hml, hown, hts, hr, hlocks, hRf, hRl⟩ := id X
  intro n
  induction n with
  | zero => intro x3 Lc_kept Lc_keptFrom hw; exact (show False from hw).elim
  | succ n ih =>
    intro x3 Lc_kept Lc_keptFrom hw ls H locs hl hP hD hS
    refine lv_iload_n hx hb dX3_prepare_41 rfl (lv_at hl 2 rfl) ?_
    refine lv_if_lt (tgt := 118) hx hb dX3_prepare_42 (by decide) (fun c_4 => ?_) (fun c_4 => ?_)
    · have hw := hw.1 c_4
      exact hE _ _ hw ls _ _ (lv_sub hl [] rfl) hP hD hS
    · have hw := hw.2 c_4
      refine lv_lconst (v := (0 : Int64)) hx hb dX3_prepare_45 (by decide) ?_
      refine lv_lstore (lv' := [(4, .long (0 : Int64)), (0, .ref (q 8)), (2, .ref (q 5)), (3, .int x3)]) hx hb dX3_prepare_46 hl (by decide) rfl (fun ls hl => ?_)
      refine lv_iconst (v := (0 : Int32)) hx hb dX3_prepare_48 (by decide) ?_
      refine lv_istore (lv' := [(6, .int (0 : Int32)), (4, .long (0 : Int64)), (0, .ref (q 8)), (2, .ref (q 5)), (3, .int x3)]) hx hb dX3_prepare_49 hl (by decide) rfl (fun ls hl => ?_)
      obtain ⟨n_11, hw⟩ := hw
      refine t_X3_prepare_51 X hK hN (fun x4_11 hw ls H locs hl hP hD hS => ?_) n_11 _ _ hw ls _ _ (lv_sub hl [2, 3, 4, 1, 0] rfl) hP hD hS
      refine lv_aload_n hx hb dX3_prepare_87 rfl (lv_at hl 0 rfl) ?_
      refine gRX3_15 hx hb hown hts hK hP dX3_prepare_88 ?_
      refine lv_iload_n hx hb dX3_prepare_91 rfl (lv_at hl 2 rfl) ?_
      refine lv_lload hx hb dX3_prepare_92 (lv_at hl 3 rfl) ?_
      have h_12 := hw.1
      have hw := hw.2
      refine st_Lc_kept hx hb hK hP hD hS h_12 dX3_prepare_94 (fun H locs a_12 e_12 hP hD hS => ?_)
      have hw := hw a_12 e_12
      refine lv_aload_n hx hb dX3_prepare_95 rfl (lv_at hl 0 rfl) ?_
      refine gRX3_19 hx hb hown hts hK hP dX3_prepare_96 ?_
      refine lv_iload_n hx hb dX3_prepare_99 rfl (lv_at hl 2 rfl) ?_
      refine lv_aload_n hx hb dX3_prepare_100 rfl (lv_at hl 0 rfl) ?_
      refine gRX3_19 hx hb hown hts hK hP dX3_prepare_101 ?_
      refine lv_iload_n hx hb dX3_prepare_104 rfl (lv_at hl 2 rfl) ?_
      refine lv_iconst (v := (1 : Int32)) hx hb dX3_prepare_105 (by decide) ?_
      refine lv_iadd hx hb dX3_prepare_106 ?_
      have h_13 := hw.1
      have hw := hw.2
      refine ld_Lc_keptFrom hx hb hK hP h_13 dX3_prepare_107 ?_
      refine lv_lload hx hb dX3_prepare_108 (lv_at hl 3 rfl) ?_
      refine lv_lor hx hb dX3_prepare_110 ?_
      have h_14 := hw.1
      have hw := hw.2
      refine st_Lc_keptFrom hx hb hK hP hD hS h_14 dX3_prepare_111 (fun H locs a_14 e_14 hP hD hS => ?_)
      have hw := hw a_14 e_14
      obtain ⟨x3_15, e_15⟩ : ∃ z : Int32, z = x3 + ((-1) : Int32) := ⟨_, rfl⟩
      have hw := hw x3_15 e_15
      refine lv_iinc (v := x3_15) (lv' := [(3, .int x3_15), (0, .ref (q 8)), (2, .ref (q 5)), (4, .long x4_11)]) hx hb dX3_prepare_112 hl (k := 2) rfl (by rw [e_15]; rfl) (by decide) rfl (fun ls hl => ?_)
      refine lv_goto (tgt := 41) hx hb dX3_prepare_115 (by decide) ?_
      exact ih _ _ _ hw ls _ _ (lv_sub hl [1, 2, 0] rfl) hP hD hS
set_option maxHeartbeats 4000000 in
set_option maxRecDepth 100000 in
theorem t_X3_prepare_21 {p : Program} {l : Launch} {e : Env} {R : Room} {s : State} {m : MethodId} {args : Array Value} {below : List Frame} {meth : Method} {c : Code} {A : Nat → Prop} {D : va_G} {q : Nat → Nat} {cA : Nat → ClassId} {Fc_unkept : Int32} {Fc_tablesRead : Int32} {Pg_letters : Nat → Int32} {Pg_size : Int32} {Pg_fault : Int32} {Pg_rows : Int32} {Pg_inRow : Int32} {Pg_width : Int32} {Fl_entries : Nat → Int32} {Fl_states : Int32} {Fl_columns : Int32} {Fl_moves : Int32} {Fl_stables : Int32} {Fl_amiss : Int32} {Fl_normal : Int32} {Pt_lessers : Nat → Int32} {Pt_greaters : Nat → Int32} {Pt_size : Int32} {Lc_signals : Nat → Int32} {Lc_kept : Nat → Int64} {Lc_keptFrom : Nat → Int64} {Lc_candidates : Int32} {Lc_size : Int32} {Sc_signals : Nat → Int32} {Sc_codes : Nat → Int32} {Sc_size : Int32} {Ai_codes : Nat → Int32} {Ai_bits : Int32} {Cu_seen : Nat → Int32} {Cu_inThrees : Nat → Int32} {Cu_all : Int32} {Lo_asked : Nat → Nat → Int32} {Lo_ones : Nat → Nat → Int32} {Lo_sum : Nat → Nat → Int32} {Lo_wideSize : Nat → Int32} {Lo_sumSize : Nat → Int32} {Lo_flickers : Nat → Int32} {Lo_ready : Nat → Int32} {Wa_at : Int32} {Wa_turns : Int32} {Wa_changes : Int32} {post : (Nat → Int64) → (Nat → Int64) → Int32 → Prop} {v0 : Int32} (X : kC p R s m args meth c cX3_prepare RX3 7 none 2) (hK : va_K D vwCl (tyC cA) s) (hN : nwC s) (hw : j_X3_prepare_21 post Pt_lessers Pt_greaters Pt_size Lc_kept Lc_keptFrom v0) (ls : Array Slot) (H : Heap) (locs : List Loc) (hl : lv_has ls 7 [(0, .ref (q 8)), (2, .ref (q 5))]) (hP : va_P D vwCl (wC q cA Fc_unkept Fc_tablesRead Pg_letters Pg_size Pg_fault Pg_rows Pg_inRow Pg_width Fl_entries Fl_states Fl_columns Fl_moves Fl_stables Fl_amiss Fl_normal Pt_lessers Pt_greaters Pt_size Lc_signals Lc_kept Lc_keptFrom Lc_candidates Lc_size Sc_signals Sc_codes Sc_size Ai_codes Ai_bits Cu_seen Cu_inThrees Cu_all Lo_asked Lo_ones Lo_sum Lo_wideSize Lo_sumSize Lo_flickers Lo_ready Wa_at Wa_turns Wa_changes) H) (hD : va_D A (wC q cA Fc_unkept Fc_tablesRead Pg_letters Pg_size Pg_fault Pg_rows Pg_inRow Pg_width Fl_entries Fl_states Fl_columns Fl_moves Fl_stables Fl_amiss Fl_normal Pt_lessers Pt_greaters Pt_size Lc_signals Lc_kept Lc_keptFrom Lc_candidates Lc_size Sc_signals Sc_codes Sc_size Ai_codes Ai_bits Cu_seen Cu_inThrees Cu_all Lo_asked Lo_ones Lo_sum Lo_wideSize Lo_sumSize Lo_flickers Lo_ready Wa_at Wa_turns Wa_changes)) (hS : va_S A s.heap H locs) : W p l e R s m args below meth c H locs 0 0 (MQ below (qWv (Z_X3_prepare D q cA Fc_unkept Fc_tablesRead Pg_letters Pg_size Pg_fault Pg_rows Pg_inRow Pg_width Fl_entries Fl_states Fl_columns Fl_moves Fl_stables Fl_amiss Fl_normal Pt_lessers Pt_greaters Pt_size Lc_signals Lc_size Sc_signals Sc_codes Sc_size Ai_codes Ai_bits Cu_seen Cu_inThrees Cu_all Lo_asked Lo_ones Lo_sum Lo_wideSize Lo_sumSize Lo_flickers Lo_ready Wa_at Wa_turns Wa_changes post) A) args s 0 0 A) (F0 m 21 ls [.int v0, .ref (q 8)]) := by
  obtain ⟨hx, hb, hml, hown, hts, hr, hlocks, hRf, hRl⟩ := id X
  refine pRX3_34 hx hb hown hts hK hP hD hS dX3_prepare_21 (fun H locs hP hD hS => ?_)
  refine lv_aload_n hx hb dX3_prepare_24 rfl (lv_at hl 0 rfl) ?_
  refine gRX3_19 hx hb hown hts hK hP dX3_prepare_25 ?_
  refine lv_aload_n hx hb dX3_prepare_28 rfl (lv_at hl 0 rfl) ?_
  refine gRX3_34 hx hb hown hts hK hP dX3_prepare_29 ?_
  refine lv_lconst (v := (0 : Int64)) hx hb dX3_prepare_32 (by decide) ?_
  have h_2 := hw.1
  have hw := hw.2
  refine st_Lc_keptFrom hx hb hK hP hD hS h_2 dX3_prepare_33 (fun H locs a_2 e_2 hP hD hS => ?_)
  have hw := hw a_2 e_2
  refine lv_aload_n hx hb dX3_prepare_34 rfl (lv_at hl 0 rfl) ?_
  refine gRX3_34 hx hb hown hts hK hP dX3_prepare_35 ?_
  refine lv_iconst (v := (1 : Int32)) hx hb dX3_prepare_38 (by decide) ?_
  refine lv_isub hx hb dX3_prepare_39 ?_
  refine lv_topi (fun x3_3 e_3 => ?_)
  have hw := hw x3_3 e_3
  refine lv_istore_n (lv' := [(3, .int x3_3), (0, .ref (q 8)), (2, .ref (q 5))]) hx hb dX3_prepare_40 rfl hl (by decide) rfl (fun ls hl => ?_)
  obtain ⟨n_16, hw⟩ := hw
  refine t_X3_prepare_41 X hK hN (fun ykept_16 ykeptFrom_16 hw ls H locs hl hP hD hS => ?_) n_16 _ _ _ hw ls _ _ (lv_sub hl [1, 2, 0] rfl) hP hD hS
  exact rw_v hx hb hr hlocks (fun t ht => ⟨ykept_16, ykeptFrom_16, v0, hw, by rw [ht]; exact hP⟩) hS dX3_prepare_118
set_option maxHeartbeats 4000000 in
set_option maxRecDepth 100000 in
theorem c_X3_prepare (l : Launch) {D : va_G} {q : Nat → Nat} {cA : Nat → ClassId} {Fc_unkept : Int32} {Fc_tablesRead : Int32} {Pg_letters : Nat → Int32} {Pg_size : Int32} {Pg_fault : Int32} {Pg_rows : Int32} {Pg_inRow : Int32} {Pg_width : Int32} {Fl_entries : Nat → Int32} {Fl_states : Int32} {Fl_columns : Int32} {Fl_moves : Int32} {Fl_stables : Int32} {Fl_amiss : Int32} {Fl_normal : Int32} {Pt_lessers : Nat → Int32} {Pt_greaters : Nat → Int32} {Pt_size : Int32} {Lc_signals : Nat → Int32} {Lc_kept : Nat → Int64} {Lc_keptFrom : Nat → Int64} {Lc_candidates : Int32} {Lc_size : Int32} {Sc_signals : Nat → Int32} {Sc_codes : Nat → Int32} {Sc_size : Int32} {Ai_codes : Nat → Int32} {Ai_bits : Int32} {Cu_seen : Nat → Int32} {Cu_inThrees : Nat → Int32} {Cu_all : Int32} {Lo_asked : Nat → Nat → Int32} {Lo_ones : Nat → Nat → Int32} {Lo_sum : Nat → Nat → Int32} {Lo_wideSize : Nat → Int32} {Lo_sumSize : Nat → Int32} {Lo_flickers : Nat → Int32} {Lo_ready : Nat → Int32} {Wa_at : Int32} {Wa_turns : Int32} {Wa_changes : Int32} {A : Nat → Prop} {post : (Nat → Int64) → (Nat → Int64) → Int32 → Prop} {x1 : Int32} (hw : wp_X3_prepare post Pt_lessers Pt_greaters Pt_size Lc_kept Lc_keptFrom Lc_candidates x1) : Met l yX3_prepare (Cond.code yX3_prepare cX3_prepare 7 none :: wsL_law) (rmH 2) (va_Pc [.ref (q 8), .int x1, .ref (q 5)] (fun U => va_P D vwCl (wC q cA Fc_unkept Fc_tablesRead Pg_letters Pg_size Pg_fault Pg_rows Pg_inRow Pg_width Fl_entries Fl_states Fl_columns Fl_moves Fl_stables Fl_amiss Fl_normal Pt_lessers Pt_greaters Pt_size Lc_signals Lc_kept Lc_keptFrom Lc_candidates Lc_size Sc_signals Sc_codes Sc_size Ai_codes Ai_bits Cu_seen Cu_inThrees Cu_all Lo_asked Lo_ones Lo_sum Lo_wideSize Lo_sumSize Lo_flickers Lo_ready Wa_at Wa_turns Wa_changes) U.heap ∧ va_K D vwCl (tyC cA) U ∧ nwC U ∧ va_D A (wC q cA Fc_unkept Fc_tablesRead Pg_letters Pg_size Pg_fault Pg_rows Pg_inRow Pg_width Fl_entries Fl_states Fl_columns Fl_moves Fl_stables Fl_amiss Fl_normal Pt_lessers Pt_greaters Pt_size Lc_signals Lc_kept Lc_keptFrom Lc_candidates Lc_size Sc_signals Sc_codes Sc_size Ai_codes Ai_bits Cu_seen Cu_inThrees Cu_all Lo_asked Lo_ones Lo_sum Lo_wideSize Lo_sumSize Lo_flickers Lo_ready Wa_at Wa_turns Wa_changes))) (qWv (Z_X3_prepare D q cA Fc_unkept Fc_tablesRead Pg_letters Pg_size Pg_fault Pg_rows Pg_inRow Pg_width Fl_entries Fl_states Fl_columns Fl_moves Fl_stables Fl_amiss Fl_normal Pt_lessers Pt_greaters Pt_size Lc_signals Lc_size Sc_signals Sc_codes Sc_size Ai_codes Ai_bits Cu_seen Cu_inThrees Cu_all Lo_asked Lo_ones Lo_sum Lo_wideSize Lo_sumSize Lo_flickers Lo_ready Wa_at Wa_turns Wa_changes post) A) 0 0 A := by
  refine Met.ofW (cc := cX3_prepare) (maxL := 7) (ret := none) (by decide) rfl ?_
  intro p e s m args below meth c s₁ B hml hv
  obtain ⟨rfl, hP, hK, hN, hD⟩ := hv
  have X : kC p (headSpec (Cond.code yX3_prepare cX3_prepare 7 none :: wsL_law) (rmH 2)).room s m _ meth c cX3_prepare RX3 7 none 2 := ⟨B.exec, B.bytes, hml, findClass_of_methodNamed B.named, fun w h => atoms_spec (ws := Cond.code yX3_prepare cX3_prepare 7 none :: wsL_law) B.pre w (List.mem_cons_of_mem _ h), B.returns, B.notSynchronized, Nat.le_refl _, Nat.le_refl _⟩
  obtain ⟨hx, hb, hml, hown, hts, hr, hlocks, hRf, hRl⟩ := id X
  have hS : va_S A s.heap s.heap [] := va_S.rf
  have hl := lv_entry ([.ref (q 8), .int x1, .ref (q 5)]) (n := 7) (Nat.le_of_ble_eq_true rfl)
  rw [lg_entry_eq]
  generalize (lg_sl ([.ref (q 8), .int x1, .ref (q 5)]) ++ List.replicate (7 - (lg_sl ([.ref (q 8), .int x1, .ref (q 5)])).length) Slot.unset).toArray = ls at hl ⊢
  have hl : lv_has ls 7 [(0, .ref (q 8)), (1, .int x1), (2, .ref (q 5))] := hl
  refine lv_aload_n hx hb dX3_prepare_0 rfl (lv_at hl 0 rfl) ?_
  refine lv_iload_n hx hb dX3_prepare_1 rfl (lv_at hl 1 rfl) ?_
  refine lv_iconst (v := (2 : Int32)) hx hb dX3_prepare_2 (by decide) ?_
  refine lv_icmp_lt (tgt := 20) hx hb dX3_prepare_3 (by decide) (fun c_1 => ?_) (fun c_1 => ?_)
  · have hw := hw.1 c_1
    refine lv_iconst (v := (0 : Int32)) hx hb dX3_prepare_20 (by decide) ?_
    exact t_X3_prepare_21 X hK hN hw ls _ _ (lv_sub hl [0, 2] rfl) hP hD hS
  · have hw := hw.2 c_1
    refine lv_iload_n hx hb dX3_prepare_6 rfl (lv_at hl 1 rfl) ?_
    refine lv_bipush (v := (6 : Int32)) hx hb dX3_prepare_7 (by decide +kernel) ?_
    refine lv_icmp_gt (tgt := 20) hx hb dX3_prepare_9 (by decide) (fun c_17 => ?_) (fun c_17 => ?_)
    · have hw := hw.1 c_17
      refine lv_iconst (v := (0 : Int32)) hx hb dX3_prepare_20 (by decide) ?_
      exact t_X3_prepare_21 X hK hN hw ls _ _ (lv_sub hl [0, 2] rfl) hP hD hS
    · have hw := hw.2 c_17
      refine lv_iconst (v := (1 : Int32)) hx hb dX3_prepare_12 (by decide) ?_
      refine lv_iload_n hx hb dX3_prepare_13 rfl (lv_at hl 1 rfl) ?_
      refine lv_iconst (v := (1 : Int32)) hx hb dX3_prepare_14 (by decide) ?_
      refine lv_isub hx hb dX3_prepare_15 ?_
      refine lv_ishl hx hb dX3_prepare_16 ?_
      refine lv_goto (tgt := 21) hx hb dX3_prepare_17 (by decide) ?_
      exact t_X3_prepare_21 X hK hN hw ls _ _ (lv_sub hl [0, 2] rfl) hP hD hS
abbrev Z_X3_fill (D : va_G) (q : Nat → Nat) (cA : Nat → ClassId) (Fc_unkept : Int32) (Fc_tablesRead : Int32) (Pg_letters : Nat → Int32) (Pg_size : Int32) (Pg_fault : Int32) (Pg_rows : Int32) (Pg_inRow : Int32) (Pg_width : Int32) (Fl_entries : Nat → Int32) (Fl_states : Int32) (Fl_columns : Int32) (Fl_moves : Int32) (Fl_stables : Int32) (Fl_amiss : Int32) (Fl_normal : Int32) (Pt_lessers : Nat → Int32) (Pt_greaters : Nat → Int32) (Pt_size : Int32) (Lc_kept : Nat → Int64) (Lc_keptFrom : Nat → Int64) (Lc_candidates : Int32) (Lc_size : Int32) (Sc_signals : Nat → Int32) (Sc_codes : Nat → Int32) (Sc_size : Int32) (Ai_codes : Nat → Int32) (Ai_bits : Int32) (Cu_seen : Nat → Int32) (Cu_inThrees : Nat → Int32) (Cu_all : Int32) (Lo_asked : Nat → Nat → Int32) (Lo_ones : Nat → Nat → Int32) (Lo_sum : Nat → Nat → Int32) (Lo_wideSize : Nat → Int32) (Lo_sumSize : Nat → Int32) (Lo_flickers : Nat → Int32) (Lo_ready : Nat → Int32) (Wa_at : Int32) (Wa_turns : Int32) (Wa_changes : Int32) (post : Int32 → (Nat → Int32) → Prop) : Int32 → State → Prop := fun r t => ∃ (y_Lc_signals : Nat → Int32), post r y_Lc_signals ∧ va_P D vwCl (wC q cA Fc_unkept Fc_tablesRead Pg_letters Pg_size Pg_fault Pg_rows Pg_inRow Pg_width Fl_entries Fl_states Fl_columns Fl_moves Fl_stables Fl_amiss Fl_normal Pt_lessers Pt_greaters Pt_size y_Lc_signals Lc_kept Lc_keptFrom Lc_candidates Lc_size Sc_signals Sc_codes Sc_size Ai_codes Ai_bits Cu_seen Cu_inThrees Cu_all Lo_asked Lo_ones Lo_sum Lo_wideSize Lo_sumSize Lo_flickers Lo_ready Wa_at Wa_turns Wa_changes) t.heap
set_option maxHeartbeats 4000000 in
set_option maxRecDepth 100000 in
theorem t_X3_fill_117 {p : Program} {l : Launch} {e : Env} {R : Room} {s : State} {m : MethodId} {args : Array Value} {below : List Frame} {meth : Method} {c : Code} {A : Nat → Prop} {D : va_G} {q : Nat → Nat} {cA : Nat → ClassId} {Fc_unkept : Int32} {Fc_tablesRead : Int32} {Pg_letters : Nat → Int32} {Pg_size : Int32} {Pg_fault : Int32} {Pg_rows : Int32} {Pg_inRow : Int32} {Pg_width : Int32} {Fl_entries : Nat → Int32} {Fl_states : Int32} {Fl_columns : Int32} {Fl_moves : Int32} {Fl_stables : Int32} {Fl_amiss : Int32} {Fl_normal : Int32} {Pt_lessers : Nat → Int32} {Pt_greaters : Nat → Int32} {Pt_size : Int32} {Lc_signals : Nat → Int32} {Lc_kept : Nat → Int64} {Lc_keptFrom : Nat → Int64} {Lc_candidates : Int32} {Lc_size : Int32} {Sc_signals : Nat → Int32} {Sc_codes : Nat → Int32} {Sc_size : Int32} {Ai_codes : Nat → Int32} {Ai_bits : Int32} {Cu_seen : Nat → Int32} {Cu_inThrees : Nat → Int32} {Cu_all : Int32} {Lo_asked : Nat → Nat → Int32} {Lo_ones : Nat → Nat → Int32} {Lo_sum : Nat → Nat → Int32} {Lo_wideSize : Nat → Int32} {Lo_sumSize : Nat → Int32} {Lo_flickers : Nat → Int32} {Lo_ready : Nat → Int32} {Wa_at : Int32} {Wa_turns : Int32} {Wa_changes : Int32} {dp : Nat} {F : (Int32 → (Nat → Int32) → Prop) → (Nat → Int32) → (Nat → Int64) → (Nat → Int64) → Int32 → Int32 → Int32 → Int32 → Int64 → Prop} {post : Int32 → (Nat → Int32) → Prop} {KL : Int32 → (Nat → Int32) → Prop} {x1 : Int32} {x2 : Int32} {x4 : Int64} {x6 : Int32} {x7 : Int32} {x8 : Int64} {v0 : Int32} (X : kC p R s m args meth c cX3_fill RX3 11 (some .boolean) (dp + 1)) (hK : va_K D vwCl (tyC cA) s) (hN : nwC s) (hF : ∀ (post : Int32 → (Nat → Int32) → Prop) (Lc_signals : Nat → Int32) (x1 x2 x3 : Int32) (x4 : Int64), F post Lc_signals Lc_kept Lc_keptFrom Lc_candidates x1 x2 x3 x4 → Met l yX3_fill (Cond.code yX3_fill cX3_fill 11 (some .boolean) :: wsL_law) (rmH dp) (va_Pc [.ref (q 8), .int x1, .int x2, .int x3, .long x4] (fun U => va_P D vwCl (wC q cA Fc_unkept Fc_tablesRead Pg_letters Pg_size Pg_fault Pg_rows Pg_inRow Pg_width Fl_entries Fl_states Fl_columns Fl_moves Fl_stables Fl_amiss Fl_normal Pt_lessers Pt_greaters Pt_size Lc_signals Lc_kept Lc_keptFrom Lc_candidates Lc_size Sc_signals Sc_codes Sc_size Ai_codes Ai_bits Cu_seen Cu_inThrees Cu_all Lo_asked Lo_ones Lo_sum Lo_wideSize Lo_sumSize Lo_flickers Lo_ready Wa_at Wa_turns Wa_changes) U.heap ∧ va_K D vwCl (tyC cA) U ∧ nwC U ∧ va_D A (wC q cA Fc_unkept Fc_tablesRead Pg_letters Pg_size Pg_fault Pg_rows Pg_inRow Pg_width Fl_entries Fl_states Fl_columns Fl_moves Fl_stables Fl_amiss Fl_normal Pt_lessers Pt_greaters Pt_size Lc_signals Lc_kept Lc_keptFrom Lc_candidates Lc_size Sc_signals Sc_codes Sc_size Ai_codes Ai_bits Cu_seen Cu_inThrees Cu_all Lo_asked Lo_ones Lo_sum Lo_wideSize Lo_sumSize Lo_flickers Lo_ready Wa_at Wa_turns Wa_changes))) (qWi (Z_X3_fill D q cA Fc_unkept Fc_tablesRead Pg_letters Pg_size Pg_fault Pg_rows Pg_inRow Pg_width Fl_entries Fl_states Fl_columns Fl_moves Fl_stables Fl_amiss Fl_normal Pt_lessers Pt_greaters Pt_size Lc_kept Lc_keptFrom Lc_candidates Lc_size Sc_signals Sc_codes Sc_size Ai_codes Ai_bits Cu_seen Cu_inThrees Cu_all Lo_asked Lo_ones Lo_sum Lo_wideSize Lo_sumSize Lo_flickers Lo_ready Wa_at Wa_turns Wa_changes post) A) 0 0 A) (hL : ∀ (x7 : Int32) (Lc_signals : Nat → Int32), KL x7 Lc_signals → ∀ (ls : Array Slot) (H : Heap) (locs : List Loc), lv_has ls 11 [(0, .ref (q 8)), (1, .int x1), (2, .int x2), (4, .long x4), (6, .int x6), (7, .int x7)] → va_P D vwCl (wC q cA Fc_unkept Fc_tablesRead Pg_letters Pg_size Pg_fault Pg_rows Pg_inRow Pg_width Fl_entries Fl_states Fl_columns Fl_moves Fl_stables Fl_amiss Fl_normal Pt_lessers Pt_greaters Pt_size Lc_signals Lc_kept Lc_keptFrom Lc_candidates Lc_size Sc_signals Sc_codes Sc_size Ai_codes Ai_bits Cu_seen Cu_inThrees Cu_all Lo_asked Lo_ones Lo_sum Lo_wideSize Lo_sumSize Lo_flickers Lo_ready Wa_at Wa_turns Wa_changes) H → va_D A (wC q cA Fc_unkept Fc_tablesRead Pg_letters Pg_size Pg_fault Pg_rows Pg_inRow Pg_width Fl_entries Fl_states Fl_columns Fl_moves Fl_stables Fl_amiss Fl_normal Pt_lessers Pt_greaters Pt_size Lc_signals Lc_kept Lc_keptFrom Lc_candidates Lc_size Sc_signals Sc_codes Sc_size Ai_codes Ai_bits Cu_seen Cu_inThrees Cu_all Lo_asked Lo_ones Lo_sum Lo_wideSize Lo_sumSize Lo_flickers Lo_ready Wa_at Wa_turns Wa_changes) → va_S A s.heap H locs → W p l e R s m args below meth c H locs 0 0 (MQ below (qWi (Z_X3_fill D q cA Fc_unkept Fc_tablesRead Pg_letters Pg_size Pg_fault Pg_rows Pg_inRow Pg_width Fl_entries Fl_states Fl_columns Fl_moves Fl_stables Fl_amiss Fl_normal Pt_lessers Pt_greaters Pt_size Lc_kept Lc_keptFrom Lc_candidates Lc_size Sc_signals Sc_codes Sc_size Ai_codes Ai_bits Cu_seen Cu_inThrees Cu_all Lo_asked Lo_ones Lo_sum Lo_wideSize Lo_sumSize Lo_flickers Lo_ready Wa_at Wa_turns Wa_changes post) A) args s 0 0 A) (F0 m 40 ls [])) (hw : j_X3_fill_117 F post KL Lc_signals Lc_kept Lc_keptFrom Lc_candidates x1 x2 x7 x8 v0) (ls : Array Slot) (H : Heap) (locs : List Loc) (hl : lv_has ls 11 [(0, .ref (q 8)), (1, .int x1), (2, .int x2), (4, .long x4), (6, .int x6), (7, .int x7), (8, .long x8)]) (hP : va_P D vwCl (wC q cA Fc_unkept Fc_tablesRead Pg_letters Pg_size Pg_fault Pg_rows Pg_inRow Pg_width Fl_entries Fl_states Fl_columns Fl_moves Fl_stables Fl_amiss Fl_normal Pt_lessers Pt_greaters Pt_size Lc_signals Lc_kept Lc_keptFrom Lc_candidates Lc_size Sc_signals Sc_codes Sc_size Ai_codes Ai_bits Cu_seen Cu_inThrees Cu_all Lo_asked Lo_ones Lo_sum Lo_wideSize Lo_sumSize Lo_flickers Lo_ready Wa_at Wa_turns Wa_changes) H) (hD : va_D A (wC q cA Fc_unkept Fc_tablesRead Pg_letters Pg_size Pg_fault Pg_rows Pg_inRow Pg_width Fl_entries Fl_states Fl_columns Fl_moves Fl_stables Fl_amiss Fl_normal Pt_lessers Pt_greaters Pt_size Lc_signals Lc_kept Lc_keptFrom Lc_candidates Lc_size Sc_signals Sc_codes Sc_size Ai_codes Ai_bits Cu_seen Cu_inThrees Cu_all Lo_asked Lo_ones Lo_sum Lo_wideSize Lo_sumSize Lo_flickers Lo_ready Wa_at Wa_turns Wa_changes)) (hS : va_S A s.heap H locs) : W p l e R s m args below meth c H locs 0 0 (MQ below (qWi (Z_X3_fill D q cA Fc_unkept Fc_tablesRead Pg_letters Pg_size Pg_fault Pg_rows Pg_inRow Pg_width Fl_entries Fl_states Fl_columns Fl_moves Fl_stables Fl_amiss Fl_normal Pt_lessers Pt_greaters Pt_size Lc_kept Lc_keptFrom Lc_candidates Lc_size Sc_signals Sc_codes Sc_size Ai_codes Ai_bits Cu_seen Cu_inThrees Cu_all Lo_asked Lo_ones Lo_sum Lo_wideSize Lo_sumSize Lo_flickers Lo_ready Wa_at Wa_turns Wa_changes post) A) args s 0 0 A) (F0 m 117 ls [.int v0]) := by
  obtain ⟨hx, hb, hml, hown, hts, hr, hlocks, hRf, hRl⟩ := id X
  refine lv_istore (lv' := [(10, .int v0), (0, .ref (q 8)), (1, .int x1), (2, .int x2), (4, .long x4), (6, .int x6), (7, .int x7), (8, .long x8)]) hx hb dX3_fill_117 hl (by decide) rfl (fun ls hl => ?_)
  refine lv_iload hx hb dX3_fill_119 (lv_at hl 0 rfl) ?_
  refine lv_if_eq (tgt := 153) hx hb dX3_fill_121 (by decide) (fun c_12 => ?_) (fun c_12 => ?_)
  · have hw := hw.1 c_12
    obtain ⟨x7_13, e_13⟩ : ∃ z : Int32, z = x7 + (1 : Int32) := ⟨_, rfl⟩
    have hw := hw x7_13 e_13
    refine lv_iinc (v := x7_13) (lv' := [(7, .int x7_13), (10, .int v0), (0, .ref (q 8)), (1, .int x1), (2, .int x2), (4, .long x4), (6, .int x6), (8, .long x8)]) hx hb dX3_fill_153 hl (k := 6) rfl (by rw [e_13]; rfl) (by decide) rfl (fun ls hl => ?_)
    refine lv_goto (tgt := 40) hx hb dX3_fill_156 (by decide) ?_
    exact hL _ _ hw ls _ _ (lv_sub hl [2, 3, 4, 5, 6, 0] rfl) hP hD hS
  · have hw := hw.2 c_12
    refine lv_aload_n hx hb dX3_fill_124 rfl (lv_at hl 1 rfl) ?_
    refine lv_iload_n hx hb dX3_fill_125 rfl (lv_at hl 2 rfl) ?_
    refine lv_iconst (v := (1 : Int32)) hx hb dX3_fill_126 (by decide) ?_
    refine lv_iadd hx hb dX3_fill_127 ?_
    refine lv_iload_n hx hb dX3_fill_128 rfl (lv_at hl 3 rfl) ?_
    refine lv_iload hx hb dX3_fill_129 (lv_at hl 6 rfl) ?_
    refine lv_iconst (v := (1 : Int32)) hx hb dX3_fill_131 (by decide) ?_
    refine lv_iadd hx hb dX3_fill_132 ?_
    refine lv_lload hx hb dX3_fill_133 (lv_at hl 7 rfl) ?_
    refine wr_i (va_runV (As := [.int (x1 + (1 : Int32)), .int x2, .int (x7 + (1 : Int32)), .long x8]) (rest := []) ⟨hx, hb, hml, hown, hts⟩ (hF _ _ _ _ _ _ hw) (kRX3_30 (h := dp) hts (by omega) (by omega)) (preX3w hK hN hP hD) rfl rfl hl.1 rfl (lv_room (Nat.le_of_ble_eq_true rfl)) dX3_fill_135 ⟨Nat.zero_le _, Nat.zero_le _⟩) hS (fun r_14 t H locs ht hw hS => ?_)
    obtain ⟨ysignals_14, hw, hP⟩ := hw
    rw [ht] at hP
    have hP : va_P D vwCl (wC q cA Fc_unkept Fc_tablesRead Pg_letters Pg_size Pg_fault Pg_rows Pg_inRow Pg_width Fl_entries Fl_states Fl_columns Fl_moves Fl_stables Fl_amiss Fl_normal Pt_lessers Pt_greaters Pt_size ysignals_14 Lc_kept Lc_keptFrom Lc_candidates Lc_size Sc_signals Sc_codes Sc_size Ai_codes Ai_bits Cu_seen Cu_inThrees Cu_all Lo_asked Lo_ones Lo_sum Lo_wideSize Lo_sumSize Lo_flickers Lo_ready Wa_at Wa_turns Wa_changes) H := hP
    have hD : va_D A (wC q cA Fc_unkept Fc_tablesRead Pg_letters Pg_size Pg_fault Pg_rows Pg_inRow Pg_width Fl_entries Fl_states Fl_columns Fl_moves Fl_stables Fl_amiss Fl_normal Pt_lessers Pt_greaters Pt_size ysignals_14 Lc_kept Lc_keptFrom Lc_candidates Lc_size Sc_signals Sc_codes Sc_size Ai_codes Ai_bits Cu_seen Cu_inThrees Cu_all Lo_asked Lo_ones Lo_sum Lo_wideSize Lo_sumSize Lo_flickers Lo_ready Wa_at Wa_turns Wa_changes) := dC hD
    refine lv_if_eq (tgt := 153) hx hb dX3_fill_138 (by decide) (fun c_15 => ?_) (fun c_15 => ?_)
    · have hw := hw.1 c_15
      obtain ⟨x7_16, e_16⟩ : ∃ z : Int32, z = x7 + (1 : Int32) := ⟨_, rfl⟩
      have hw := hw x7_16 e_16
      refine lv_iinc (v := x7_16) (lv' := [(7, .int x7_16), (10, .int v0), (0, .ref (q 8)), (1, .int x1), (2, .int x2), (4, .long x4), (6, .int x6), (8, .long x8)]) hx hb dX3_fill_153 hl (k := 6) rfl (by rw [e_16]; rfl) (by decide) rfl (fun ls hl => ?_)
      refine lv_goto (tgt := 40) hx hb dX3_fill_156 (by decide) ?_
      exact hL _ _ hw ls _ _ (lv_sub hl [2, 3, 4, 5, 6, 0] rfl) hP hD hS
    · have hw := hw.2 c_15
      refine lv_aload_n hx hb dX3_fill_141 rfl (lv_at hl 1 rfl) ?_
      refine gRX3_9 hx hb hown hts hK hP dX3_fill_142 ?_
      refine lv_iload_n hx hb dX3_fill_145 rfl (lv_at hl 2 rfl) ?_
      refine lv_iconst (v := (2 : Int32)) hx hb dX3_fill_146 (by decide) ?_
      refine lv_iload hx hb dX3_fill_147 (lv_at hl 6 rfl) ?_
      refine lv_imul hx hb dX3_fill_149 ?_
      have h_17 := hw.1
      have hw := hw.2
      refine st_Lc_signals hx hb hK hP hD hS h_17 dX3_fill_150 (fun H locs a_17 e_17 hP hD hS => ?_)
      have hw := hw a_17 e_17
      refine lv_iconst (v := (1 : Int32)) hx hb dX3_fill_151 (by decide) ?_
      exact rw_z hx hb hr hlocks rfl (fun t ht => ⟨a_17, hw, by rw [ht]; exact hP⟩) hS dX3_fill_152
set_option maxHeartbeats 4000000 in
set_option maxRecDepth 100000 in
theorem t_X3_fill_40 {p : Program} {l : Launch} {e : Env} {R : Room} {s : State} {m : MethodId} {args : Array Value} {below : List Frame} {meth : Method} {c : Code} {A : Nat → Prop} {D : va_G} {q : Nat → Nat} {cA : Nat → ClassId} {Fc_unkept : Int32} {Fc_tablesRead : Int32} {Pg_letters : Nat → Int32} {Pg_size : Int32} {Pg_fault : Int32} {Pg_rows : Int32} {Pg_inRow : Int32} {Pg_width : Int32} {Fl_entries : Nat → Int32} {Fl_states : Int32} {Fl_columns : Int32} {Fl_moves : Int32} {Fl_stables : Int32} {Fl_amiss : Int32} {Fl_normal : Int32} {Pt_lessers : Nat → Int32} {Pt_greaters : Nat → Int32} {Pt_size : Int32} {Lc_kept : Nat → Int64} {Lc_keptFrom : Nat → Int64} {Lc_candidates : Int32} {Lc_size : Int32} {Sc_signals : Nat → Int32} {Sc_codes : Nat → Int32} {Sc_size : Int32} {Ai_codes : Nat → Int32} {Ai_bits : Int32} {Cu_seen : Nat → Int32} {Cu_inThrees : Nat → Int32} {Cu_all : Int32} {Lo_asked : Nat → Nat → Int32} {Lo_ones : Nat → Nat → Int32} {Lo_sum : Nat → Nat → Int32} {Lo_wideSize : Nat → Int32} {Lo_sumSize : Nat → Int32} {Lo_flickers : Nat → Int32} {Lo_ready : Nat → Int32} {Wa_at : Int32} {Wa_turns : Int32} {Wa_changes : Int32} {dp : Nat} {F : (Int32 → (Nat → Int32) → Prop) → (Nat → Int32) → (Nat → Int64) → (Nat → Int64) → Int32 → Int32 → Int32 → Int32 → Int64 → Prop} {post : Int32 → (Nat → Int32) → Prop} {KE : (Nat → Int32) → Prop} {x1 : Int32} {x2 : Int32} {x4 : Int64} {x6 : Int32} (X : kC p R s m args meth c cX3_fill RX3 11 (some .boolean) (dp + 1)) (hK : va_K D vwCl (tyC cA) s) (hN : nwC s) (hF : ∀ (post : Int32 → (Nat → Int32) → Prop) (Lc_signals : Nat → Int32) (x1 x2 x3 : Int32) (x4 : Int64), F post Lc_signals Lc_kept Lc_keptFrom Lc_candidates x1 x2 x3 x4 → Met l yX3_fill (Cond.code yX3_fill cX3_fill 11 (some .boolean) :: wsL_law) (rmH dp) (va_Pc [.ref (q 8), .int x1, .int x2, .int x3, .long x4] (fun U => va_P D vwCl (wC q cA Fc_unkept Fc_tablesRead Pg_letters Pg_size Pg_fault Pg_rows Pg_inRow Pg_width Fl_entries Fl_states Fl_columns Fl_moves Fl_stables Fl_amiss Fl_normal Pt_lessers Pt_greaters Pt_size Lc_signals Lc_kept Lc_keptFrom Lc_candidates Lc_size Sc_signals Sc_codes Sc_size Ai_codes Ai_bits Cu_seen Cu_inThrees Cu_all Lo_asked Lo_ones Lo_sum Lo_wideSize Lo_sumSize Lo_flickers Lo_ready Wa_at Wa_turns Wa_changes) U.heap ∧ va_K D vwCl (tyC cA) U ∧ nwC U ∧ va_D A (wC q cA Fc_unkept Fc_tablesRead Pg_letters Pg_size Pg_fault Pg_rows Pg_inRow Pg_width Fl_entries Fl_states Fl_columns Fl_moves Fl_stables Fl_amiss Fl_normal Pt_lessers Pt_greaters Pt_size Lc_signals Lc_kept Lc_keptFrom Lc_candidates Lc_size Sc_signals Sc_codes Sc_size Ai_codes Ai_bits Cu_seen Cu_inThrees Cu_all Lo_asked Lo_ones Lo_sum Lo_wideSize Lo_sumSize Lo_flickers Lo_ready Wa_at Wa_turns Wa_changes))) (qWi (Z_X3_fill D q cA Fc_unkept Fc_tablesRead Pg_letters Pg_size Pg_fault Pg_rows Pg_inRow Pg_width Fl_entries Fl_states Fl_columns Fl_moves Fl_stables Fl_amiss Fl_normal Pt_lessers Pt_greaters Pt_size Lc_kept Lc_keptFrom Lc_candidates Lc_size Sc_signals Sc_codes Sc_size Ai_codes Ai_bits Cu_seen Cu_inThrees Cu_all Lo_asked Lo_ones Lo_sum Lo_wideSize Lo_sumSize Lo_flickers Lo_ready Wa_at Wa_turns Wa_changes post) A) 0 0 A) (hE : ∀ (Lc_signals : Nat → Int32), KE Lc_signals → ∀ (ls : Array Slot) (H : Heap) (locs : List Loc), lv_has ls 11 [] → va_P D vwCl (wC q cA Fc_unkept Fc_tablesRead Pg_letters Pg_size Pg_fault Pg_rows Pg_inRow Pg_width Fl_entries Fl_states Fl_columns Fl_moves Fl_stables Fl_amiss Fl_normal Pt_lessers Pt_greaters Pt_size Lc_signals Lc_kept Lc_keptFrom Lc_candidates Lc_size Sc_signals Sc_codes Sc_size Ai_codes Ai_bits Cu_seen Cu_inThrees Cu_all Lo_asked Lo_ones Lo_sum Lo_wideSize Lo_sumSize Lo_flickers Lo_ready Wa_at Wa_turns Wa_changes) H → va_D A (wC q cA Fc_unkept Fc_tablesRead Pg_letters Pg_size Pg_fault Pg_rows Pg_inRow Pg_width Fl_entries Fl_states Fl_columns Fl_moves Fl_stables Fl_amiss Fl_normal Pt_lessers Pt_greaters Pt_size Lc_signals Lc_kept Lc_keptFrom Lc_candidates Lc_size Sc_signals Sc_codes Sc_size Ai_codes Ai_bits Cu_seen Cu_inThrees Cu_all Lo_asked Lo_ones Lo_sum Lo_wideSize Lo_sumSize Lo_flickers Lo_ready Wa_at Wa_turns Wa_changes) → va_S A s.heap H locs → W p l e R s m args below meth c H locs 0 0 (MQ below (qWi (Z_X3_fill D q cA Fc_unkept Fc_tablesRead Pg_letters Pg_size Pg_fault Pg_rows Pg_inRow Pg_width Fl_entries Fl_states Fl_columns Fl_moves Fl_stables Fl_amiss Fl_normal Pt_lessers Pt_greaters Pt_size Lc_kept Lc_keptFrom Lc_candidates Lc_size Sc_signals Sc_codes Sc_size Ai_codes Ai_bits Cu_seen Cu_inThrees Cu_all Lo_asked Lo_ones Lo_sum Lo_wideSize Lo_sumSize Lo_flickers Lo_ready Wa_at Wa_turns Wa_changes post) A) args s 0 0 A) (F0 m 159 ls [])) : ∀ (n : Nat) (x7 : Int32) (Lc_signals : Nat → Int32), w_X3_fill_40 F post KE Lc_kept Lc_keptFrom Lc_candidates x1 x2 x4 x6 n x7 Lc_signals → ∀ (ls : Array Slot) (H : Heap) (locs : List Loc), lv_has ls 11 [(0, .ref (q 8)), (1, .int x1), (2, .int x2), (4, .long x4), (6, .int x6), (7, .int x7)] → va_P D vwCl (wC q cA Fc_unkept Fc_tablesRead Pg_letters Pg_size Pg_fault Pg_rows Pg_inRow Pg_width Fl_entries Fl_states Fl_columns Fl_moves Fl_stables Fl_amiss Fl_normal Pt_lessers Pt_greaters Pt_size Lc_signals Lc_kept Lc_keptFrom Lc_candidates Lc_size Sc_signals Sc_codes Sc_size Ai_codes Ai_bits Cu_seen Cu_inThrees Cu_all Lo_asked Lo_ones Lo_sum Lo_wideSize Lo_sumSize Lo_flickers Lo_ready Wa_at Wa_turns Wa_changes) H → va_D A (wC q cA Fc_unkept Fc_tablesRead Pg_letters Pg_size Pg_fault Pg_rows Pg_inRow Pg_width Fl_entries Fl_states Fl_columns Fl_moves Fl_stables Fl_amiss Fl_normal Pt_lessers Pt_greaters Pt_size Lc_signals Lc_kept Lc_keptFrom Lc_candidates Lc_size Sc_signals Sc_codes Sc_size Ai_codes Ai_bits Cu_seen Cu_inThrees Cu_all Lo_asked Lo_ones Lo_sum Lo_wideSize Lo_sumSize Lo_flickers Lo_ready Wa_at Wa_turns Wa_changes) → va_S A s.heap H locs → W p l e R s m args below meth c H locs 0 0 (MQ below (qWi (Z_X3_fill D q cA Fc_unkept Fc_tablesRead Pg_letters Pg_size Pg_fault Pg_rows Pg_inRow Pg_width Fl_entries Fl_states Fl_columns Fl_moves Fl_stables Fl_amiss Fl_normal Pt_lessers Pt_greaters Pt_size Lc_kept Lc_keptFrom Lc_candidates Lc_size Sc_signals Sc_codes Sc_size Ai_codes Ai_bits Cu_seen Cu_inThrees Cu_all Lo_asked Lo_ones Lo_sum Lo_wideSize Lo_sumSize Lo_flickers Lo_ready Wa_at Wa_turns Wa_changes post) A) args s 0 0 A) (F0 m 40 ls []) := by
  obtain ⟨hx, hb, hml, hown, hts, hr, hlocks, hRf, hRl⟩ := id X
  intro n
  induction n with
  | zero => intro x7 Lc_signals hw; exact (show False from hw).elim
  | succ n ih =>
    intro x7 Lc_signals hw ls H locs hl hP hD hS
    refine lv_iload hx hb dX3_fill_40 (lv_at hl 5 rfl) ?_
    refine lv_aload_n hx hb dX3_fill_42 rfl (lv_at hl 0 rfl) ?_
    refine gRX3_34 hx hb hown hts hK hP dX3_fill_43 ?_
    refine lv_icmp_ge (tgt := 159) hx hb dX3_fill_46 (by decide) (fun c_5 => ?_) (fun c_5 => ?_)
    · have hw := hw.1 c_5
      exact hE _ hw ls _ _ (lv_sub hl [] rfl) hP hD hS
    · have hw := hw.2 c_5
      refine lv_lload hx hb dX3_fill_49 (lv_at hl 3 rfl) ?_
      refine lv_aload_n hx hb dX3_fill_51 rfl (lv_at hl 0 rfl) ?_
      refine gRX3_19 hx hb hown hts hK hP dX3_fill_52 ?_
      refine lv_iload hx hb dX3_fill_55 (lv_at hl 5 rfl) ?_
      have h_6 := hw.1
      have hw := hw.2
      refine ld_Lc_keptFrom hx hb hK hP h_6 dX3_fill_57 ?_
      refine lv_ldc2 (v := ((-1) : Int64)) hx hb hown (hts _ (inr14 _ (List.mem_of_getElem? (i := 1) rfl))) dX3_fill_58 ?_
      refine lv_lxor hx hb dX3_fill_61 ?_
      refine lv_land hx hb dX3_fill_62 ?_
      refine lv_lconst (v := (0 : Int64)) hx hb dX3_fill_63 (by decide) ?_
      refine W.lcmp hx hb dX3_fill_64 ?_
      refine lv_if_ne (tgt := 159) hx hb dX3_fill_65 (by decide) (fun c_7 => ?_) (fun c_7 => ?_)
      · have hw := hw.2 c_7
        exact hE _ hw ls _ _ (lv_sub hl [] rfl) hP hD hS
      · have hw := hw.1 c_7
        refine lv_lload hx hb dX3_fill_68 (lv_at hl 3 rfl) ?_
        refine lv_aload_n hx hb dX3_fill_70 rfl (lv_at hl 0 rfl) ?_
        refine gRX3_15 hx hb hown hts hK hP dX3_fill_71 ?_
        refine lv_iload hx hb dX3_fill_74 (lv_at hl 5 rfl) ?_
        have h_8 := hw.1
        have hw := hw.2
        refine ld_Lc_kept hx hb hK hP h_8 dX3_fill_76 ?_
        refine lv_ldc2 (v := ((-1) : Int64)) hx hb hown (hts _ (inr14 _ (List.mem_of_getElem? (i := 1) rfl))) dX3_fill_77 ?_
        refine lv_lxor hx hb dX3_fill_80 ?_
        refine lv_land hx hb dX3_fill_81 ?_
        refine lv_topl (fun x8_9 e_9 => ?_)
        have hw := hw x8_9 e_9
        refine lv_lstore (lv' := [(8, .long x8_9), (0, .ref (q 8)), (1, .int x1), (2, .int x2), (4, .long x4), (6, .int x6), (7, .int x7)]) hx hb dX3_fill_82 hl (by decide) rfl (fun ls hl => ?_)
        refine lv_iload hx hb dX3_fill_84 (lv_at hl 5 rfl) ?_
        refine lv_if_eq (tgt := 104) hx hb dX3_fill_86 (by decide) (fun c_10 => ?_) (fun c_10 => ?_)
        · have hw := hw.1 c_10
          refine lv_lload hx hb dX3_fill_104 (lv_at hl 0 rfl) ?_
          refine lv_lload hx hb dX3_fill_106 (lv_at hl 4 rfl) ?_
          refine W.lcmp hx hb dX3_fill_108 ?_
          refine lv_if_eq (tgt := 116) hx hb dX3_fill_109 (by decide) (fun c_11 => ?_) (fun c_11 => ?_)
          · have hw := hw.1 c_11
            refine lv_iconst (v := (0 : Int32)) hx hb dX3_fill_116 (by decide) ?_
            exact t_X3_fill_117 X hK hN hF ih hw ls _ _ (lv_sub hl [1, 2, 3, 4, 5, 6, 0] rfl) hP hD hS
          · have hw := hw.2 c_11
            refine lv_iconst (v := (1 : Int32)) hx hb dX3_fill_112 (by decide) ?_
            refine lv_goto (tgt := 117) hx hb dX3_fill_113 (by decide) ?_
            exact t_X3_fill_117 X hK hN hF ih hw ls _ _ (lv_sub hl [1, 2, 3, 4, 5, 6, 0] rfl) hP hD hS
        · have hw := hw.2 c_10
          refine lv_lload hx hb dX3_fill_89 (lv_at hl 0 rfl) ?_
          refine lv_lconst (v := (0 : Int64)) hx hb dX3_fill_91 (by decide) ?_
          refine W.lcmp hx hb dX3_fill_92 ?_
          refine lv_if_ne (tgt := 100) hx hb dX3_fill_93 (by decide) (fun c_18 => ?_) (fun c_18 => ?_)
          · have hw := hw.2 c_18
            refine lv_iconst (v := (0 : Int32)) hx hb dX3_fill_100 (by decide) ?_
            refine lv_goto (tgt := 117) hx hb dX3_fill_101 (by decide) ?_
            exact t_X3_fill_117 X hK hN hF ih hw ls _ _ (lv_sub hl [1, 2, 3, 4, 5, 6, 0] rfl) hP hD hS
          · have hw := hw.1 c_18
            refine lv_iconst (v := (1 : Int32)) hx hb dX3_fill_96 (by decide) ?_
            refine lv_goto (tgt := 117) hx hb dX3_fill_97 (by decide) ?_
            exact t_X3_fill_117 X hK hN hF ih hw ls _ _ (lv_sub hl [1, 2, 3, 4, 5, 6, 0] rfl) hP hD hS
set_option maxHeartbeats 4000000 in
set_option maxRecDepth 100000 in
theorem c_X3_fill (l : Launch) {D : va_G} {q : Nat → Nat} {cA : Nat → ClassId} {Fc_unkept : Int32} {Fc_tablesRead : Int32} {Pg_letters : Nat → Int32} {Pg_size : Int32} {Pg_fault : Int32} {Pg_rows : Int32} {Pg_inRow : Int32} {Pg_width : Int32} {Fl_entries : Nat → Int32} {Fl_states : Int32} {Fl_columns : Int32} {Fl_moves : Int32} {Fl_stables : Int32} {Fl_amiss : Int32} {Fl_normal : Int32} {Pt_lessers : Nat → Int32} {Pt_greaters : Nat → Int32} {Pt_size : Int32} {Lc_kept : Nat → Int64} {Lc_keptFrom : Nat → Int64} {Lc_candidates : Int32} {Lc_size : Int32} {Sc_signals : Nat → Int32} {Sc_codes : Nat → Int32} {Sc_size : Int32} {Ai_codes : Nat → Int32} {Ai_bits : Int32} {Cu_seen : Nat → Int32} {Cu_inThrees : Nat → Int32} {Cu_all : Int32} {Lo_asked : Nat → Nat → Int32} {Lo_ones : Nat → Nat → Int32} {Lo_sum : Nat → Nat → Int32} {Lo_wideSize : Nat → Int32} {Lo_sumSize : Nat → Int32} {Lo_flickers : Nat → Int32} {Lo_ready : Nat → Int32} {Wa_at : Int32} {Wa_turns : Int32} {Wa_changes : Int32} {A : Nat → Prop} : ∀ (d : Nat) {post : Int32 → (Nat → Int32) → Prop} {Lc_signals : Nat → Int32} {x1 x2 x3 : Int32} {x4 : Int64}, wp_X3_fill d post Lc_signals Lc_kept Lc_keptFrom Lc_candidates x1 x2 x3 x4 → Met l yX3_fill (Cond.code yX3_fill cX3_fill 11 (some .boolean) :: wsL_law) (rmH d) (va_Pc [.ref (q 8), .int x1, .int x2, .int x3, .long x4] (fun U => va_P D vwCl (wC q cA Fc_unkept Fc_tablesRead Pg_letters Pg_size Pg_fault Pg_rows Pg_inRow Pg_width Fl_entries Fl_states Fl_columns Fl_moves Fl_stables Fl_amiss Fl_normal Pt_lessers Pt_greaters Pt_size Lc_signals Lc_kept Lc_keptFrom Lc_candidates Lc_size Sc_signals Sc_codes Sc_size Ai_codes Ai_bits Cu_seen Cu_inThrees Cu_all Lo_asked Lo_ones Lo_sum Lo_wideSize Lo_sumSize Lo_flickers Lo_ready Wa_at Wa_turns Wa_changes) U.heap ∧ va_K D vwCl (tyC cA) U ∧ nwC U ∧ va_D A (wC q cA Fc_unkept Fc_tablesRead Pg_letters Pg_size Pg_fault Pg_rows Pg_inRow Pg_width Fl_entries Fl_states Fl_columns Fl_moves Fl_stables Fl_amiss Fl_normal Pt_lessers Pt_greaters Pt_size Lc_signals Lc_kept Lc_keptFrom Lc_candidates Lc_size Sc_signals Sc_codes Sc_size Ai_codes Ai_bits Cu_seen Cu_inThrees Cu_all Lo_asked Lo_ones Lo_sum Lo_wideSize Lo_sumSize Lo_flickers Lo_ready Wa_at Wa_turns Wa_changes))) (qWi (Z_X3_fill D q cA Fc_unkept Fc_tablesRead Pg_letters Pg_size Pg_fault Pg_rows Pg_inRow Pg_width Fl_entries Fl_states Fl_columns Fl_moves Fl_stables Fl_amiss Fl_normal Pt_lessers Pt_greaters Pt_size Lc_kept Lc_keptFrom Lc_candidates Lc_size Sc_signals Sc_codes Sc_size Ai_codes Ai_bits Cu_seen Cu_inThrees Cu_all Lo_asked Lo_ones Lo_sum Lo_wideSize Lo_sumSize Lo_flickers Lo_ready Wa_at Wa_turns Wa_changes post) A) 0 0 A := by
  intro d
  induction d with
  | zero => intro post Lc_signals x1 x2 x3 x4 hw; exact (show False from hw).elim
  | succ dp ih =>
    intro post Lc_signals x1 x2 x3 x4 hw
    have hF : ∀ (post : Int32 → (Nat → Int32) → Prop) (Lc_signals : Nat → Int32) (x1 x2 x3 : Int32) (x4 : Int64), wp_X3_fill dp post Lc_signals Lc_kept Lc_keptFrom Lc_candidates x1 x2 x3 x4 → Met l yX3_fill (Cond.code yX3_fill cX3_fill 11 (some .boolean) :: wsL_law) (rmH dp) (va_Pc [.ref (q 8), .int x1, .int x2, .int x3, .long x4] (fun U => va_P D vwCl (wC q cA Fc_unkept Fc_tablesRead Pg_letters Pg_size Pg_fault Pg_rows Pg_inRow Pg_width Fl_entries Fl_states Fl_columns Fl_moves Fl_stables Fl_amiss Fl_normal Pt_lessers Pt_greaters Pt_size Lc_signals Lc_kept Lc_keptFrom Lc_candidates Lc_size Sc_signals Sc_codes Sc_size Ai_codes Ai_bits Cu_seen Cu_inThrees Cu_all Lo_asked Lo_ones Lo_sum Lo_wideSize Lo_sumSize Lo_flickers Lo_ready Wa_at Wa_turns Wa_changes) U.heap ∧ va_K D vwCl (tyC cA) U ∧ nwC U ∧ va_D A (wC q cA Fc_unkept Fc_tablesRead Pg_letters Pg_size Pg_fault Pg_rows Pg_inRow Pg_width Fl_entries Fl_states Fl_columns Fl_moves Fl_stables Fl_amiss Fl_normal Pt_lessers Pt_greaters Pt_size Lc_signals Lc_kept Lc_keptFrom Lc_candidates Lc_size Sc_signals Sc_codes Sc_size Ai_codes Ai_bits Cu_seen Cu_inThrees Cu_all Lo_asked Lo_ones Lo_sum Lo_wideSize Lo_sumSize Lo_flickers Lo_ready Wa_at Wa_turns Wa_changes))) (qWi (Z_X3_fill D q cA Fc_unkept Fc_tablesRead Pg_letters Pg_size Pg_fault Pg_rows Pg_inRow Pg_width Fl_entries Fl_states Fl_columns Fl_moves Fl_stables Fl_amiss Fl_normal Pt_lessers Pt_greaters Pt_size Lc_kept Lc_keptFrom Lc_candidates Lc_size Sc_signals Sc_codes Sc_size Ai_codes Ai_bits Cu_seen Cu_inThrees Cu_all Lo_asked Lo_ones Lo_sum Lo_wideSize Lo_sumSize Lo_flickers Lo_ready Wa_at Wa_turns Wa_changes post) A) 0 0 A := fun _ _ _ _ _ _ h => ih h
    refine Met.ofW (cc := cX3_fill) (maxL := 11) (ret := (some .boolean)) (by decide) rfl ?_
    intro p e s m args below meth c s₁ B hml hv
    obtain ⟨rfl, hP, hK, hN, hD⟩ := hv
    have X : kC p (headSpec (Cond.code yX3_fill cX3_fill 11 (some .boolean) :: wsL_law) (rmH (dp + 1))).room s m _ meth c cX3_fill RX3 11 (some .boolean) (dp + 1) := ⟨B.exec, B.bytes, hml, findClass_of_methodNamed B.named, fun w h => atoms_spec (ws := Cond.code yX3_fill cX3_fill 11 (some .boolean) :: wsL_law) B.pre w (List.mem_cons_of_mem _ h), B.returns, B.notSynchronized, Nat.le_refl _, Nat.le_refl _⟩
    obtain ⟨hx, hb, hml, hown, hts, hr, hlocks, hRf, hRl⟩ := id X
    have hS : va_S A s.heap s.heap [] := va_S.rf
    have hl := lv_entry ([.ref (q 8), .int x1, .int x2, .int x3, .long x4]) (n := 11) (Nat.le_of_ble_eq_true rfl)
    rw [lg_entry_eq]
    generalize (lg_sl ([.ref (q 8), .int x1, .int x2, .int x3, .long x4]) ++ List.replicate (11 - (lg_sl ([.ref (q 8), .int x1, .int x2, .int x3, .long x4])).length) Slot.unset).toArray = ls at hl ⊢
    have hl : lv_has ls 11 [(0, .ref (q 8)), (1, .int x1), (2, .int x2), (3, .int x3), (4, .long x4)] := hl
    refine lv_iload_n hx hb dX3_fill_0 rfl (lv_at hl 1 rfl) ?_
    refine lv_iload_n hx hb dX3_fill_1 rfl (lv_at hl 2 rfl) ?_
    refine lv_icmp_ge (tgt := 10) hx hb dX3_fill_2 (by decide) (fun c_1 => ?_) (fun c_1 => ?_)
    · have hw := hw.1 c_1
      refine lv_lload hx hb dX3_fill_10 (lv_at hl 4 rfl) ?_
      refine lv_lconst (v := (0 : Int64)) hx hb dX3_fill_12 (by decide) ?_
      refine W.lcmp hx hb dX3_fill_13 ?_
      refine lv_if_ne (tgt := 21) hx hb dX3_fill_14 (by decide) (fun c_2 => ?_) (fun c_2 => ?_)
      · have hw := hw.2 c_2
        refine lv_iconst (v := (0 : Int32)) hx hb dX3_fill_21 (by decide) ?_
        exact rw_z hx hb hr hlocks rfl (fun t ht => ⟨Lc_signals, hw, by rw [ht]; exact hP⟩) hS dX3_fill_22
      · have hw := hw.1 c_2
        refine lv_iconst (v := (1 : Int32)) hx hb dX3_fill_17 (by decide) ?_
        refine lv_goto (tgt := 22) hx hb dX3_fill_18 (by decide) ?_
        exact rw_z hx hb hr hlocks rfl (fun t ht => ⟨Lc_signals, hw, by rw [ht]; exact hP⟩) hS dX3_fill_22
    · have hw := hw.2 c_1
      refine lv_iload_n hx hb dX3_fill_5 rfl (lv_at hl 1 rfl) ?_
      refine lv_iconst (v := (5 : Int32)) hx hb dX3_fill_6 (by decide) ?_
      refine lv_icmp_lt (tgt := 23) hx hb dX3_fill_7 (by decide) (fun c_3 => ?_) (fun c_3 => ?_)
      · have hw := hw.1 c_3
        refine lv_iload_n hx hb dX3_fill_23 rfl (lv_at hl 1 rfl) ?_
        refine lv_iload_n hx hb dX3_fill_24 rfl (lv_at hl 2 rfl) ?_
        refine lv_iconst (v := (1 : Int32)) hx hb dX3_fill_25 (by decide) ?_
        refine lv_isub hx hb dX3_fill_26 ?_
        refine lv_icmp_ne (tgt := 34) hx hb dX3_fill_27 (by decide) (fun c_4 => ?_) (fun c_4 => ?_)
        · have hw := hw.2 c_4
          refine lv_iconst (v := (0 : Int32)) hx hb dX3_fill_34 (by decide) ?_
          refine lv_istore (lv' := [(6, .int (0 : Int32)), (0, .ref (q 8)), (1, .int x1), (2, .int x2), (3, .int x3), (4, .long x4)]) hx hb dX3_fill_35 hl (by decide) rfl (fun ls hl => ?_)
          refine lv_iload_n hx hb dX3_fill_37 rfl (lv_at hl 4 rfl) ?_
          refine lv_istore (lv' := [(7, .int x3), (6, .int (0 : Int32)), (0, .ref (q 8)), (1, .int x1), (2, .int x2), (3, .int x3), (4, .long x4)]) hx hb dX3_fill_38 hl (by decide) rfl (fun ls hl => ?_)
          obtain ⟨n_19, hw⟩ := hw
          refine t_X3_fill_40 X hK hN hF (fun ysignals_19 hw ls H locs hl hP hD hS => ?_) n_19 _ _ hw ls _ _ (lv_sub hl [2, 3, 4, 6, 1, 0] rfl) hP hD hS
          refine lv_iconst (v := (0 : Int32)) hx hb dX3_fill_159 (by decide) ?_
          exact rw_z hx hb hr hlocks rfl (fun t ht => ⟨ysignals_19, hw, by rw [ht]; exact hP⟩) hS dX3_fill_160
        · have hw := hw.1 c_4
          refine lv_iconst (v := (1 : Int32)) hx hb dX3_fill_30 (by decide) ?_
          refine lv_goto (tgt := 35) hx hb dX3_fill_31 (by decide) ?_
          refine lv_istore (lv' := [(6, .int (1 : Int32)), (0, .ref (q 8)), (1, .int x1), (2, .int x2), (3, .int x3), (4, .long x4)]) hx hb dX3_fill_35 hl (by decide) rfl (fun ls hl => ?_)
          refine lv_iload_n hx hb dX3_fill_37 rfl (lv_at hl 4 rfl) ?_
          refine lv_istore (lv' := [(7, .int x3), (6, .int (1 : Int32)), (0, .ref (q 8)), (1, .int x1), (2, .int x2), (3, .int x3), (4, .long x4)]) hx hb dX3_fill_38 hl (by decide) rfl (fun ls hl => ?_)
          obtain ⟨n_20, hw⟩ := hw
          refine t_X3_fill_40 X hK hN hF (fun ysignals_20 hw ls H locs hl hP hD hS => ?_) n_20 _ _ hw ls _ _ (lv_sub hl [2, 3, 4, 6, 1, 0] rfl) hP hD hS
          refine lv_iconst (v := (0 : Int32)) hx hb dX3_fill_159 (by decide) ?_
          exact rw_z hx hb hr hlocks rfl (fun t ht => ⟨ysignals_20, hw, by rw [ht]; exact hP⟩) hS dX3_fill_160
      · have hw := hw.2 c_3
        refine lv_lload hx hb dX3_fill_10 (lv_at hl 4 rfl) ?_
        refine lv_lconst (v := (0 : Int64)) hx hb dX3_fill_12 (by decide) ?_
        refine W.lcmp hx hb dX3_fill_13 ?_
        refine lv_if_ne (tgt := 21) hx hb dX3_fill_14 (by decide) (fun c_21 => ?_) (fun c_21 => ?_)
        · have hw := hw.2 c_21
          refine lv_iconst (v := (0 : Int32)) hx hb dX3_fill_21 (by decide) ?_
          exact rw_z hx hb hr hlocks rfl (fun t ht => ⟨Lc_signals, hw, by rw [ht]; exact hP⟩) hS dX3_fill_22
        · have hw := hw.1 c_21
          refine lv_iconst (v := (1 : Int32)) hx hb dX3_fill_17 (by decide) ?_
          refine lv_goto (tgt := 22) hx hb dX3_fill_18 (by decide) ?_
          exact rw_z hx hb hr hlocks rfl (fun t ht => ⟨Lc_signals, hw, by rw [ht]; exact hP⟩) hS dX3_fill_22
abbrev Z_X3_find (D : va_G) (q : Nat → Nat) (cA : Nat → ClassId) (Fc_unkept : Int32) (Fc_tablesRead : Int32) (Pg_letters : Nat → Int32) (Pg_size : Int32) (Pg_fault : Int32) (Pg_rows : Int32) (Pg_inRow : Int32) (Pg_width : Int32) (Fl_entries : Nat → Int32) (Fl_states : Int32) (Fl_columns : Int32) (Fl_moves : Int32) (Fl_stables : Int32) (Fl_amiss : Int32) (Fl_normal : Int32) (Pt_lessers : Nat → Int32) (Pt_greaters : Nat → Int32) (Pt_size : Int32) (Sc_signals : Nat → Int32) (Sc_codes : Nat → Int32) (Sc_size : Int32) (Ai_codes : Nat → Int32) (Ai_bits : Int32) (Cu_seen : Nat → Int32) (Cu_inThrees : Nat → Int32) (Cu_all : Int32) (Lo_asked : Nat → Nat → Int32) (Lo_ones : Nat → Nat → Int32) (Lo_sum : Nat → Nat → Int32) (Lo_wideSize : Nat → Int32) (Lo_sumSize : Nat → Int32) (Lo_flickers : Nat → Int32) (Lo_ready : Nat → Int32) (Wa_at : Int32) (Wa_turns : Int32) (Wa_changes : Int32) (post : (Nat → Int32) → (Nat → Int64) → (Nat → Int64) → Int32 → Int32 → Prop) : State → Prop := fun t => ∃ (y_Lc_signals : Nat → Int32) (y_Lc_kept : Nat → Int64) (y_Lc_keptFrom : Nat → Int64) (y_Lc_candidates : Int32) (y_Lc_size : Int32), post y_Lc_signals y_Lc_kept y_Lc_keptFrom y_Lc_candidates y_Lc_size ∧ va_P D vwCl (wC q cA Fc_unkept Fc_tablesRead Pg_letters Pg_size Pg_fault Pg_rows Pg_inRow Pg_width Fl_entries Fl_states Fl_columns Fl_moves Fl_stables Fl_amiss Fl_normal Pt_lessers Pt_greaters Pt_size y_Lc_signals y_Lc_kept y_Lc_keptFrom y_Lc_candidates y_Lc_size Sc_signals Sc_codes Sc_size Ai_codes Ai_bits Cu_seen Cu_inThrees Cu_all Lo_asked Lo_ones Lo_sum Lo_wideSize Lo_sumSize Lo_flickers Lo_ready Wa_at Wa_turns Wa_changes) t.heap
set_option maxHeartbeats 4000000 in
set_option maxRecDepth 100000 in
theorem t_X3_find_21 {p : Program} {l : Launch} {e : Env} {R : Room} {s : State} {m : MethodId} {args : Array Value} {below : List Frame} {meth : Method} {c : Code} {A : Nat → Prop} {D : va_G} {q : Nat → Nat} {cA : Nat → ClassId} {Fc_unkept : Int32} {Fc_tablesRead : Int32} {Pg_letters : Nat → Int32} {Pg_size : Int32} {Pg_fault : Int32} {Pg_rows : Int32} {Pg_inRow : Int32} {Pg_width : Int32} {Fl_entries : Nat → Int32} {Fl_states : Int32} {Fl_columns : Int32} {Fl_moves : Int32} {Fl_stables : Int32} {Fl_amiss : Int32} {Fl_normal : Int32} {Pt_lessers : Nat → Int32} {Pt_greaters : Nat → Int32} {Pt_size : Int32} {Lc_kept : Nat → Int64} {Lc_keptFrom : Nat → Int64} {Lc_candidates : Int32} {Sc_signals : Nat → Int32} {Sc_codes : Nat → Int32} {Sc_size : Int32} {Ai_codes : Nat → Int32} {Ai_bits : Int32} {Cu_seen : Nat → Int32} {Cu_inThrees : Nat → Int32} {Cu_all : Int32} {Lo_asked : Nat → Nat → Int32} {Lo_ones : Nat → Nat → Int32} {Lo_sum : Nat → Nat → Int32} {Lo_wideSize : Nat → Int32} {Lo_sumSize : Nat → Int32} {Lo_flickers : Nat → Int32} {Lo_ready : Nat → Int32} {Wa_at : Int32} {Wa_turns : Int32} {Wa_changes : Int32} {post : (Nat → Int32) → (Nat → Int64) → (Nat → Int64) → Int32 → Int32 → Prop} {KE : (Nat → Int32) → Int32 → Prop} {x3 : Int64} (X : kC p R s m args meth c cX3_find RX3 6 none 8) (hK : va_K D vwCl (tyC cA) s) (hN : nwC s) (hE : ∀ (Lc_signals : Nat → Int32) (Lc_size : Int32), KE Lc_signals Lc_size → ∀ (ls : Array Slot) (H : Heap) (locs : List Loc), lv_has ls 6 [] → va_P D vwCl (wC q cA Fc_unkept Fc_tablesRead Pg_letters Pg_size Pg_fault Pg_rows Pg_inRow Pg_width Fl_entries Fl_states Fl_columns Fl_moves Fl_stables Fl_amiss Fl_normal Pt_lessers Pt_greaters Pt_size Lc_signals Lc_kept Lc_keptFrom Lc_candidates Lc_size Sc_signals Sc_codes Sc_size Ai_codes Ai_bits Cu_seen Cu_inThrees Cu_all Lo_asked Lo_ones Lo_sum Lo_wideSize Lo_sumSize Lo_flickers Lo_ready Wa_at Wa_turns Wa_changes) H → va_D A (wC q cA Fc_unkept Fc_tablesRead Pg_letters Pg_size Pg_fault Pg_rows Pg_inRow Pg_width Fl_entries Fl_states Fl_columns Fl_moves Fl_stables Fl_amiss Fl_normal Pt_lessers Pt_greaters Pt_size Lc_signals Lc_kept Lc_keptFrom Lc_candidates Lc_size Sc_signals Sc_codes Sc_size Ai_codes Ai_bits Cu_seen Cu_inThrees Cu_all Lo_asked Lo_ones Lo_sum Lo_wideSize Lo_sumSize Lo_flickers Lo_ready Wa_at Wa_turns Wa_changes) → va_S A s.heap H locs → W p l e R s m args below meth c H locs 0 0 (MQ below (qWv (Z_X3_find D q cA Fc_unkept Fc_tablesRead Pg_letters Pg_size Pg_fault Pg_rows Pg_inRow Pg_width Fl_entries Fl_states Fl_columns Fl_moves Fl_stables Fl_amiss Fl_normal Pt_lessers Pt_greaters Pt_size Sc_signals Sc_codes Sc_size Ai_codes Ai_bits Cu_seen Cu_inThrees Cu_all Lo_asked Lo_ones Lo_sum Lo_wideSize Lo_sumSize Lo_flickers Lo_ready Wa_at Wa_turns Wa_changes post) A) args s 0 0 A) (F0 m 58 ls [])) : ∀ (n : Nat) (x5 : Int32) (Lc_signals : Nat → Int32) (Lc_size : Int32), w_X3_find_21 KE Lc_kept Lc_keptFrom Lc_candidates x3 n x5 Lc_signals Lc_size → ∀ (ls : Array Slot) (H : Heap) (locs : List Loc), lv_has ls 6 [(0, .ref (q 8)), (3, .long x3), (5, .int x5)] → va_P D vwCl (wC q cA Fc_unkept Fc_tablesRead Pg_letters Pg_size Pg_fault Pg_rows Pg_inRow Pg_width Fl_entries Fl_states Fl_columns Fl_moves Fl_stables Fl_amiss Fl_normal Pt_lessers Pt_greaters Pt_size Lc_signals Lc_kept Lc_keptFrom Lc_candidates Lc_size Sc_signals Sc_codes Sc_size Ai_codes Ai_bits Cu_seen Cu_inThrees Cu_all Lo_asked Lo_ones Lo_sum Lo_wideSize Lo_sumSize Lo_flickers Lo_ready Wa_at Wa_turns Wa_changes) H → va_D A (wC q cA Fc_unkept Fc_tablesRead Pg_letters Pg_size Pg_fault Pg_rows Pg_inRow Pg_width Fl_entries Fl_states Fl_columns Fl_moves Fl_stables Fl_amiss Fl_normal Pt_lessers Pt_greaters Pt_size Lc_signals Lc_kept Lc_keptFrom Lc_candidates Lc_size Sc_signals Sc_codes Sc_size Ai_codes Ai_bits Cu_seen Cu_inThrees Cu_all Lo_asked Lo_ones Lo_sum Lo_wideSize Lo_sumSize Lo_flickers Lo_ready Wa_at Wa_turns Wa_changes) → va_S A s.heap H locs → W p l e R s m args below meth c H locs 0 0 (MQ below (qWv (Z_X3_find D q cA Fc_unkept Fc_tablesRead Pg_letters Pg_size Pg_fault Pg_rows Pg_inRow Pg_width Fl_entries Fl_states Fl_columns Fl_moves Fl_stables Fl_amiss Fl_normal Pt_lessers Pt_greaters Pt_size Sc_signals Sc_codes Sc_size Ai_codes Ai_bits Cu_seen Cu_inThrees Cu_all Lo_asked Lo_ones Lo_sum Lo_wideSize Lo_sumSize Lo_flickers Lo_ready Wa_at Wa_turns Wa_changes post) A) args s 0 0 A) (F0 m 21 ls []) := by
  obtain ⟨hx, hb, hml, hown, hts, hr, hlocks, hRf, hRl⟩ := id X
  intro n
  induction n with
  | zero => intro x5 Lc_signals Lc_size hw; exact (show False from hw).elim
  | succ n ih =>
    intro x5 Lc_signals Lc_size hw ls H locs hl hP hD hS
    refine lv_iload hx hb dX3_find_21 (lv_at hl 2 rfl) ?_
    refine lv_iconst (v := (5 : Int32)) hx hb dX3_find_23 (by decide) ?_
    refine lv_icmp_gt (tgt := 58) hx hb dX3_find_24 (by decide) (fun c_4 => ?_) (fun c_4 => ?_)
    · have hw := hw.1 c_4
      exact hE _ _ hw ls _ _ (lv_sub hl [] rfl) hP hD hS
    · have hw := hw.2 c_4
      refine lv_aload_n hx hb dX3_find_27 rfl (lv_at hl 0 rfl) ?_
      refine gRX3_22 hx hb hown hts hK hP dX3_find_28 ?_
      refine lv_if_ne (tgt := 58) hx hb dX3_find_31 (by decide) (fun c_5 => ?_) (fun c_5 => ?_)
      · have hw := hw.2 c_5
        exact hE _ _ hw ls _ _ (lv_sub hl [] rfl) hP hD hS
      · have hw := hw.1 c_5
        refine lv_aload_n hx hb dX3_find_34 rfl (lv_at hl 0 rfl) ?_
        refine lv_iconst (v := (0 : Int32)) hx hb dX3_find_35 (by decide) ?_
        refine lv_iload hx hb dX3_find_36 (lv_at hl 2 rfl) ?_
        refine lv_iconst (v := (0 : Int32)) hx hb dX3_find_38 (by decide) ?_
        refine lv_lload_n hx hb dX3_find_39 rfl (lv_at hl 1 rfl) ?_
        refine wr_i (va_runV (As := [.int (0 : Int32), .int x5, .int (0 : Int32), .long x3]) (rest := []) ⟨hx, hb, hml, hown, hts⟩ (c_X3_fill l 7 hw) (kRX3_30 (h := 7) hts (Nat.le_trans (Nat.le_of_ble_eq_true rfl) hRf) (Nat.le_trans (Nat.le_of_ble_eq_true rfl) hRl)) (preX3w hK hN hP hD) rfl rfl hl.1 rfl (lv_room (Nat.le_of_ble_eq_true rfl)) dX3_find_40 ⟨Nat.zero_le _, Nat.zero_le _⟩) hS (fun r_6 t H locs ht hw hS => ?_)
        obtain ⟨ysignals_6, hw, hP⟩ := hw
        rw [ht] at hP
        have hP : va_P D vwCl (wC q cA Fc_unkept Fc_tablesRead Pg_letters Pg_size Pg_fault Pg_rows Pg_inRow Pg_width Fl_entries Fl_states Fl_columns Fl_moves Fl_stables Fl_amiss Fl_normal Pt_lessers Pt_greaters Pt_size ysignals_6 Lc_kept Lc_keptFrom Lc_candidates Lc_size Sc_signals Sc_codes Sc_size Ai_codes Ai_bits Cu_seen Cu_inThrees Cu_all Lo_asked Lo_ones Lo_sum Lo_wideSize Lo_sumSize Lo_flickers Lo_ready Wa_at Wa_turns Wa_changes) H := hP
        have hD : va_D A (wC q cA Fc_unkept Fc_tablesRead Pg_letters Pg_size Pg_fault Pg_rows Pg_inRow Pg_width Fl_entries Fl_states Fl_columns Fl_moves Fl_stables Fl_amiss Fl_normal Pt_lessers Pt_greaters Pt_size ysignals_6 Lc_kept Lc_keptFrom Lc_candidates Lc_size Sc_signals Sc_codes Sc_size Ai_codes Ai_bits Cu_seen Cu_inThrees Cu_all Lo_asked Lo_ones Lo_sum Lo_wideSize Lo_sumSize Lo_flickers Lo_ready Wa_at Wa_turns Wa_changes) := dC hD
        refine lv_if_eq (tgt := 52) hx hb dX3_find_43 (by decide) (fun c_7 => ?_) (fun c_7 => ?_)
        · have hw := hw.1 c_7
          obtain ⟨x5_8, e_8⟩ : ∃ z : Int32, z = x5 + (1 : Int32) := ⟨_, rfl⟩
          have hw := hw x5_8 e_8
          refine lv_iinc (v := x5_8) (lv' := [(5, .int x5_8), (0, .ref (q 8)), (3, .long x3)]) hx hb dX3_find_52 hl (k := 2) rfl (by rw [e_8]; rfl) (by decide) rfl (fun ls hl => ?_)
          refine lv_goto (tgt := 21) hx hb dX3_find_55 (by decide) ?_
          exact ih _ _ _ hw ls _ _ (lv_sub hl [1, 2, 0] rfl) hP hD hS
        · have hw := hw.2 c_7
          refine lv_aload_n hx hb dX3_find_46 rfl (lv_at hl 0 rfl) ?_
          refine lv_iload hx hb dX3_find_47 (lv_at hl 2 rfl) ?_
          refine pRX3_22 hx hb hown hts hK hP hD hS dX3_find_49 (fun H locs hP hD hS => ?_)
          obtain ⟨x5_9, e_9⟩ : ∃ z : Int32, z = x5 + (1 : Int32) := ⟨_, rfl⟩
          have hw := hw x5_9 e_9
          refine lv_iinc (v := x5_9) (lv' := [(5, .int x5_9), (0, .ref (q 8)), (3, .long x3)]) hx hb dX3_find_52 hl (k := 2) rfl (by rw [e_9]; rfl) (by decide) rfl (fun ls hl => ?_)
          refine lv_goto (tgt := 21) hx hb dX3_find_55 (by decide) ?_
          exact ih _ _ _ hw ls _ _ (lv_sub hl [1, 2, 0] rfl) hP hD hS
set_option maxHeartbeats 4000000 in
set_option maxRecDepth 100000 in
theorem c_X3_find (l : Launch) {D : va_G} {q : Nat → Nat} {cA : Nat → ClassId} {Fc_unkept : Int32} {Fc_tablesRead : Int32} {Pg_letters : Nat → Int32} {Pg_size : Int32} {Pg_fault : Int32} {Pg_rows : Int32} {Pg_inRow : Int32} {Pg_width : Int32} {Fl_entries : Nat → Int32} {Fl_states : Int32} {Fl_columns : Int32} {Fl_moves : Int32} {Fl_stables : Int32} {Fl_amiss : Int32} {Fl_normal : Int32} {Pt_lessers : Nat → Int32} {Pt_greaters : Nat → Int32} {Pt_size : Int32} {Lc_signals : Nat → Int32} {Lc_kept : Nat → Int64} {Lc_keptFrom : Nat → Int64} {Lc_candidates : Int32} {Lc_size : Int32} {Sc_signals : Nat → Int32} {Sc_codes : Nat → Int32} {Sc_size : Int32} {Ai_codes : Nat → Int32} {Ai_bits : Int32} {Cu_seen : Nat → Int32} {Cu_inThrees : Nat → Int32} {Cu_all : Int32} {Lo_asked : Nat → Nat → Int32} {Lo_ones : Nat → Nat → Int32} {Lo_sum : Nat → Nat → Int32} {Lo_wideSize : Nat → Int32} {Lo_sumSize : Nat → Int32} {Lo_flickers : Nat → Int32} {Lo_ready : Nat → Int32} {Wa_at : Int32} {Wa_turns : Int32} {Wa_changes : Int32} {A : Nat → Prop} {post : (Nat → Int32) → (Nat → Int64) → (Nat → Int64) → Int32 → Int32 → Prop} {x1 : Int32} (hw : wp_X3_find post Pt_lessers Pt_greaters Pt_size Lc_signals Lc_kept Lc_keptFrom Lc_candidates Lc_size x1) : Met l yX3_find (Cond.code yX3_find cX3_find 6 none :: wsL_law) (rmH 8) (va_Pc [.ref (q 8), .int x1, .ref (q 5)] (fun U => va_P D vwCl (wC q cA Fc_unkept Fc_tablesRead Pg_letters Pg_size Pg_fault Pg_rows Pg_inRow Pg_width Fl_entries Fl_states Fl_columns Fl_moves Fl_stables Fl_amiss Fl_normal Pt_lessers Pt_greaters Pt_size Lc_signals Lc_kept Lc_keptFrom Lc_candidates Lc_size Sc_signals Sc_codes Sc_size Ai_codes Ai_bits Cu_seen Cu_inThrees Cu_all Lo_asked Lo_ones Lo_sum Lo_wideSize Lo_sumSize Lo_flickers Lo_ready Wa_at Wa_turns Wa_changes) U.heap ∧ va_K D vwCl (tyC cA) U ∧ nwC U ∧ va_D A (wC q cA Fc_unkept Fc_tablesRead Pg_letters Pg_size Pg_fault Pg_rows Pg_inRow Pg_width Fl_entries Fl_states Fl_columns Fl_moves Fl_stables Fl_amiss Fl_normal Pt_lessers Pt_greaters Pt_size Lc_signals Lc_kept Lc_keptFrom Lc_candidates Lc_size Sc_signals Sc_codes Sc_size Ai_codes Ai_bits Cu_seen Cu_inThrees Cu_all Lo_asked Lo_ones Lo_sum Lo_wideSize Lo_sumSize Lo_flickers Lo_ready Wa_at Wa_turns Wa_changes))) (qWv (Z_X3_find D q cA Fc_unkept Fc_tablesRead Pg_letters Pg_size Pg_fault Pg_rows Pg_inRow Pg_width Fl_entries Fl_states Fl_columns Fl_moves Fl_stables Fl_amiss Fl_normal Pt_lessers Pt_greaters Pt_size Sc_signals Sc_codes Sc_size Ai_codes Ai_bits Cu_seen Cu_inThrees Cu_all Lo_asked Lo_ones Lo_sum Lo_wideSize Lo_sumSize Lo_flickers Lo_ready Wa_at Wa_turns Wa_changes post) A) 0 0 A := by
  refine Met.ofW (cc := cX3_find) (maxL := 6) (ret := none) (by decide) rfl ?_
  intro p e s m args below meth c s₁ B hml hv
  obtain ⟨rfl, hP, hK, hN, hD⟩ := hv
  have X : kC p (headSpec (Cond.code yX3_find cX3_find 6 none :: wsL_law) (rmH 8)).room s m _ meth c cX3_find RX3 6 none 8 := ⟨B.exec, B.bytes, hml, findClass_of_methodNamed B.named, fun w h => atoms_spec (ws := Cond.code yX3_find cX3_find 6 none :: wsL_law) B.pre w (List.mem_cons_of_mem _ h), B.returns, B.notSynchronized, Nat.le_refl _, Nat.le_refl _⟩
  obtain ⟨hx, hb, hml, hown, hts, hr, hlocks, hRf, hRl⟩ := id X
  have hS : va_S A s.heap s.heap [] := va_S.rf
  have hl := lv_entry ([.ref (q 8), .int x1, .ref (q 5)]) (n := 6) (Nat.le_of_ble_eq_true rfl)
  rw [lg_entry_eq]
  generalize (lg_sl ([.ref (q 8), .int x1, .ref (q 5)]) ++ List.replicate (6 - (lg_sl ([.ref (q 8), .int x1, .ref (q 5)])).length) Slot.unset).toArray = ls at hl ⊢
  have hl : lv_has ls 6 [(0, .ref (q 8)), (1, .int x1), (2, .ref (q 5))] := hl
  refine lv_aload_n hx hb dX3_find_0 rfl (lv_at hl 0 rfl) ?_
  refine lv_iload_n hx hb dX3_find_1 rfl (lv_at hl 1 rfl) ?_
  refine lv_aload_n hx hb dX3_find_2 rfl (lv_at hl 2 rfl) ?_
  refine wr_v (va_runV (As := [.int x1, .ref (q 5)]) (rest := []) ⟨hx, hb, hml, hown, hts⟩ (c_X3_prepare l hw) (kRX3_26 (h := 2) hts (Nat.le_trans (Nat.le_of_ble_eq_true rfl) hRf) (Nat.le_trans (Nat.le_of_ble_eq_true rfl) hRl)) (preX3w hK hN hP hD) rfl rfl hl.1 rfl (lv_room (Nat.le_of_ble_eq_true rfl)) dX3_find_3 ⟨Nat.zero_le _, Nat.zero_le _⟩) hS (fun t H locs ht hw hS => ?_)
  obtain ⟨ykept_1, ykeptFrom_1, ycandidates_1, hw, hP⟩ := hw
  rw [ht] at hP
  have hP : va_P D vwCl (wC q cA Fc_unkept Fc_tablesRead Pg_letters Pg_size Pg_fault Pg_rows Pg_inRow Pg_width Fl_entries Fl_states Fl_columns Fl_moves Fl_stables Fl_amiss Fl_normal Pt_lessers Pt_greaters Pt_size Lc_signals ykept_1 ykeptFrom_1 ycandidates_1 Lc_size Sc_signals Sc_codes Sc_size Ai_codes Ai_bits Cu_seen Cu_inThrees Cu_all Lo_asked Lo_ones Lo_sum Lo_wideSize Lo_sumSize Lo_flickers Lo_ready Wa_at Wa_turns Wa_changes) H := hP
  have hD : va_D A (wC q cA Fc_unkept Fc_tablesRead Pg_letters Pg_size Pg_fault Pg_rows Pg_inRow Pg_width Fl_entries Fl_states Fl_columns Fl_moves Fl_stables Fl_amiss Fl_normal Pt_lessers Pt_greaters Pt_size Lc_signals ykept_1 ykeptFrom_1 ycandidates_1 Lc_size Sc_signals Sc_codes Sc_size Ai_codes Ai_bits Cu_seen Cu_inThrees Cu_all Lo_asked Lo_ones Lo_sum Lo_wideSize Lo_sumSize Lo_flickers Lo_ready Wa_at Wa_turns Wa_changes) := dC hD
  refine lv_aload_n hx hb dX3_find_6 rfl (lv_at hl 0 rfl) ?_
  refine lv_iconst (v := (0 : Int32)) hx hb dX3_find_7 (by decide) ?_
  refine pRX3_22 hx hb hown hts hK hP hD hS dX3_find_8 (fun H locs hP hD hS => ?_)
  refine lv_aload_n hx hb dX3_find_11 rfl (lv_at hl 0 rfl) ?_
  refine gRX3_19 hx hb hown hts hK hP dX3_find_12 ?_
  refine lv_iconst (v := (0 : Int32)) hx hb dX3_find_15 (by decide) ?_
  have h_2 := hw.1
  have hw := hw.2
  refine ld_Lc_keptFrom hx hb hK hP h_2 dX3_find_16 ?_
  refine lv_topl (fun x3_3 e_3 => ?_)
  have hw := hw x3_3 e_3
  refine lv_lstore_n (lv' := [(3, .long x3_3), (0, .ref (q 8)), (1, .int x1), (2, .ref (q 5))]) hx hb dX3_find_17 rfl hl (by decide) rfl (fun ls hl => ?_)
  refine lv_iconst (v := (1 : Int32)) hx hb dX3_find_18 (by decide) ?_
  refine lv_istore (lv' := [(5, .int (1 : Int32)), (3, .long x3_3), (0, .ref (q 8)), (1, .int x1), (2, .ref (q 5))]) hx hb dX3_find_19 hl (by decide) rfl (fun ls hl => ?_)
  obtain ⟨n_10, hw⟩ := hw
  refine t_X3_find_21 X hK hN (fun ysignals_10 ysize_10 hw ls H locs hl hP hD hS => ?_) n_10 _ _ _ hw ls _ _ (lv_sub hl [2, 1, 0] rfl) hP hD hS
  exact rw_v hx hb hr hlocks (fun t ht => ⟨ysignals_10, ykept_1, ykeptFrom_1, ycandidates_1, ysize_10, hw, by rw [ht]; exact hP⟩) hS dX3_find_58
abbrev Z_X9_table (D : va_G) (q : Nat → Nat) (cA : Nat → ClassId) (Pg_letters : Nat → Int32) (Cu_seen : Nat → Int32) (Cu_inThrees : Nat → Int32) (Cu_all : Int32) (Lo_asked : Nat → Nat → Int32) (Lo_ones : Nat → Nat → Int32) (Lo_sum : Nat → Nat → Int32) (Lo_wideSize : Nat → Int32) (Lo_sumSize : Nat → Int32) (Lo_flickers : Nat → Int32) (post : Int32 → Int32 → Int32 → Int32 → Int32 → Int32 → Int32 → Int32 → (Nat → Int32) → Int32 → Int32 → Int32 → Int32 → Int32 → Int32 → (Nat → Int32) → (Nat → Int32) → Int32 → (Nat → Int32) → (Nat → Int64) → (Nat → Int64) → Int32 → Int32 → (Nat → Int32) → (Nat → Int32) → Int32 → (Nat → Int32) → Int32 → (Nat → Int32) → Int32 → Int32 → Int32 → Prop) : Int32 → State → Prop := fun r t => ∃ (y_Fc_unkept : Int32) (y_Fc_tablesRead : Int32) (y_Pg_size : Int32) (y_Pg_fault : Int32) (y_Pg_rows : Int32) (y_Pg_inRow : Int32) (y_Pg_width : Int32) (y_Fl_entries : Nat → Int32) (y_Fl_states : Int32) (y_Fl_columns : Int32) (y_Fl_moves : Int32) (y_Fl_stables : Int32) (y_Fl_amiss : Int32) (y_Fl_normal : Int32) (y_Pt_lessers : Nat → Int32) (y_Pt_greaters : Nat → Int32) (y_Pt_size : Int32) (y_Lc_signals : Nat → Int32) (y_Lc_kept : Nat → Int64) (y_Lc_keptFrom : Nat → Int64) (y_Lc_candidates : Int32) (y_Lc_size : Int32) (y_Sc_signals : Nat → Int32) (y_Sc_codes : Nat → Int32) (y_Sc_size : Int32) (y_Ai_codes : Nat → Int32) (y_Ai_bits : Int32) (y_Lo_ready : Nat → Int32) (y_Wa_at : Int32) (y_Wa_turns : Int32) (y_Wa_changes : Int32), post r y_Fc_unkept y_Fc_tablesRead y_Pg_size y_Pg_fault y_Pg_rows y_Pg_inRow y_Pg_width y_Fl_entries y_Fl_states y_Fl_columns y_Fl_moves y_Fl_stables y_Fl_amiss y_Fl_normal y_Pt_lessers y_Pt_greaters y_Pt_size y_Lc_signals y_Lc_kept y_Lc_keptFrom y_Lc_candidates y_Lc_size y_Sc_signals y_Sc_codes y_Sc_size y_Ai_codes y_Ai_bits y_Lo_ready y_Wa_at y_Wa_turns y_Wa_changes ∧ va_P D vwCl (wC q cA y_Fc_unkept y_Fc_tablesRead Pg_letters y_Pg_size y_Pg_fault y_Pg_rows y_Pg_inRow y_Pg_width y_Fl_entries y_Fl_states y_Fl_columns y_Fl_moves y_Fl_stables y_Fl_amiss y_Fl_normal y_Pt_lessers y_Pt_greaters y_Pt_size y_Lc_signals y_Lc_kept y_Lc_keptFrom y_Lc_candidates y_Lc_size y_Sc_signals y_Sc_codes y_Sc_size y_Ai_codes y_Ai_bits Cu_seen Cu_inThrees Cu_all Lo_asked Lo_ones Lo_sum Lo_wideSize Lo_sumSize Lo_flickers y_Lo_ready y_Wa_at y_Wa_turns y_Wa_changes) t.heap
set_option maxHeartbeats 4000000 in
set_option maxRecDepth 100000 in
theorem t_X9_table_111 {p : Program} {l : Launch} {e : Env} {R : Room} {s : State} {m : MethodId} {args : Array Value} {below : List Frame} {meth : Method} {c : Code} {A : Nat → Prop} {D : va_G} {q : Nat → Nat} {cA : Nat → ClassId} {Fc_unkept : Int32} {Fc_tablesRead : Int32} {Pg_letters : Nat → Int32} {Pg_size : Int32} {Pg_fault : Int32} {Pg_rows : Int32} {Pg_inRow : Int32} {Pg_width : Int32} {Fl_entries : Nat → Int32} {Fl_states : Int32} {Fl_columns : Int32} {Fl_moves : Int32} {Fl_stables : Int32} {Fl_amiss : Int32} {Fl_normal : Int32} {Pt_lessers : Nat → Int32} {Pt_greaters : Nat → Int32} {Pt_size : Int32} {Lc_signals : Nat → Int32} {Lc_kept : Nat → Int64} {Lc_keptFrom : Nat → Int64} {Lc_candidates : Int32} {Lc_size : Int32} {Sc_signals : Nat → Int32} {Sc_codes : Nat → Int32} {Sc_size : Int32} {Ai_codes : Nat → Int32} {Ai_bits : Int32} {Cu_seen : Nat → Int32} {Cu_inThrees : Nat → Int32} {Cu_all : Int32} {Lo_asked : Nat → Nat → Int32} {Lo_ones : Nat → Nat → Int32} {Lo_sum : Nat → Nat → Int32} {Lo_wideSize : Nat → Int32} {Lo_sumSize : Nat → Int32} {Lo_flickers : Nat → Int32} {Lo_ready : Nat → Int32} {Wa_at : Int32} {Wa_turns : Int32} {Wa_changes : Int32} {post : Int32 → Int32 → Int32 → Int32 → Int32 → Int32 → Int32 → Int32 → (Nat → Int32) → Int32 → Int32 → Int32 → Int32 → Int32 → Int32 → (Nat → Int32) → (Nat → Int32) → Int32 → (Nat → Int32) → (Nat → Int64) → (Nat → Int64) → Int32 → Int32 → (Nat → Int32) → (Nat → Int32) → Int32 → (Nat → Int32) → Int32 → (Nat → Int32) → Int32 → Int32 → Int32 → Prop} (X : kC p R s m args meth c cX9_table RX9 1 (some .int) 9) (hK : va_K D vwCl (tyC cA) s) (hN : nwC s) (hw : j_X9_table_111 post Fc_unkept Fc_tablesRead Pg_size Pg_fault Pg_rows Pg_inRow Pg_width Fl_entries Fl_states Fl_columns Fl_moves Fl_stables Fl_amiss Fl_normal Pt_lessers Pt_greaters Pt_size Lc_signals Lc_kept Lc_keptFrom Lc_candidates Lc_size Sc_signals Sc_codes Sc_size Ai_codes Ai_bits Lo_ready Wa_at Wa_turns Wa_changes) (ls : Array Slot) (H : Heap) (locs : List Loc) (hl : lv_has ls 1 [(0, .ref (q 0))]) (hP : va_P D vwCl (wC q cA Fc_unkept Fc_tablesRead Pg_letters Pg_size Pg_fault Pg_rows Pg_inRow Pg_width Fl_entries Fl_states Fl_columns Fl_moves Fl_stables Fl_amiss Fl_normal Pt_lessers Pt_greaters Pt_size Lc_signals Lc_kept Lc_keptFrom Lc_candidates Lc_size Sc_signals Sc_codes Sc_size Ai_codes Ai_bits Cu_seen Cu_inThrees Cu_all Lo_asked Lo_ones Lo_sum Lo_wideSize Lo_sumSize Lo_flickers Lo_ready Wa_at Wa_turns Wa_changes) H) (hD : va_D A (wC q cA Fc_unkept Fc_tablesRead Pg_letters Pg_size Pg_fault Pg_rows Pg_inRow Pg_width Fl_entries Fl_states Fl_columns Fl_moves Fl_stables Fl_amiss Fl_normal Pt_lessers Pt_greaters Pt_size Lc_signals Lc_kept Lc_keptFrom Lc_candidates Lc_size Sc_signals Sc_codes Sc_size Ai_codes Ai_bits Cu_seen Cu_inThrees Cu_all Lo_asked Lo_ones Lo_sum Lo_wideSize Lo_sumSize Lo_flickers Lo_ready Wa_at Wa_turns Wa_changes)) (hS : va_S A s.heap H locs) : W p l e R s m args below meth c H locs 0 0 (MQ below (qWi (Z_X9_table D q cA Pg_letters Cu_seen Cu_inThrees Cu_all Lo_asked Lo_ones Lo_sum Lo_wideSize Lo_sumSize Lo_flickers post) A) args s 0 0 A) (F0 m 111 ls []) := by
  obtain ⟨hx, hb, hml, hown, hts, hr, hlocks, hRf, hRl⟩ := id X
  refine lv_aload_n hx hb dX9_table_111 rfl (lv_at hl 0 rfl) ?_
  refine gRX9_40 hx hb hown hts hK hP dX9_table_112 ?_
  refine lv_aload_n hx hb dX9_table_115 rfl (lv_at hl 0 rfl) ?_
  refine gRX9_33 hx hb hown hts hK hP dX9_table_116 ?_
  refine wr_v (va_runV (As := [.ref (q 8)]) (rest := []) ⟨hx, hb, hml, hown, hts⟩ (c_X7_take l hw) (kRX9_125 (h := 1) hts (Nat.le_trans (Nat.le_of_ble_eq_true rfl) hRf) (Nat.le_trans (Nat.le_of_ble_eq_true rfl) hRl)) (preX7w hK hN hP hD) rfl rfl hl.1 rfl (lv_room (Nat.le_of_ble_eq_true rfl)) dX9_table_119 ⟨Nat.zero_le _, Nat.zero_le _⟩) hS (fun t H locs ht hw hS => ?_)
  obtain ⟨ysignals_10, ycodes_10, ysize_10, hw, hP⟩ := hw
  rw [ht] at hP
  have hP : va_P D vwCl (wC q cA Fc_unkept Fc_tablesRead Pg_letters Pg_size Pg_fault Pg_rows Pg_inRow Pg_width Fl_entries Fl_states Fl_columns Fl_moves Fl_stables Fl_amiss Fl_normal Pt_lessers Pt_greaters Pt_size Lc_signals Lc_kept Lc_keptFrom Lc_candidates Lc_size ysignals_10 ycodes_10 ysize_10 Ai_codes Ai_bits Cu_seen Cu_inThrees Cu_all Lo_asked Lo_ones Lo_sum Lo_wideSize Lo_sumSize Lo_flickers Lo_ready Wa_at Wa_turns Wa_changes) H := hP
  have hD : va_D A (wC q cA Fc_unkept Fc_tablesRead Pg_letters Pg_size Pg_fault Pg_rows Pg_inRow Pg_width Fl_entries Fl_states Fl_columns Fl_moves Fl_stables Fl_amiss Fl_normal Pt_lessers Pt_greaters Pt_size Lc_signals Lc_kept Lc_keptFrom Lc_candidates Lc_size ysignals_10 ycodes_10 ysize_10 Ai_codes Ai_bits Cu_seen Cu_inThrees Cu_all Lo_asked Lo_ones Lo_sum Lo_wideSize Lo_sumSize Lo_flickers Lo_ready Wa_at Wa_turns Wa_changes) := dC hD
  refine lv_aload_n hx hb dX9_table_122 rfl (lv_at hl 0 rfl) ?_
  refine wr_v (va_runV (As := []) (rest := []) ⟨hx, hb, hml, hown, hts⟩ (c_X9_settle l hw) (kRX9_129 (h := 4) hts (Nat.le_trans (Nat.le_of_ble_eq_true rfl) hRf) (Nat.le_trans (Nat.le_of_ble_eq_true rfl) hRl)) (preX9w hK hN hP hD) rfl rfl hl.1 rfl (lv_room (Nat.le_of_ble_eq_true rfl)) dX9_table_123 ⟨Nat.zero_le _, Nat.zero_le _⟩) hS (fun t H locs ht hw hS => ?_)
  obtain ⟨yunkept_11, ycodes_11, ybits_11, yready_11, hw, hP⟩ := hw
  rw [ht] at hP
  have hP : va_P D vwCl (wC q cA yunkept_11 Fc_tablesRead Pg_letters Pg_size Pg_fault Pg_rows Pg_inRow Pg_width Fl_entries Fl_states Fl_columns Fl_moves Fl_stables Fl_amiss Fl_normal Pt_lessers Pt_greaters Pt_size Lc_signals Lc_kept Lc_keptFrom Lc_candidates Lc_size ysignals_10 ycodes_10 ysize_10 ycodes_11 ybits_11 Cu_seen Cu_inThrees Cu_all Lo_asked Lo_ones Lo_sum Lo_wideSize Lo_sumSize Lo_flickers yready_11 Wa_at Wa_turns Wa_changes) H := hP
  have hD : va_D A (wC q cA yunkept_11 Fc_tablesRead Pg_letters Pg_size Pg_fault Pg_rows Pg_inRow Pg_width Fl_entries Fl_states Fl_columns Fl_moves Fl_stables Fl_amiss Fl_normal Pt_lessers Pt_greaters Pt_size Lc_signals Lc_kept Lc_keptFrom Lc_candidates Lc_size ysignals_10 ycodes_10 ysize_10 ycodes_11 ybits_11 Cu_seen Cu_inThrees Cu_all Lo_asked Lo_ones Lo_sum Lo_wideSize Lo_sumSize Lo_flickers yready_11 Wa_at Wa_turns Wa_changes) := dC hD
  refine lv_aload_n hx hb dX9_table_126 rfl (lv_at hl 0 rfl) ?_
  refine gRX9_19 hx hb hown hts hK hP dX9_table_127 ?_
  refine gRX9_118 hx hb hown hts hK hN hP dX9_table_130 ?_
  exact rw_i hx hb hr hlocks (fun t ht => ⟨yunkept_11, Fc_tablesRead, Pg_size, Pg_fault, Pg_rows, Pg_inRow, Pg_width, Fl_entries, Fl_states, Fl_columns, Fl_moves, Fl_stables, Fl_amiss, Fl_normal, Pt_lessers, Pt_greaters, Pt_size, Lc_signals, Lc_kept, Lc_keptFrom, Lc_candidates, Lc_size, ysignals_10, ycodes_10, ysize_10, ycodes_11, ybits_11, yready_11, Wa_at, Wa_turns, Wa_changes, hw, by rw [ht]; exact hP⟩) hS dX9_table_133
set_option maxHeartbeats 4000000 in
set_option maxRecDepth 100000 in
theorem c_X9_table (l : Launch) {D : va_G} {q : Nat → Nat} {cA : Nat → ClassId} {Fc_unkept : Int32} {Fc_tablesRead : Int32} {Pg_letters : Nat → Int32} {Pg_size : Int32} {Pg_fault : Int32} {Pg_rows : Int32} {Pg_inRow : Int32} {Pg_width : Int32} {Fl_entries : Nat → Int32} {Fl_states : Int32} {Fl_columns : Int32} {Fl_moves : Int32} {Fl_stables : Int32} {Fl_amiss : Int32} {Fl_normal : Int32} {Pt_lessers : Nat → Int32} {Pt_greaters : Nat → Int32} {Pt_size : Int32} {Lc_signals : Nat → Int32} {Lc_kept : Nat → Int64} {Lc_keptFrom : Nat → Int64} {Lc_candidates : Int32} {Lc_size : Int32} {Sc_signals : Nat → Int32} {Sc_codes : Nat → Int32} {Sc_size : Int32} {Ai_codes : Nat → Int32} {Ai_bits : Int32} {Cu_seen : Nat → Int32} {Cu_inThrees : Nat → Int32} {Cu_all : Int32} {Lo_asked : Nat → Nat → Int32} {Lo_ones : Nat → Nat → Int32} {Lo_sum : Nat → Nat → Int32} {Lo_wideSize : Nat → Int32} {Lo_sumSize : Nat → Int32} {Lo_flickers : Nat → Int32} {Lo_ready : Nat → Int32} {Wa_at : Int32} {Wa_turns : Int32} {Wa_changes : Int32} {A : Nat → Prop} {post : Int32 → Int32 → Int32 → Int32 → Int32 → Int32 → Int32 → Int32 → (Nat → Int32) → Int32 → Int32 → Int32 → Int32 → Int32 → Int32 → (Nat → Int32) → (Nat → Int32) → Int32 → (Nat → Int32) → (Nat → Int64) → (Nat → Int64) → Int32 → Int32 → (Nat → Int32) → (Nat → Int32) → Int32 → (Nat → Int32) → Int32 → (Nat → Int32) → Int32 → Int32 → Int32 → Prop}  (hw : wp_X9_table post Fc_unkept Fc_tablesRead Pg_letters Pg_size Pg_fault Pg_rows Pg_inRow Pg_width Fl_entries Fl_states Fl_columns Fl_moves Fl_stables Fl_amiss Fl_normal Pt_lessers Pt_greaters Pt_size Lc_signals Lc_kept Lc_keptFrom Lc_candidates Lc_size Sc_signals Sc_codes Sc_size Ai_codes Ai_bits Lo_ready Wa_at Wa_turns Wa_changes ) : Met l yX9_table (Cond.code yX9_table cX9_table 1 (some .int) :: wsL_law) (rmH 9) (va_Pc [.ref (q 0)] (fun U => va_P D vwCl (wC q cA Fc_unkept Fc_tablesRead Pg_letters Pg_size Pg_fault Pg_rows Pg_inRow Pg_width Fl_entries Fl_states Fl_columns Fl_moves Fl_stables Fl_amiss Fl_normal Pt_lessers Pt_greaters Pt_size Lc_signals Lc_kept Lc_keptFrom Lc_candidates Lc_size Sc_signals Sc_codes Sc_size Ai_codes Ai_bits Cu_seen Cu_inThrees Cu_all Lo_asked Lo_ones Lo_sum Lo_wideSize Lo_sumSize Lo_flickers Lo_ready Wa_at Wa_turns Wa_changes) U.heap ∧ va_K D vwCl (tyC cA) U ∧ nwC U ∧ va_D A (wC q cA Fc_unkept Fc_tablesRead Pg_letters Pg_size Pg_fault Pg_rows Pg_inRow Pg_width Fl_entries Fl_states Fl_columns Fl_moves Fl_stables Fl_amiss Fl_normal Pt_lessers Pt_greaters Pt_size Lc_signals Lc_kept Lc_keptFrom Lc_candidates Lc_size Sc_signals Sc_codes Sc_size Ai_codes Ai_bits Cu_seen Cu_inThrees Cu_all Lo_asked Lo_ones Lo_sum Lo_wideSize Lo_sumSize Lo_flickers Lo_ready Wa_at Wa_turns Wa_changes))) (qWi (Z_X9_table D q cA Pg_letters Cu_seen Cu_inThrees Cu_all Lo_asked Lo_ones Lo_sum Lo_wideSize Lo_sumSize Lo_flickers post) A) 0 0 A := by
  refine Met.ofW (cc := cX9_table) (maxL := 1) (ret := (some .int)) (by decide) rfl ?_
  intro p e s m args below meth c s₁ B hml hv
  obtain ⟨rfl, hP, hK, hN, hD⟩ := hv
  have X : kC p (headSpec (Cond.code yX9_table cX9_table 1 (some .int) :: wsL_law) (rmH 9)).room s m _ meth c cX9_table RX9 1 (some .int) 9 := ⟨B.exec, B.bytes, hml, findClass_of_methodNamed B.named, fun w h => atoms_spec (ws := Cond.code yX9_table cX9_table 1 (some .int) :: wsL_law) B.pre w (List.mem_cons_of_mem _ h), B.returns, B.notSynchronized, Nat.le_refl _, Nat.le_refl _⟩
  obtain ⟨hx, hb, hml, hown, hts, hr, hlocks, hRf, hRl⟩ := id X
  have hS : va_S A s.heap s.heap [] := va_S.rf
  have hl := lv_entry ([.ref (q 0)]) (n := 1) (Nat.le_of_ble_eq_true rfl)
  rw [lg_entry_eq]
  generalize (lg_sl ([.ref (q 0)]) ++ List.replicate (1 - (lg_sl ([.ref (q 0)])).length) Slot.unset).toArray = ls at hl ⊢
  have hl : lv_has ls 1 [(0, .ref (q 0))] := hl
  refine lv_aload_n hx hb dX9_table_0 rfl (lv_at hl 0 rfl) ?_
  refine gRX9_12 hx hb hown hts hK hP dX9_table_1 ?_
  refine wr_v (va_runV (As := []) (rest := []) ⟨hx, hb, hml, hown, hts⟩ (c_X5_scan l hw) (kRX9_86 (h := 2) hts (Nat.le_trans (Nat.le_of_ble_eq_true rfl) hRf) (Nat.le_trans (Nat.le_of_ble_eq_true rfl) hRl)) (preX5w hK hN hP hD) rfl rfl hl.1 rfl (lv_room (Nat.le_of_ble_eq_true rfl)) dX9_table_4 ⟨Nat.zero_le _, Nat.zero_le _⟩) hS (fun t H locs ht hw hS => ?_)
  obtain ⟨yfault_1, yrows_1, yinRow_1, ywidth_1, hw, hP⟩ := hw
  rw [ht] at hP
  have hP : va_P D vwCl (wC q cA Fc_unkept Fc_tablesRead Pg_letters Pg_size yfault_1 yrows_1 yinRow_1 ywidth_1 Fl_entries Fl_states Fl_columns Fl_moves Fl_stables Fl_amiss Fl_normal Pt_lessers Pt_greaters Pt_size Lc_signals Lc_kept Lc_keptFrom Lc_candidates Lc_size Sc_signals Sc_codes Sc_size Ai_codes Ai_bits Cu_seen Cu_inThrees Cu_all Lo_asked Lo_ones Lo_sum Lo_wideSize Lo_sumSize Lo_flickers Lo_ready Wa_at Wa_turns Wa_changes) H := hP
  have hD : va_D A (wC q cA Fc_unkept Fc_tablesRead Pg_letters Pg_size yfault_1 yrows_1 yinRow_1 ywidth_1 Fl_entries Fl_states Fl_columns Fl_moves Fl_stables Fl_amiss Fl_normal Pt_lessers Pt_greaters Pt_size Lc_signals Lc_kept Lc_keptFrom Lc_candidates Lc_size Sc_signals Sc_codes Sc_size Ai_codes Ai_bits Cu_seen Cu_inThrees Cu_all Lo_asked Lo_ones Lo_sum Lo_wideSize Lo_sumSize Lo_flickers Lo_ready Wa_at Wa_turns Wa_changes) := dC hD
  refine lv_aload_n hx hb dX9_table_7 rfl (lv_at hl 0 rfl) ?_
  refine gRX9_12 hx hb hown hts hK hP dX9_table_8 ?_
  refine ro_i (va_runV (As := []) (rest := []) ⟨hx, hb, hml, hown, hts⟩ (c_X5_isTable l hw) (kRX9_92 (h := 1) hts (Nat.le_trans (Nat.le_of_ble_eq_true rfl) hRf) (Nat.le_trans (Nat.le_of_ble_eq_true rfl) hRl)) (preX5 hK hN hP) rfl rfl hl.1 rfl (lv_room (Nat.le_of_ble_eq_true rfl)) dX9_table_11 ⟨Nat.zero_le _, Nat.zero_le _⟩) (fun r_2 hw => ?_)
  refine lv_if_ne (tgt := 21) hx hb dX9_table_14 (by decide) (fun c_3 => ?_) (fun c_3 => ?_)
  · have hw := hw.2 c_3
    refine lv_aload_n hx hb dX9_table_21 rfl (lv_at hl 0 rfl) ?_
    refine gRX9_19 hx hb hown hts hK hP dX9_table_22 ?_
    refine lv_aload_n hx hb dX9_table_25 rfl (lv_at hl 0 rfl) ?_
    refine gRX9_12 hx hb hown hts hK hP dX9_table_26 ?_
    refine wr_v (va_runV (As := [.ref (q 1)]) (rest := []) ⟨hx, hb, hml, hown, hts⟩ (c_X2_read l hw) (kRX9_96 (h := 4) hts (Nat.le_trans (Nat.le_of_ble_eq_true rfl) hRf) (Nat.le_trans (Nat.le_of_ble_eq_true rfl) hRl)) (preX2w hK hN hP hD) rfl rfl hl.1 rfl (lv_room (Nat.le_of_ble_eq_true rfl)) dX9_table_29 ⟨Nat.zero_le _, Nat.zero_le _⟩) hS (fun t H locs ht hw hS => ?_)
    obtain ⟨yentries_4, ystates_4, ycolumns_4, ymoves_4, ystables_4, yamiss_4, ynormal_4, hw, hP⟩ := hw
    rw [ht] at hP
    have hP : va_P D vwCl (wC q cA Fc_unkept Fc_tablesRead Pg_letters Pg_size yfault_1 yrows_1 yinRow_1 ywidth_1 yentries_4 ystates_4 ycolumns_4 ymoves_4 ystables_4 yamiss_4 ynormal_4 Pt_lessers Pt_greaters Pt_size Lc_signals Lc_kept Lc_keptFrom Lc_candidates Lc_size Sc_signals Sc_codes Sc_size Ai_codes Ai_bits Cu_seen Cu_inThrees Cu_all Lo_asked Lo_ones Lo_sum Lo_wideSize Lo_sumSize Lo_flickers Lo_ready Wa_at Wa_turns Wa_changes) H := hP
    have hD : va_D A (wC q cA Fc_unkept Fc_tablesRead Pg_letters Pg_size yfault_1 yrows_1 yinRow_1 ywidth_1 yentries_4 ystates_4 ycolumns_4 ymoves_4 ystables_4 yamiss_4 ynormal_4 Pt_lessers Pt_greaters Pt_size Lc_signals Lc_kept Lc_keptFrom Lc_candidates Lc_size Sc_signals Sc_codes Sc_size Ai_codes Ai_bits Cu_seen Cu_inThrees Cu_all Lo_asked Lo_ones Lo_sum Lo_wideSize Lo_sumSize Lo_flickers Lo_ready Wa_at Wa_turns Wa_changes) := dC hD
    refine lv_aload_n hx hb dX9_table_32 rfl (lv_at hl 0 rfl) ?_
    refine gRX9_12 hx hb hown hts hK hP dX9_table_33 ?_
    refine lv_iconst (v := (0 : Int32)) hx hb dX9_table_36 (by decide) ?_
    refine pRX9_83 hx hb hown hts hK hN hP hD hS dX9_table_37 (fun H locs hP hD hS => ?_)
    refine lv_aload_n hx hb dX9_table_40 rfl (lv_at hl 0 rfl) ?_
    refine lv_dup hx hb dX9_table_41 rfl ?_
    refine gRX9_76 hx hb hown hts hK hP dX9_table_42 ?_
    refine lv_iconst (v := (1 : Int32)) hx hb dX9_table_45 (by decide) ?_
    refine lv_iadd hx hb dX9_table_46 ?_
    refine lv_topi (fun f_5 e_5 => ?_)
    have hw := hw f_5 e_5
    refine pRX9_76 hx hb hown hts hK hP hD hS dX9_table_47 (fun H locs hP hD hS => ?_)
    refine lv_aload_n hx hb dX9_table_50 rfl (lv_at hl 0 rfl) ?_
    refine gRX9_68 hx hb hown hts hK hP dX9_table_51 ?_
    refine lv_iconst (v := ((-1) : Int32)) hx hb dX9_table_54 (by decide) ?_
    refine wr_v (va_runV (As := [.int ((-1) : Int32)]) (rest := []) ⟨hx, hb, hml, hown, hts⟩ (c_X8_start l hw) (kRX9_100 (h := 0) hts (Nat.le_trans (Nat.le_of_ble_eq_true rfl) hRf) (Nat.le_trans (Nat.le_of_ble_eq_true rfl) hRl)) (preX8w hK hN hP hD) rfl rfl hl.1 rfl (lv_room (Nat.le_of_ble_eq_true rfl)) dX9_table_55 ⟨Nat.zero_le _, Nat.zero_le _⟩) hS (fun t H locs ht hw hS => ?_)
    obtain ⟨yat_6, yturns_6, ychanges_6, hw, hP⟩ := hw
    rw [ht] at hP
    have hP : va_P D vwCl (wC q cA Fc_unkept f_5 Pg_letters (0 : Int32) yfault_1 yrows_1 yinRow_1 ywidth_1 yentries_4 ystates_4 ycolumns_4 ymoves_4 ystables_4 yamiss_4 ynormal_4 Pt_lessers Pt_greaters Pt_size Lc_signals Lc_kept Lc_keptFrom Lc_candidates Lc_size Sc_signals Sc_codes Sc_size Ai_codes Ai_bits Cu_seen Cu_inThrees Cu_all Lo_asked Lo_ones Lo_sum Lo_wideSize Lo_sumSize Lo_flickers Lo_ready yat_6 yturns_6 ychanges_6) H := hP
    have hD : va_D A (wC q cA Fc_unkept f_5 Pg_letters (0 : Int32) yfault_1 yrows_1 yinRow_1 ywidth_1 yentries_4 ystates_4 ycolumns_4 ymoves_4 ystables_4 yamiss_4 ynormal_4 Pt_lessers Pt_greaters Pt_size Lc_signals Lc_kept Lc_keptFrom Lc_candidates Lc_size Sc_signals Sc_codes Sc_size Ai_codes Ai_bits Cu_seen Cu_inThrees Cu_all Lo_asked Lo_ones Lo_sum Lo_wideSize Lo_sumSize Lo_flickers Lo_ready yat_6 yturns_6 ychanges_6) := dC hD
    refine lv_aload_n hx hb dX9_table_58 rfl (lv_at hl 0 rfl) ?_
    refine gRX9_26 hx hb hown hts hK hP dX9_table_59 ?_
    refine wr_v (va_runV (As := []) (rest := []) ⟨hx, hb, hml, hown, hts⟩ (c_X6_empty l hw) (kRX9_104 (h := 0) hts (Nat.le_trans (Nat.le_of_ble_eq_true rfl) hRf) (Nat.le_trans (Nat.le_of_ble_eq_true rfl) hRl)) (preX6w hK hN hP hD) rfl rfl hl.1 rfl (lv_room (Nat.le_of_ble_eq_true rfl)) dX9_table_62 ⟨Nat.zero_le _, Nat.zero_le _⟩) hS (fun t H locs ht hw hS => ?_)
    obtain ⟨ysize_7, hw, hP⟩ := hw
    rw [ht] at hP
    have hP : va_P D vwCl (wC q cA Fc_unkept f_5 Pg_letters (0 : Int32) yfault_1 yrows_1 yinRow_1 ywidth_1 yentries_4 ystates_4 ycolumns_4 ymoves_4 ystables_4 yamiss_4 ynormal_4 Pt_lessers Pt_greaters ysize_7 Lc_signals Lc_kept Lc_keptFrom Lc_candidates Lc_size Sc_signals Sc_codes Sc_size Ai_codes Ai_bits Cu_seen Cu_inThrees Cu_all Lo_asked Lo_ones Lo_sum Lo_wideSize Lo_sumSize Lo_flickers Lo_ready yat_6 yturns_6 ychanges_6) H := hP
    have hD : va_D A (wC q cA Fc_unkept f_5 Pg_letters (0 : Int32) yfault_1 yrows_1 yinRow_1 ywidth_1 yentries_4 ystates_4 ycolumns_4 ymoves_4 ystables_4 yamiss_4 ynormal_4 Pt_lessers Pt_greaters ysize_7 Lc_signals Lc_kept Lc_keptFrom Lc_candidates Lc_size Sc_signals Sc_codes Sc_size Ai_codes Ai_bits Cu_seen Cu_inThrees Cu_all Lo_asked Lo_ones Lo_sum Lo_wideSize Lo_sumSize Lo_flickers Lo_ready yat_6 yturns_6 ychanges_6) := dC hD
    refine lv_aload_n hx hb dX9_table_65 rfl (lv_at hl 0 rfl) ?_
    refine gRX9_33 hx hb hown hts hK hP dX9_table_66 ?_
    refine wr_v (va_runV (As := []) (rest := []) ⟨hx, hb, hml, hown, hts⟩ (c_X3_forget l hw) (kRX9_107 (h := 0) hts (Nat.le_trans (Nat.le_of_ble_eq_true rfl) hRf) (Nat.le_trans (Nat.le_of_ble_eq_true rfl) hRl)) (preX3w hK hN hP hD) rfl rfl hl.1 rfl (lv_room (Nat.le_of_ble_eq_true rfl)) dX9_table_69 ⟨Nat.zero_le _, Nat.zero_le _⟩) hS (fun t H locs ht hw hS => ?_)
    obtain ⟨ysize_8, hw, hP⟩ := hw
    rw [ht] at hP
    have hP : va_P D vwCl (wC q cA Fc_unkept f_5 Pg_letters (0 : Int32) yfault_1 yrows_1 yinRow_1 ywidth_1 yentries_4 ystates_4 ycolumns_4 ymoves_4 ystables_4 yamiss_4 ynormal_4 Pt_lessers Pt_greaters ysize_7 Lc_signals Lc_kept Lc_keptFrom Lc_candidates ysize_8 Sc_signals Sc_codes Sc_size Ai_codes Ai_bits Cu_seen Cu_inThrees Cu_all Lo_asked Lo_ones Lo_sum Lo_wideSize Lo_sumSize Lo_flickers Lo_ready yat_6 yturns_6 ychanges_6) H := hP
    have hD : va_D A (wC q cA Fc_unkept f_5 Pg_letters (0 : Int32) yfault_1 yrows_1 yinRow_1 ywidth_1 yentries_4 ystates_4 ycolumns_4 ymoves_4 ystables_4 yamiss_4 ynormal_4 Pt_lessers Pt_greaters ysize_7 Lc_signals Lc_kept Lc_keptFrom Lc_candidates ysize_8 Sc_signals Sc_codes Sc_size Ai_codes Ai_bits Cu_seen Cu_inThrees Cu_all Lo_asked Lo_ones Lo_sum Lo_wideSize Lo_sumSize Lo_flickers Lo_ready yat_6 yturns_6 ychanges_6) := dC hD
    refine lv_aload_n hx hb dX9_table_72 rfl (lv_at hl 0 rfl) ?_
    refine gRX9_19 hx hb hown hts hK hP dX9_table_73 ?_
    refine gRX9_110 hx hb hown hts hK hN hP dX9_table_76 ?_
    refine lv_if_eq (tgt := 111) hx hb dX9_table_79 (by decide) (fun c_9 => ?_) (fun c_9 => ?_)
    · have hw := hw.1 c_9
      exact t_X9_table_111 X hK hN hw ls _ _ (lv_sub hl [0] rfl) hP hD hS
    · have hw := hw.2 c_9
      refine lv_aload_n hx hb dX9_table_82 rfl (lv_at hl 0 rfl) ?_
      refine gRX9_26 hx hb hown hts hK hP dX9_table_83 ?_
      refine lv_aload_n hx hb dX9_table_86 rfl (lv_at hl 0 rfl) ?_
      refine gRX9_19 hx hb hown hts hK hP dX9_table_87 ?_
      refine wr_v (va_runV (As := [.ref (q 3)]) (rest := []) ⟨hx, hb, hml, hown, hts⟩ (c_X6_gather l hw) (kRX9_114 (h := 4) hts (Nat.le_trans (Nat.le_of_ble_eq_true rfl) hRf) (Nat.le_trans (Nat.le_of_ble_eq_true rfl) hRl)) (preX6w hK hN hP hD) rfl rfl hl.1 rfl (lv_room (Nat.le_of_ble_eq_true rfl)) dX9_table_90 ⟨Nat.zero_le _, Nat.zero_le _⟩) hS (fun t H locs ht hw hS => ?_)
      obtain ⟨ylessers_12, ygreaters_12, ysize_12, hw, hP⟩ := hw
      rw [ht] at hP
      have hP : va_P D vwCl (wC q cA Fc_unkept f_5 Pg_letters (0 : Int32) yfault_1 yrows_1 yinRow_1 ywidth_1 yentries_4 ystates_4 ycolumns_4 ymoves_4 ystables_4 yamiss_4 ynormal_4 ylessers_12 ygreaters_12 ysize_12 Lc_signals Lc_kept Lc_keptFrom Lc_candidates ysize_8 Sc_signals Sc_codes Sc_size Ai_codes Ai_bits Cu_seen Cu_inThrees Cu_all Lo_asked Lo_ones Lo_sum Lo_wideSize Lo_sumSize Lo_flickers Lo_ready yat_6 yturns_6 ychanges_6) H := hP
      have hD : va_D A (wC q cA Fc_unkept f_5 Pg_letters (0 : Int32) yfault_1 yrows_1 yinRow_1 ywidth_1 yentries_4 ystates_4 ycolumns_4 ymoves_4 ystables_4 yamiss_4 ynormal_4 ylessers_12 ygreaters_12 ysize_12 Lc_signals Lc_kept Lc_keptFrom Lc_candidates ysize_8 Sc_signals Sc_codes Sc_size Ai_codes Ai_bits Cu_seen Cu_inThrees Cu_all Lo_asked Lo_ones Lo_sum Lo_wideSize Lo_sumSize Lo_flickers Lo_ready yat_6 yturns_6 ychanges_6) := dC hD
      refine lv_aload_n hx hb dX9_table_93 rfl (lv_at hl 0 rfl) ?_
      refine gRX9_33 hx hb hown hts hK hP dX9_table_94 ?_
      refine lv_aload_n hx hb dX9_table_97 rfl (lv_at hl 0 rfl) ?_
      refine gRX9_19 hx hb hown hts hK hP dX9_table_98 ?_
      refine gRX9_118 hx hb hown hts hK hN hP dX9_table_101 ?_
      refine lv_aload_n hx hb dX9_table_104 rfl (lv_at hl 0 rfl) ?_
      refine gRX9_26 hx hb hown hts hK hP dX9_table_105 ?_
      refine wr_v (va_runV (As := [.int ystates_4, .ref (q 5)]) (rest := []) ⟨hx, hb, hml, hown, hts⟩ (c_X3_find l hw) (kRX9_121 (h := 8) hts (Nat.le_trans (Nat.le_of_ble_eq_true rfl) hRf) (Nat.le_trans (Nat.le_of_ble_eq_true rfl) hRl)) (preX3w hK hN hP hD) rfl rfl hl.1 rfl (lv_room (Nat.le_of_ble_eq_true rfl)) dX9_table_108 ⟨Nat.zero_le _, Nat.zero_le _⟩) hS (fun t H locs ht hw hS => ?_)
      obtain ⟨ysignals_13, ykept_13, ykeptFrom_13, ycandidates_13, ysize_13, hw, hP⟩ := hw
      rw [ht] at hP
      have hP : va_P D vwCl (wC q cA Fc_unkept f_5 Pg_letters (0 : Int32) yfault_1 yrows_1 yinRow_1 ywidth_1 yentries_4 ystates_4 ycolumns_4 ymoves_4 ystables_4 yamiss_4 ynormal_4 ylessers_12 ygreaters_12 ysize_12 ysignals_13 ykept_13 ykeptFrom_13 ycandidates_13 ysize_13 Sc_signals Sc_codes Sc_size Ai_codes Ai_bits Cu_seen Cu_inThrees Cu_all Lo_asked Lo_ones Lo_sum Lo_wideSize Lo_sumSize Lo_flickers Lo_ready yat_6 yturns_6 ychanges_6) H := hP
      have hD : va_D A (wC q cA Fc_unkept f_5 Pg_letters (0 : Int32) yfault_1 yrows_1 yinRow_1 ywidth_1 yentries_4 ystates_4 ycolumns_4 ymoves_4 ystables_4 yamiss_4 ynormal_4 ylessers_12 ygreaters_12 ysize_12 ysignals_13 ykept_13 ykeptFrom_13 ycandidates_13 ysize_13 Sc_signals Sc_codes Sc_size Ai_codes Ai_bits Cu_seen Cu_inThrees Cu_all Lo_asked Lo_ones Lo_sum Lo_wideSize Lo_sumSize Lo_flickers Lo_ready yat_6 yturns_6 ychanges_6) := dC hD
      exact t_X9_table_111 X hK hN hw ls _ _ (lv_sub hl [0] rfl) hP hD hS
  · have hw := hw.1 c_3
    refine lv_sipush (v := ((-1003) : Int32)) hx hb dX9_table_17 (by decide +kernel) ?_
    exact rw_i hx hb hr hlocks (fun t ht => ⟨Fc_unkept, Fc_tablesRead, Pg_size, yfault_1, yrows_1, yinRow_1, ywidth_1, Fl_entries, Fl_states, Fl_columns, Fl_moves, Fl_stables, Fl_amiss, Fl_normal, Pt_lessers, Pt_greaters, Pt_size, Lc_signals, Lc_kept, Lc_keptFrom, Lc_candidates, Lc_size, Sc_signals, Sc_codes, Sc_size, Ai_codes, Ai_bits, Lo_ready, Wa_at, Wa_turns, Wa_changes, hw, by rw [ht]; exact hP⟩) hS dX9_table_20
set_option maxHeartbeats 4000000 in
set_option maxRecDepth 100000 in
theorem c_X10_entryAt (l : Launch) {D : va_G} {q : Nat → Nat} {cA : Nat → ClassId} {i_pageLength : Int32} {a_page : Nat → Int32} {i_states : Int32} {i_columns : Int32} {a_entries : Nat → Int32} {i_signals : Int32} {a_signalAt : Nat → Int32} {i_walksAt : Int32} {i_turned : Int32} {i_changed : Int32} {i_read : Int32} {i_newRows : Int32} {i_newEntries : Int32} {i_newColumns : Int32} {i_greatest : Int32} {a_newAt : Nat → Int32} {i_partings : Int32} {a_lowSet : Nat → Int32} {a_highSet : Nat → Int32} {i_leastMany : Int32} {a_leastAt : Nat → Int32} {a_tried : Nat → Int32} {a_keptLow : Nat → Int64} {a_keptHigh : Nat → Int64} {i_laid : Int32} {a_wants : Nat → Int32} {i_wide : Int32} {a_wideAsked : Nat → Int32} {a_wideOnes : Nat → Int32} {i_sum : Int32} {i_flickers : Int32} {a_sumAt : Nat → Int32} {j_h : Int64} {post : Int32 → Prop} {x1 : Int32} {x2 : Int32} (hw : wp_X10_entryAt post a_entries x1 x2) : Met l yX10_entryAt (Cond.code yX10_entryAt cX10_entryAt 3 (some .int) :: wsL_law) (rmH 0) (va_Pc [.ref (q 0), .int x1, .int x2] (fun U => va_P D vwCl (wM q cA i_pageLength a_page i_states i_columns a_entries i_signals a_signalAt i_walksAt i_turned i_changed i_read i_newRows i_newEntries i_newColumns i_greatest a_newAt i_partings a_lowSet a_highSet i_leastMany a_leastAt a_tried a_keptLow a_keptHigh i_laid a_wants i_wide a_wideAsked a_wideOnes i_sum i_flickers a_sumAt j_h) U.heap ∧ va_K D vwCl (tyM cA) U)) (qRi post) 0 0 (fun _ => False) := by
  refine Met.ofW (cc := cX10_entryAt) (maxL := 3) (ret := (some .int)) (by decide) rfl ?_
  intro p e s m args below meth c s₁ B hml hv
  obtain ⟨rfl, hP, hK⟩ := hv
  have X : kC p (headSpec (Cond.code yX10_entryAt cX10_entryAt 3 (some .int) :: wsL_law) (rmH 0)).room s m _ meth c cX10_entryAt RX10 3 (some .int) 0 := ⟨B.exec, B.bytes, hml, findClass_of_methodNamed B.named, fun w h => atoms_spec (ws := Cond.code yX10_entryAt cX10_entryAt 3 (some .int) :: wsL_law) B.pre w (List.mem_cons_of_mem _ h), B.returns, B.notSynchronized, Nat.le_refl _, Nat.le_refl _⟩
  obtain ⟨hx, hb, hml, hown, hts, hr, hlocks, hRf, hRl⟩ := id X
  have hl := lv_entry ([.ref (q 0), .int x1, .int x2]) (n := 3) (Nat.le_of_ble_eq_true rfl)
  rw [lg_entry_eq]
  generalize (lg_sl ([.ref (q 0), .int x1, .int x2]) ++ List.replicate (3 - (lg_sl ([.ref (q 0), .int x1, .int x2])).length) Slot.unset).toArray = ls at hl ⊢
  have hl : lv_has ls 3 [(0, .ref (q 0)), (1, .int x1), (2, .int x2)] := hl
  refine lv_aload_n hx hb dX10_entryAt_0 rfl (lv_at hl 0 rfl) ?_
  refine gRX10_13 hx hb hown hts hK hP dX10_entryAt_1 ?_
  refine lv_iconst (v := (4 : Int32)) hx hb dX10_entryAt_4 (by decide) ?_
  refine lv_iload_n hx hb dX10_entryAt_5 rfl (lv_at hl 1 rfl) ?_
  refine lv_imul hx hb dX10_entryAt_6 ?_
  refine lv_iload_n hx hb dX10_entryAt_7 rfl (lv_at hl 2 rfl) ?_
  refine lv_iadd hx hb dX10_entryAt_8 ?_
  have h_1 := hw.1
  have hw := hw.2
  refine ld_a_entries hx hb hK hP h_1 dX10_entryAt_9 ?_
  exact rt_i hx hb hr hlocks hw dX10_entryAt_10
set_option maxHeartbeats 4000000 in
set_option maxRecDepth 100000 in
theorem t_X10_amiss_12 {p : Program} {l : Launch} {e : Env} {R : Room} {s : State} {m : MethodId} {args : Array Value} {below : List Frame} {meth : Method} {c : Code} {D : va_G} {q : Nat → Nat} {cA : Nat → ClassId} {i_pageLength : Int32} {a_page : Nat → Int32} {i_states : Int32} {i_columns : Int32} {a_entries : Nat → Int32} {i_signals : Int32} {a_signalAt : Nat → Int32} {i_walksAt : Int32} {i_turned : Int32} {i_changed : Int32} {i_read : Int32} {i_newRows : Int32} {i_newEntries : Int32} {i_newColumns : Int32} {i_greatest : Int32} {a_newAt : Nat → Int32} {i_partings : Int32} {a_lowSet : Nat → Int32} {a_highSet : Nat → Int32} {i_leastMany : Int32} {a_leastAt : Nat → Int32} {a_tried : Nat → Int32} {a_keptLow : Nat → Int64} {a_keptHigh : Nat → Int64} {i_laid : Int32} {a_wants : Nat → Int32} {i_wide : Int32} {a_wideAsked : Nat → Int32} {a_wideOnes : Nat → Int32} {i_sum : Int32} {i_flickers : Int32} {a_sumAt : Nat → Int32} {j_h : Int64} {post : Int32 → Prop} {KE : Prop} {x1 : Int32} (X : kC p R s m args meth c cX10_amiss RX10 4 (some .int) 1) (hK : va_K D vwCl (tyM cA) s) (hP : va_P D vwCl (wM q cA i_pageLength a_page i_states i_columns a_entries i_signals a_signalAt i_walksAt i_turned i_changed i_read i_newRows i_newEntries i_newColumns i_greatest a_newAt i_partings a_lowSet a_highSet i_leastMany a_leastAt a_tried a_keptLow a_keptHigh i_laid a_wants i_wide a_wideAsked a_wideOnes i_sum i_flickers a_sumAt j_h) s.heap) (hE : KE  → ∀ (ls : Array Slot), lv_has ls 4 [(0, .ref (q 0)), (1, .int x1)] → W p l e R s m args below meth c s.heap [] 0 0 (MQ below (qRi post) args s 0 0 (fun _ => False)) (F0 m 54 ls [])) : ∀ (n : Nat) (x2 : Int32), w_X10_amiss_12 post KE i_columns a_entries x1 n x2 → ∀ (ls : Array Slot), lv_has ls 4 [(0, .ref (q 0)), (1, .int x1), (2, .int x2)] → W p l e R s m args below meth c s.heap [] 0 0 (MQ below (qRi post) args s 0 0 (fun _ => False)) (F0 m 12 ls []) := by
  obtain ⟨hx, hb, hml, hown, hts, hr, hlocks, hRf, hRl⟩ := id X
  intro n
  induction n with
  | zero => intro x2 hw; exact (show False from hw).elim
  | succ n ih =>
    intro x2 hw ls hl
    refine lv_iload_n hx hb dX10_amiss_12 rfl (lv_at hl 2 rfl) ?_
    refine lv_aload_n hx hb dX10_amiss_13 rfl (lv_at hl 0 rfl) ?_
    refine gRX10_90 hx hb hown hts hK hP dX10_amiss_14 ?_
    refine lv_icmp_ge (tgt := 54) hx hb dX10_amiss_17 (by decide) (fun c_2 => ?_) (fun c_2 => ?_)
    · have hw := hw.1 c_2
      exact hE hw ls (lv_sub hl [0, 1] rfl)
    · have hw := hw.2 c_2
      refine lv_aload_n hx hb dX10_amiss_20 rfl (lv_at hl 0 rfl) ?_
      refine lv_iload_n hx hb dX10_amiss_21 rfl (lv_at hl 1 rfl) ?_
      refine lv_iload_n hx hb dX10_amiss_22 rfl (lv_at hl 2 rfl) ?_
      refine ro_i (va_runV (As := [.int x1, .int x2]) (rest := []) ⟨hx, hb, hml, hown, hts⟩ (c_X10_entryAt l hw) (kRX10_118 (h := 0) hts (Nat.le_trans (Nat.le_of_ble_eq_true rfl) hRf) (Nat.le_trans (Nat.le_of_ble_eq_true rfl) hRl)) (preM hK hP) rfl rfl hl.1 rfl (lv_room (Nat.le_of_ble_eq_true rfl)) dX10_amiss_23 ⟨Nat.zero_le _, Nat.zero_le _⟩) (fun r_3 hw => ?_)
      refine lv_istore_n (lv' := [(3, .int r_3), (0, .ref (q 0)), (1, .int x1), (2, .int x2)]) hx hb dX10_amiss_26 rfl hl (by decide) rfl (fun ls hl => ?_)
      refine lv_iload_n hx hb dX10_amiss_27 rfl (lv_at hl 0 rfl) ?_
      refine lv_iconst (v := ((-1) : Int32)) hx hb dX10_amiss_28 (by decide) ?_
      refine lv_icmp_eq (tgt := 48) hx hb dX10_amiss_29 (by decide) (fun c_4 => ?_) (fun c_4 => ?_)
      · have hw := hw.1 c_4
        obtain ⟨x2_5, e_5⟩ : ∃ z : Int32, z = x2 + (1 : Int32) := ⟨_, rfl⟩
        have hw := hw x2_5 e_5
        refine lv_iinc (v := x2_5) (lv' := [(2, .int x2_5), (3, .int r_3), (0, .ref (q 0)), (1, .int x1)]) hx hb dX10_amiss_48 hl (k := 3) rfl (by rw [e_5]; rfl) (by decide) rfl (fun ls hl => ?_)
        refine lv_goto (tgt := 12) hx hb dX10_amiss_51 (by decide) ?_
        exact ih _ hw ls (lv_sub hl [2, 3, 0] rfl)
      · have hw := hw.2 c_4
        refine lv_aload_n hx hb dX10_amiss_32 rfl (lv_at hl 1 rfl) ?_
        refine lv_iload_n hx hb dX10_amiss_33 rfl (lv_at hl 0 rfl) ?_
        refine lv_iload_n hx hb dX10_amiss_34 rfl (lv_at hl 3 rfl) ?_
        refine ro_i (va_runV (As := [.int r_3, .int x2]) (rest := []) ⟨hx, hb, hml, hown, hts⟩ (c_X10_entryAt l hw) (kRX10_118 (h := 0) hts (Nat.le_trans (Nat.le_of_ble_eq_true rfl) hRf) (Nat.le_trans (Nat.le_of_ble_eq_true rfl) hRl)) (preM hK hP) rfl rfl hl.1 rfl (lv_room (Nat.le_of_ble_eq_true rfl)) dX10_amiss_35 ⟨Nat.zero_le _, Nat.zero_le _⟩) (fun r_6 hw => ?_)
        refine lv_iload_n hx hb dX10_amiss_38 rfl (lv_at hl 0 rfl) ?_
        refine lv_icmp_eq (tgt := 48) hx hb dX10_amiss_39 (by decide) (fun c_7 => ?_) (fun c_7 => ?_)
        · have hw := hw.1 c_7
          obtain ⟨x2_8, e_8⟩ : ∃ z : Int32, z = x2 + (1 : Int32) := ⟨_, rfl⟩
          have hw := hw x2_8 e_8
          refine lv_iinc (v := x2_8) (lv' := [(2, .int x2_8), (3, .int r_3), (0, .ref (q 0)), (1, .int x1)]) hx hb dX10_amiss_48 hl (k := 3) rfl (by rw [e_8]; rfl) (by decide) rfl (fun ls hl => ?_)
          refine lv_goto (tgt := 12) hx hb dX10_amiss_51 (by decide) ?_
          exact ih _ hw ls (lv_sub hl [2, 3, 0] rfl)
        · have hw := hw.2 c_7
          refine lv_iconst (v := (4 : Int32)) hx hb dX10_amiss_42 (by decide) ?_
          refine lv_iload_n hx hb dX10_amiss_43 rfl (lv_at hl 2 rfl) ?_
          refine lv_imul hx hb dX10_amiss_44 ?_
          refine lv_iload_n hx hb dX10_amiss_45 rfl (lv_at hl 3 rfl) ?_
          refine lv_iadd hx hb dX10_amiss_46 ?_
          exact rt_i hx hb hr hlocks hw dX10_amiss_47
set_option maxHeartbeats 4000000 in
set_option maxRecDepth 100000 in
theorem t_X10_amiss_2 {p : Program} {l : Launch} {e : Env} {R : Room} {s : State} {m : MethodId} {args : Array Value} {below : List Frame} {meth : Method} {c : Code} {D : va_G} {q : Nat → Nat} {cA : Nat → ClassId} {i_pageLength : Int32} {a_page : Nat → Int32} {i_states : Int32} {i_columns : Int32} {a_entries : Nat → Int32} {i_signals : Int32} {a_signalAt : Nat → Int32} {i_walksAt : Int32} {i_turned : Int32} {i_changed : Int32} {i_read : Int32} {i_newRows : Int32} {i_newEntries : Int32} {i_newColumns : Int32} {i_greatest : Int32} {a_newAt : Nat → Int32} {i_partings : Int32} {a_lowSet : Nat → Int32} {a_highSet : Nat → Int32} {i_leastMany : Int32} {a_leastAt : Nat → Int32} {a_tried : Nat → Int32} {a_keptLow : Nat → Int64} {a_keptHigh : Nat → Int64} {i_laid : Int32} {a_wants : Nat → Int32} {i_wide : Int32} {a_wideAsked : Nat → Int32} {a_wideOnes : Nat → Int32} {i_sum : Int32} {i_flickers : Int32} {a_sumAt : Nat → Int32} {j_h : Int64} {post : Int32 → Prop} {KE : Prop} (X : kC p R s m args meth c cX10_amiss RX10 4 (some .int) 1) (hK : va_K D vwCl (tyM cA) s) (hP : va_P D vwCl (wM q cA i_pageLength a_page i_states i_columns a_entries i_signals a_signalAt i_walksAt i_turned i_changed i_read i_newRows i_newEntries i_newColumns i_greatest a_newAt i_partings a_lowSet a_highSet i_leastMany a_leastAt a_tried a_keptLow a_keptHigh i_laid a_wants i_wide a_wideAsked a_wideOnes i_sum i_flickers a_sumAt j_h) s.heap) (hE : KE  → ∀ (ls : Array Slot), lv_has ls 4 [] → W p l e R s m args below meth c s.heap [] 0 0 (MQ below (qRi post) args s 0 0 (fun _ => False)) (F0 m 60 ls [])) : ∀ (n : Nat) (x1 : Int32), w_X10_amiss_2 post KE i_states i_columns a_entries n x1 → ∀ (ls : Array Slot), lv_has ls 4 [(0, .ref (q 0)), (1, .int x1)] → W p l e R s m args below meth c s.heap [] 0 0 (MQ below (qRi post) args s 0 0 (fun _ => False)) (F0 m 2 ls []) := by
  obtain ⟨hx, hb, hml, hown, hts, hr, hlocks, hRf, hRl⟩ := id X
  intro n
  induction n with
  | zero => intro x1 hw; exact (show False from hw).elim
  | succ n ih =>
    intro x1 hw ls hl
    refine lv_iload_n hx hb dX10_amiss_2 rfl (lv_at hl 1 rfl) ?_
    refine lv_aload_n hx hb dX10_amiss_3 rfl (lv_at hl 0 rfl) ?_
    refine gRX10_87 hx hb hown hts hK hP dX10_amiss_4 ?_
    refine lv_icmp_ge (tgt := 60) hx hb dX10_amiss_7 (by decide) (fun c_1 => ?_) (fun c_1 => ?_)
    · have hw := hw.1 c_1
      exact hE hw ls (lv_sub hl [] rfl)
    · have hw := hw.2 c_1
      refine lv_iconst (v := (0 : Int32)) hx hb dX10_amiss_10 (by decide) ?_
      refine lv_istore_n (lv' := [(2, .int (0 : Int32)), (0, .ref (q 0)), (1, .int x1)]) hx hb dX10_amiss_11 rfl hl (by decide) rfl (fun ls hl => ?_)
      obtain ⟨n_9, hw⟩ := hw
      refine t_X10_amiss_12 X hK hP (fun  hw ls hl => ?_) n_9 _ hw ls (lv_sub hl [1, 2, 0] rfl)
      obtain ⟨x1_10, e_10⟩ : ∃ z : Int32, z = x1 + (1 : Int32) := ⟨_, rfl⟩
      have hw := hw x1_10 e_10
      refine lv_iinc (v := x1_10) (lv' := [(1, .int x1_10), (0, .ref (q 0))]) hx hb dX10_amiss_54 hl (k := 1) rfl (by rw [e_10]; rfl) (by decide) rfl (fun ls hl => ?_)
      refine lv_goto (tgt := 2) hx hb dX10_amiss_57 (by decide) ?_
      exact ih _ hw ls (lv_sub hl [1, 0] rfl)
set_option maxHeartbeats 4000000 in
set_option maxRecDepth 100000 in
theorem c_X10_amiss (l : Launch) {D : va_G} {q : Nat → Nat} {cA : Nat → ClassId} {i_pageLength : Int32} {a_page : Nat → Int32} {i_states : Int32} {i_columns : Int32} {a_entries : Nat → Int32} {i_signals : Int32} {a_signalAt : Nat → Int32} {i_walksAt : Int32} {i_turned : Int32} {i_changed : Int32} {i_read : Int32} {i_newRows : Int32} {i_newEntries : Int32} {i_newColumns : Int32} {i_greatest : Int32} {a_newAt : Nat → Int32} {i_partings : Int32} {a_lowSet : Nat → Int32} {a_highSet : Nat → Int32} {i_leastMany : Int32} {a_leastAt : Nat → Int32} {a_tried : Nat → Int32} {a_keptLow : Nat → Int64} {a_keptHigh : Nat → Int64} {i_laid : Int32} {a_wants : Nat → Int32} {i_wide : Int32} {a_wideAsked : Nat → Int32} {a_wideOnes : Nat → Int32} {i_sum : Int32} {i_flickers : Int32} {a_sumAt : Nat → Int32} {j_h : Int64} {post : Int32 → Prop}  (hw : wp_X10_amiss post i_states i_columns a_entries ) : Met l yX10_amiss (Cond.code yX10_amiss cX10_amiss 4 (some .int) :: wsL_law) (rmH 1) (va_Pc [.ref (q 0)] (fun U => va_P D vwCl (wM q cA i_pageLength a_page i_states i_columns a_entries i_signals a_signalAt i_walksAt i_turned i_changed i_read i_newRows i_newEntries i_newColumns i_greatest a_newAt i_partings a_lowSet a_highSet i_leastMany a_leastAt a_tried a_keptLow a_keptHigh i_laid a_wants i_wide a_wideAsked a_wideOnes i_sum i_flickers a_sumAt j_h) U.heap ∧ va_K D vwCl (tyM cA) U)) (qRi post) 0 0 (fun _ => False) := by
  refine Met.ofW (cc := cX10_amiss) (maxL := 4) (ret := (some .int)) (by decide) rfl ?_
  intro p e s m args below meth c s₁ B hml hv
  obtain ⟨rfl, hP, hK⟩ := hv
  have X : kC p (headSpec (Cond.code yX10_amiss cX10_amiss 4 (some .int) :: wsL_law) (rmH 1)).room s m _ meth c cX10_amiss RX10 4 (some .int) 1 := ⟨B.exec, B.bytes, hml, findClass_of_methodNamed B.named, fun w h => atoms_spec (ws := Cond.code yX10_amiss cX10_amiss 4 (some .int) :: wsL_law) B.pre w (List.mem_cons_of_mem _ h), B.returns, B.notSynchronized, Nat.le_refl _, Nat.le_refl _⟩
  obtain ⟨hx, hb, hml, hown, hts, hr, hlocks, hRf, hRl⟩ := id X
  have hl := lv_entry ([.ref (q 0)]) (n := 4) (Nat.le_of_ble_eq_true rfl)
  rw [lg_entry_eq]
  generalize (lg_sl ([.ref (q 0)]) ++ List.replicate (4 - (lg_sl ([.ref (q 0)])).length) Slot.unset).toArray = ls at hl ⊢
  have hl : lv_has ls 4 [(0, .ref (q 0))] := hl
  refine lv_iconst (v := (0 : Int32)) hx hb dX10_amiss_0 (by decide) ?_
  refine lv_istore_n (lv' := [(1, .int (0 : Int32)), (0, .ref (q 0))]) hx hb dX10_amiss_1 rfl hl (by decide) rfl (fun ls hl => ?_)
  obtain ⟨n_11, hw⟩ := hw
  refine t_X10_amiss_2 X hK hP (fun  hw ls hl => ?_) n_11 _ hw ls (lv_sub hl [1, 0] rfl)
  refine lv_iconst (v := ((-1) : Int32)) hx hb dX10_amiss_60 (by decide) ?_
  exact rt_i hx hb hr hlocks hw dX10_amiss_61
