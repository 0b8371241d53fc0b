abbrev Z_X9_turn (D : va_G) (q : Nat → Nat) (cA : Nat → ClassId) (Fc_unkept : Int32) (Fc_tablesRead : Int32) (Pg_letters : Nat → Int32) (Pg_size : Int32) (Pg_fault : Int32) (Pg_rows : Int32) (Pg_inRow : Int32) (Pg_width : Int32) (Fl_entries : Nat → Int32) (Fl_states : Int32) (Fl_columns : Int32) (Fl_moves : Int32) (Fl_stables : Int32) (Fl_amiss : Int32) (Fl_normal : Int32) (Pt_lessers : Nat → Int32) (Pt_greaters : Nat → Int32) (Pt_size : Int32) (Lc_signals : Nat → Int32) (Lc_kept : Nat → Int64) (Lc_keptFrom : Nat → Int64) (Lc_candidates : Int32) (Lc_size : Int32) (Sc_signals : Nat → Int32) (Sc_codes : Nat → Int32) (Sc_size : Int32) (Ai_codes : Nat → Int32) (Ai_bits : Int32) (Cu_seen : Nat → Int32) (Cu_inThrees : Nat → Int32) (Cu_all : Int32) (Lo_asked : Nat → Nat → Int32) (Lo_ones : Nat → Nat → Int32) (Lo_sum : Nat → Nat → Int32) (Lo_wideSize : Nat → Int32) (Lo_sumSize : Nat → Int32) (Lo_flickers : Nat → Int32) (Lo_ready : Nat → Int32) (post : Int32 → Int32 → Int32 → Int32 → Prop) : Int32 → State → Prop := fun r t => ∃ (y_Wa_at : Int32) (y_Wa_turns : Int32) (y_Wa_changes : Int32), post r y_Wa_at y_Wa_turns y_Wa_changes ∧ va_P D vwCl (wC q cA Fc_unkept Fc_tablesRead Pg_letters Pg_size Pg_fault Pg_rows Pg_inRow Pg_width Fl_entries Fl_states Fl_columns Fl_moves Fl_stables Fl_amiss Fl_normal Pt_lessers Pt_greaters Pt_size Lc_signals Lc_kept Lc_keptFrom Lc_candidates Lc_size Sc_signals Sc_codes Sc_size Ai_codes Ai_bits Cu_seen Cu_inThrees Cu_all Lo_asked Lo_ones Lo_sum Lo_wideSize Lo_sumSize Lo_flickers Lo_ready y_Wa_at y_Wa_turns y_Wa_changes) t.heap
set_option maxHeartbeats 4000000 in
set_option maxRecDepth 100000 in
theorem c_X9_turn (l : Launch) {D : va_G} {q : Nat → Nat} {cA : Nat → ClassId} {Fc_unkept : Int32} {Fc_tablesRead : Int32} {Pg_letters : Nat → Int32} {Pg_size : Int32} {Pg_fault : Int32} {Pg_rows : Int32} {Pg_inRow : Int32} {Pg_width : Int32} {Fl_entries : Nat → Int32} {Fl_states : Int32} {Fl_columns : Int32} {Fl_moves : Int32} {Fl_stables : Int32} {Fl_amiss : Int32} {Fl_normal : Int32} {Pt_lessers : Nat → Int32} {Pt_greaters : Nat → Int32} {Pt_size : Int32} {Lc_signals : Nat → Int32} {Lc_kept : Nat → Int64} {Lc_keptFrom : Nat → Int64} {Lc_candidates : Int32} {Lc_size : Int32} {Sc_signals : Nat → Int32} {Sc_codes : Nat → Int32} {Sc_size : Int32} {Ai_codes : Nat → Int32} {Ai_bits : Int32} {Cu_seen : Nat → Int32} {Cu_inThrees : Nat → Int32} {Cu_all : Int32} {Lo_asked : Nat → Nat → Int32} {Lo_ones : Nat → Nat → Int32} {Lo_sum : Nat → Nat → Int32} {Lo_wideSize : Nat → Int32} {Lo_sumSize : Nat → Int32} {Lo_flickers : Nat → Int32} {Lo_ready : Nat → Int32} {Wa_at : Int32} {Wa_turns : Int32} {Wa_changes : Int32} {A : Nat → Prop} {post : Int32 → Int32 → Int32 → Int32 → Prop} {x1 : Int32} (hw : wp_X9_turn post Fl_entries Fl_states Fl_columns Sc_codes Wa_at Wa_turns Wa_changes x1) : Met l yX9_turn (Cond.code yX9_turn cX9_turn 3 (some .int) :: wsL_law) (rmH 2) (va_Pc [.ref (q 0), .int x1] (fun U => va_P D vwCl (wC q cA Fc_unkept Fc_tablesRead Pg_letters Pg_size Pg_fault Pg_rows Pg_inRow Pg_width Fl_entries Fl_states Fl_columns Fl_moves Fl_stables Fl_amiss Fl_normal Pt_lessers Pt_greaters Pt_size Lc_signals Lc_kept Lc_keptFrom Lc_candidates Lc_size Sc_signals Sc_codes Sc_size Ai_codes Ai_bits Cu_seen Cu_inThrees Cu_all Lo_asked Lo_ones Lo_sum Lo_wideSize Lo_sumSize Lo_flickers Lo_ready Wa_at Wa_turns Wa_changes) U.heap ∧ va_K D vwCl (tyC cA) U ∧ nwC U ∧ va_D A (wC q cA Fc_unkept Fc_tablesRead Pg_letters Pg_size Pg_fault Pg_rows Pg_inRow Pg_width Fl_entries Fl_states Fl_columns Fl_moves Fl_stables Fl_amiss Fl_normal Pt_lessers Pt_greaters Pt_size Lc_signals Lc_kept Lc_keptFrom Lc_candidates Lc_size Sc_signals Sc_codes Sc_size Ai_codes Ai_bits Cu_seen Cu_inThrees Cu_all Lo_asked Lo_ones Lo_sum Lo_wideSize Lo_sumSize Lo_flickers Lo_ready Wa_at Wa_turns Wa_changes))) (qWi (Z_X9_turn D q cA Fc_unkept Fc_tablesRead Pg_letters Pg_size Pg_fault Pg_rows Pg_inRow Pg_width Fl_entries Fl_states Fl_columns Fl_moves Fl_stables Fl_amiss Fl_normal Pt_lessers Pt_greaters Pt_size Lc_signals Lc_kept Lc_keptFrom Lc_candidates Lc_size Sc_signals Sc_codes Sc_size Ai_codes Ai_bits Cu_seen Cu_inThrees Cu_all Lo_asked Lo_ones Lo_sum Lo_wideSize Lo_sumSize Lo_flickers Lo_ready post) A) 0 0 A := by
  refine Met.ofW (cc := cX9_turn) (maxL := 3) (ret := (some .int)) (by decide) rfl ?_
  intro p e s m args below meth c s₁ B hml hv
  obtain ⟨rfl, hP, hK, hN, hD⟩ := hv
  have X : kC p (headSpec (Cond.code yX9_turn cX9_turn 3 (some .int) :: wsL_law) (rmH 2)).room s m _ meth c cX9_turn RX9 3 (some .int) 2 := ⟨B.exec, B.bytes, hml, findClass_of_methodNamed B.named, fun w h => atoms_spec (ws := Cond.code yX9_turn cX9_turn 3 (some .int) :: wsL_law) B.pre w (List.mem_cons_of_mem _ h), B.returns, B.notSynchronized, Nat.le_refl _, Nat.le_refl _⟩
  obtain ⟨hx, hb, hml, hown, hts, hr, hlocks, hRf, hRl⟩ := id X
  have hS : va_S A s.heap s.heap [] := va_S.rf
  have hl := lv_entry ([.ref (q 0), .int x1]) (n := 3) (Nat.le_of_ble_eq_true rfl)
  rw [lg_entry_eq]
  generalize (lg_sl ([.ref (q 0), .int x1]) ++ List.replicate (3 - (lg_sl ([.ref (q 0), .int x1])).length) Slot.unset).toArray = ls at hl ⊢
  have hl : lv_has ls 3 [(0, .ref (q 0)), (1, .int x1)] := hl
  refine lv_aload_n hx hb dX9_turn_0 rfl (lv_at hl 0 rfl) ?_
  refine gRX9_19 hx hb hown hts hK hP dX9_turn_1 ?_
  refine lv_iload_n hx hb dX9_turn_4 rfl (lv_at hl 1 rfl) ?_
  refine ro_i (va_runV (As := [.int x1]) (rest := []) ⟨hx, hb, hml, hown, hts⟩ (c_X2_hasColumn l hw) (kRX9_135 (h := 0) hts (Nat.le_trans (Nat.le_of_ble_eq_true rfl) hRf) (Nat.le_trans (Nat.le_of_ble_eq_true rfl) hRl)) (preX2 hK hN hP) rfl rfl hl.1 rfl (lv_room (Nat.le_of_ble_eq_true rfl)) dX9_turn_5 ⟨Nat.zero_le _, Nat.zero_le _⟩) (fun r_1 hw => ?_)
  refine lv_if_ne (tgt := 15) hx hb dX9_turn_8 (by decide) (fun c_2 => ?_) (fun c_2 => ?_)
  · have hw := hw.2 c_2
    refine lv_aload_n hx hb dX9_turn_15 rfl (lv_at hl 0 rfl) ?_
    refine gRX9_19 hx hb hown hts hK hP dX9_turn_16 ?_
    refine lv_aload_n hx hb dX9_turn_19 rfl (lv_at hl 0 rfl) ?_
    refine gRX9_68 hx hb hown hts hK hP dX9_turn_20 ?_
    refine gRX9_224 hx hb hown hts hK hN hP dX9_turn_23 ?_
    refine lv_iload_n hx hb dX9_turn_26 rfl (lv_at hl 1 rfl) ?_
    refine ro_i (va_runV (As := [.int Wa_at, .int x1]) (rest := []) ⟨hx, hb, hml, hown, hts⟩ (c_X2_next l hw) (kRX9_138 (h := 1) hts (Nat.le_trans (Nat.le_of_ble_eq_true rfl) hRf) (Nat.le_trans (Nat.le_of_ble_eq_true rfl) hRl)) (preX2 hK hN hP) rfl rfl hl.1 rfl (lv_room (Nat.le_of_ble_eq_true rfl)) dX9_turn_27 ⟨Nat.zero_le _, Nat.zero_le _⟩) (fun r_3 hw => ?_)
    refine lv_istore_n (lv' := [(2, .int r_3), (0, .ref (q 0)), (1, .int x1)]) hx hb dX9_turn_30 rfl hl (by decide) rfl (fun ls hl => ?_)
    refine lv_iload_n hx hb dX9_turn_31 rfl (lv_at hl 0 rfl) ?_
    refine lv_iconst (v := ((-1) : Int32)) hx hb dX9_turn_32 (by decide) ?_
    refine lv_icmp_ne (tgt := 40) hx hb dX9_turn_33 (by decide) (fun c_4 => ?_) (fun c_4 => ?_)
    · have hw := hw.2 c_4
      refine lv_aload_n hx hb dX9_turn_40 rfl (lv_at hl 1 rfl) ?_
      refine gRX9_68 hx hb hown hts hK hP dX9_turn_41 ?_
      refine lv_iload_n hx hb dX9_turn_44 rfl (lv_at hl 0 rfl) ?_
      refine lv_aload_n hx hb dX9_turn_45 rfl (lv_at hl 1 rfl) ?_
      refine gRX9_40 hx hb hown hts hK hP dX9_turn_46 ?_
      refine lv_aload_n hx hb dX9_turn_49 rfl (lv_at hl 1 rfl) ?_
      refine gRX9_68 hx hb hown hts hK hP dX9_turn_50 ?_
      refine gRX9_224 hx hb hown hts hK hN hP dX9_turn_53 ?_
      refine lv_iload_n hx hb dX9_turn_56 rfl (lv_at hl 0 rfl) ?_
      refine ro_i (va_runV (As := [.int Wa_at, .int r_3]) (rest := [.int r_3, .ref (q 21)]) ⟨hx, hb, hml, hown, hts⟩ (c_X7_changesBetween l hw) (kRX9_226 (h := 1) hts (Nat.le_trans (Nat.le_of_ble_eq_true rfl) hRf) (Nat.le_trans (Nat.le_of_ble_eq_true rfl) hRl)) (preX7 hK hN hP) rfl rfl hl.1 rfl (lv_room (Nat.le_of_ble_eq_true rfl)) dX9_turn_57 ⟨Nat.zero_le _, Nat.zero_le _⟩) (fun r_5 hw => ?_)
      refine wr_v (va_runV (As := [.int r_3, .int r_5]) (rest := []) ⟨hx, hb, hml, hown, hts⟩ (c_X8_go l hw) (kRX9_229 (h := 0) hts (Nat.le_trans (Nat.le_of_ble_eq_true rfl) hRf) (Nat.le_trans (Nat.le_of_ble_eq_true rfl) hRl)) (preX8w hK hN hP hD) rfl rfl hl.1 rfl (lv_room (Nat.le_of_ble_eq_true rfl)) dX9_turn_60 ⟨Nat.zero_le _, Nat.zero_le _⟩) hS (fun t H locs ht hw hS => ?_)
      obtain ⟨yat_6, yturns_6, ychanges_6, hw, hP⟩ := hw
      rw [ht] at hP
      have hP : va_P D vwCl (wC q cA Fc_unkept Fc_tablesRead Pg_letters Pg_size Pg_fault Pg_rows Pg_inRow Pg_width Fl_entries Fl_states Fl_columns Fl_moves Fl_stables Fl_amiss Fl_normal Pt_lessers Pt_greaters Pt_size Lc_signals Lc_kept Lc_keptFrom Lc_candidates Lc_size Sc_signals Sc_codes Sc_size Ai_codes Ai_bits Cu_seen Cu_inThrees Cu_all Lo_asked Lo_ones Lo_sum Lo_wideSize Lo_sumSize Lo_flickers Lo_ready yat_6 yturns_6 ychanges_6) H := hP
      have hD : va_D A (wC q cA Fc_unkept Fc_tablesRead Pg_letters Pg_size Pg_fault Pg_rows Pg_inRow Pg_width Fl_entries Fl_states Fl_columns Fl_moves Fl_stables Fl_amiss Fl_normal Pt_lessers Pt_greaters Pt_size Lc_signals Lc_kept Lc_keptFrom Lc_candidates Lc_size Sc_signals Sc_codes Sc_size Ai_codes Ai_bits Cu_seen Cu_inThrees Cu_all Lo_asked Lo_ones Lo_sum Lo_wideSize Lo_sumSize Lo_flickers Lo_ready yat_6 yturns_6 ychanges_6) := dC hD
      refine lv_iload_n hx hb dX9_turn_63 rfl (lv_at hl 0 rfl) ?_
      exact rw_i hx hb hr hlocks (fun t ht => ⟨yat_6, yturns_6, ychanges_6, hw, by rw [ht]; exact hP⟩) hS dX9_turn_64
    · have hw := hw.1 c_4
      refine lv_sipush (v := ((-1003) : Int32)) hx hb dX9_turn_36 (by decide +kernel) ?_
      exact rw_i hx hb hr hlocks (fun t ht => ⟨Wa_at, Wa_turns, Wa_changes, hw, by rw [ht]; exact hP⟩) hS dX9_turn_39
  · have hw := hw.1 c_2
    refine lv_sipush (v := ((-1001) : Int32)) hx hb dX9_turn_11 (by decide +kernel) ?_
    exact rw_i hx hb hr hlocks (fun t ht => ⟨Wa_at, Wa_turns, Wa_changes, hw, by rw [ht]; exact hP⟩) hS dX9_turn_14
abbrev Z_X10_turn (D : va_G) (q : Nat → Nat) (cA : Nat → ClassId) (i_pageLength : Int32) (a_page : Nat → Int32) (i_states : Int32) (i_columns : Int32) (a_entries : Nat → Int32) (i_signals : Int32) (a_signalAt : Nat → Int32) (i_read : Int32) (i_newRows : Int32) (i_newEntries : Int32) (i_newColumns : Int32) (i_greatest : Int32) (a_newAt : Nat → Int32) (i_partings : Int32) (a_lowSet : Nat → Int32) (a_highSet : Nat → Int32) (i_leastMany : Int32) (a_leastAt : Nat → Int32) (a_tried : Nat → Int32) (a_keptLow : Nat → Int64) (a_keptHigh : Nat → Int64) (i_laid : Int32) (a_wants : Nat → Int32) (i_wide : Int32) (a_wideAsked : Nat → Int32) (a_wideOnes : Nat → Int32) (i_sum : Int32) (i_flickers : Int32) (a_sumAt : Nat → Int32) (j_h : Int64) (post : Int32 → Int32 → Int32 → Int32 → Prop) : Int32 → State → Prop := fun r t => ∃ (y_i_walksAt : Int32) (y_i_turned : Int32) (y_i_changed : Int32), post r y_i_walksAt y_i_turned y_i_changed ∧ va_P D vwCl (wM q cA i_pageLength a_page i_states i_columns a_entries i_signals a_signalAt y_i_walksAt y_i_turned y_i_changed i_read i_newRows i_newEntries i_newColumns i_greatest a_newAt i_partings a_lowSet a_highSet i_leastMany a_leastAt a_tried a_keptLow a_keptHigh i_laid a_wants i_wide a_wideAsked a_wideOnes i_sum i_flickers a_sumAt j_h) t.heap
set_option maxHeartbeats 4000000 in
set_option maxRecDepth 100000 in
theorem t_X10_turn_86 {p : Program} {l : Launch} {e : Env} {R : Room} {s : State} {m : MethodId} {args : Array Value} {below : List Frame} {meth : Method} {c : Code} {A : Nat → Prop} {D : va_G} {q : Nat → Nat} {cA : Nat → ClassId} {i_pageLength : Int32} {a_page : Nat → Int32} {i_states : Int32} {i_columns : Int32} {a_entries : Nat → Int32} {i_signals : Int32} {a_signalAt : Nat → Int32} {i_walksAt : Int32} {i_turned : Int32} {i_changed : Int32} {i_read : Int32} {i_newRows : Int32} {i_newEntries : Int32} {i_newColumns : Int32} {i_greatest : Int32} {a_newAt : Nat → Int32} {i_partings : Int32} {a_lowSet : Nat → Int32} {a_highSet : Nat → Int32} {i_leastMany : Int32} {a_leastAt : Nat → Int32} {a_tried : Nat → Int32} {a_keptLow : Nat → Int64} {a_keptHigh : Nat → Int64} {i_laid : Int32} {a_wants : Nat → Int32} {i_wide : Int32} {a_wideAsked : Nat → Int32} {a_wideOnes : Nat → Int32} {i_sum : Int32} {i_flickers : Int32} {a_sumAt : Nat → Int32} {j_h : Int64} {post : Int32 → Int32 → Int32 → Int32 → Prop} {x2 : Int32} {v0 : Int32} {v1 : Int32} (X : kC p R s m args meth c cX10_turn RX10 3 (some .int) 3) (hK : va_K D vwCl (tyM cA) s) (hw : j_X10_turn_86 post i_turned x2 v0 v1) (ls : Array Slot) (H : Heap) (locs : List Loc) (hl : lv_has ls 3 [(0, .ref (q 0)), (2, .int x2)]) (hP : va_P D vwCl (wM q cA i_pageLength a_page i_states i_columns a_entries i_signals a_signalAt i_walksAt i_turned i_changed i_read i_newRows i_newEntries i_newColumns i_greatest a_newAt i_partings a_lowSet a_highSet i_leastMany a_leastAt a_tried a_keptLow a_keptHigh i_laid a_wants i_wide a_wideAsked a_wideOnes i_sum i_flickers a_sumAt j_h) H) (hD : va_D A (wM q cA i_pageLength a_page i_states i_columns a_entries i_signals a_signalAt i_walksAt i_turned i_changed i_read i_newRows i_newEntries i_newColumns i_greatest a_newAt i_partings a_lowSet a_highSet i_leastMany a_leastAt a_tried a_keptLow a_keptHigh i_laid a_wants i_wide a_wideAsked a_wideOnes i_sum i_flickers a_sumAt j_h)) (hS : va_S A s.heap H locs) : W p l e R s m args below meth c H locs 0 0 (MQ below (qWi (Z_X10_turn D q cA i_pageLength a_page i_states i_columns a_entries i_signals a_signalAt i_read i_newRows i_newEntries i_newColumns i_greatest a_newAt i_partings a_lowSet a_highSet i_leastMany a_leastAt a_tried a_keptLow a_keptHigh i_laid a_wants i_wide a_wideAsked a_wideOnes i_sum i_flickers a_sumAt j_h post) A) args s 0 0 A) (F0 m 86 ls [.int v0, .int v1, .ref (q 0)]) := by
  obtain ⟨hx, hb, hml, hown, hts, hr, hlocks, hRf, hRl⟩ := id X
  refine lv_iadd hx hb dX10_turn_86 ?_
  refine lv_topi (fun f_9 e_9 => ?_)
  have hw := hw f_9 e_9
  refine pRX10_96 hx hb hown hts hK hP hD hS dX10_turn_87 (fun H locs hP hD hS => ?_)
  refine lv_aload_n hx hb dX10_turn_90 rfl (lv_at hl 0 rfl) ?_
  refine lv_dup hx hb dX10_turn_91 rfl ?_
  refine gRX10_93 hx hb hown hts hK hP dX10_turn_92 ?_
  refine lv_iconst (v := (1 : Int32)) hx hb dX10_turn_95 (by decide) ?_
  refine lv_iadd hx hb dX10_turn_96 ?_
  refine lv_topi (fun f_10 e_10 => ?_)
  have hw := hw f_10 e_10
  refine pRX10_93 hx hb hown hts hK hP hD hS dX10_turn_97 (fun H locs hP hD hS => ?_)
  refine lv_aload_n hx hb dX10_turn_100 rfl (lv_at hl 0 rfl) ?_
  refine lv_iload_n hx hb dX10_turn_101 rfl (lv_at hl 1 rfl) ?_
  refine pRX10_19 hx hb hown hts hK hP hD hS dX10_turn_102 (fun H locs hP hD hS => ?_)
  refine lv_iload_n hx hb dX10_turn_105 rfl (lv_at hl 1 rfl) ?_
  exact rw_i hx hb hr hlocks (fun t ht => ⟨x2, f_10, f_9, hw, by rw [ht]; exact hP⟩) hS dX10_turn_106
set_option maxHeartbeats 4000000 in
set_option maxRecDepth 100000 in
theorem c_X10_turn (l : Launch) {D : va_G} {q : Nat → Nat} {cA : Nat → ClassId} {i_pageLength : Int32} {a_page : Nat → Int32} {i_states : Int32} {i_columns : Int32} {a_entries : Nat → Int32} {i_signals : Int32} {a_signalAt : Nat → Int32} {i_walksAt : Int32} {i_turned : Int32} {i_changed : Int32} {i_read : Int32} {i_newRows : Int32} {i_newEntries : Int32} {i_newColumns : Int32} {i_greatest : Int32} {a_newAt : Nat → Int32} {i_partings : Int32} {a_lowSet : Nat → Int32} {a_highSet : Nat → Int32} {i_leastMany : Int32} {a_leastAt : Nat → Int32} {a_tried : Nat → Int32} {a_keptLow : Nat → Int64} {a_keptHigh : Nat → Int64} {i_laid : Int32} {a_wants : Nat → Int32} {i_wide : Int32} {a_wideAsked : Nat → Int32} {a_wideOnes : Nat → Int32} {i_sum : Int32} {i_flickers : Int32} {a_sumAt : Nat → Int32} {j_h : Int64} {A : Nat → Prop} {post : Int32 → Int32 → Int32 → Int32 → Prop} {x1 : Int32} (hw : wp_X10_turn post i_states i_columns a_entries i_signals a_signalAt i_walksAt i_turned i_changed x1) : Met l yX10_turn (Cond.code yX10_turn cX10_turn 3 (some .int) :: wsL_law) (rmH 3) (va_Pc [.ref (q 0), .int x1] (fun U => va_P D vwCl (wM q cA i_pageLength a_page i_states i_columns a_entries i_signals a_signalAt i_walksAt i_turned i_changed i_read i_newRows i_newEntries i_newColumns i_greatest a_newAt i_partings a_lowSet a_highSet i_leastMany a_leastAt a_tried a_keptLow a_keptHigh i_laid a_wants i_wide a_wideAsked a_wideOnes i_sum i_flickers a_sumAt j_h) U.heap ∧ va_K D vwCl (tyM cA) U ∧ va_D A (wM q cA i_pageLength a_page i_states i_columns a_entries i_signals a_signalAt i_walksAt i_turned i_changed i_read i_newRows i_newEntries i_newColumns i_greatest a_newAt i_partings a_lowSet a_highSet i_leastMany a_leastAt a_tried a_keptLow a_keptHigh i_laid a_wants i_wide a_wideAsked a_wideOnes i_sum i_flickers a_sumAt j_h))) (qWi (Z_X10_turn D q cA i_pageLength a_page i_states i_columns a_entries i_signals a_signalAt i_read i_newRows i_newEntries i_newColumns i_greatest a_newAt i_partings a_lowSet a_highSet i_leastMany a_leastAt a_tried a_keptLow a_keptHigh i_laid a_wants i_wide a_wideAsked a_wideOnes i_sum i_flickers a_sumAt j_h post) A) 0 0 A := by
  refine Met.ofW (cc := cX10_turn) (maxL := 3) (ret := (some .int)) (by decide) rfl ?_
  intro p e s m args below meth c s₁ B hml hv
  obtain ⟨rfl, hP, hK, hD⟩ := hv
  have X : kC p (headSpec (Cond.code yX10_turn cX10_turn 3 (some .int) :: wsL_law) (rmH 3)).room s m _ meth c cX10_turn RX10 3 (some .int) 3 := ⟨B.exec, B.bytes, hml, findClass_of_methodNamed B.named, fun w h => atoms_spec (ws := Cond.code yX10_turn cX10_turn 3 (some .int) :: wsL_law) B.pre w (List.mem_cons_of_mem _ h), B.returns, B.notSynchronized, Nat.le_refl _, Nat.le_refl _⟩
  obtain ⟨hx, hb, hml, hown, hts, hr, hlocks, hRf, hRl⟩ := id X
  have hS : va_S A s.heap s.heap [] := va_S.rf
  have hl := lv_entry ([.ref (q 0), .int x1]) (n := 3) (Nat.le_of_ble_eq_true rfl)
  rw [lg_entry_eq]
  generalize (lg_sl ([.ref (q 0), .int x1]) ++ List.replicate (3 - (lg_sl ([.ref (q 0), .int x1])).length) Slot.unset).toArray = ls at hl ⊢
  have hl : lv_has ls 3 [(0, .ref (q 0)), (1, .int x1)] := hl
  refine lv_iload_n hx hb dX10_turn_0 rfl (lv_at hl 1 rfl) ?_
  refine lv_iconst (v := (0 : Int32)) hx hb dX10_turn_1 (by decide) ?_
  refine lv_aload_n hx hb dX10_turn_2 rfl (lv_at hl 0 rfl) ?_
  refine gRX10_90 hx hb hown hts hK hP dX10_turn_3 ?_
  refine lv_iconst (v := (1 : Int32)) hx hb dX10_turn_6 (by decide) ?_
  refine lv_isub hx hb dX10_turn_7 ?_
  refine ro_i (va_runS (As := [.int x1, .int (0 : Int32), .int (i_columns - (1 : Int32))]) (rest := []) ⟨hx, hb, hml, hown, hts⟩ (c_X10_within l hw) (kRX10_60 (h := 0) hts (Nat.le_trans (Nat.le_of_ble_eq_true rfl) hRf) (Nat.le_trans (Nat.le_of_ble_eq_true rfl) hRl)) pre_0 rfl rfl hl.1 rfl (lv_room (Nat.le_of_ble_eq_true rfl)) dX10_turn_8 ⟨Nat.zero_le _, Nat.zero_le _⟩) (fun r_1 hw => ?_)
  refine lv_if_ne (tgt := 18) hx hb dX10_turn_11 (by decide) (fun c_2 => ?_) (fun c_2 => ?_)
  · have hw := hw.2 c_2
    refine lv_aload_n hx hb dX10_turn_18 rfl (lv_at hl 0 rfl) ?_
    refine gRX10_19 hx hb hown hts hK hP dX10_turn_19 ?_
    refine lv_iconst (v := ((-1) : Int32)) hx hb dX10_turn_22 (by decide) ?_
    refine lv_icmp_eq (tgt := 39) hx hb dX10_turn_23 (by decide) (fun c_3 => ?_) (fun c_3 => ?_)
    · have hw := hw.1 c_3
      refine lv_sipush (v := ((-1003) : Int32)) hx hb dX10_turn_39 (by decide +kernel) ?_
      exact rw_i hx hb hr hlocks (fun t ht => ⟨i_walksAt, i_turned, i_changed, hw, by rw [ht]; exact hP⟩) hS dX10_turn_42
    · have hw := hw.2 c_3
      refine lv_aload_n hx hb dX10_turn_26 rfl (lv_at hl 0 rfl) ?_
      refine lv_aload_n hx hb dX10_turn_27 rfl (lv_at hl 0 rfl) ?_
      refine gRX10_19 hx hb hown hts hK hP dX10_turn_28 ?_
      refine lv_iload_n hx hb dX10_turn_31 rfl (lv_at hl 1 rfl) ?_
      refine ro_i (va_runV (As := [.int i_walksAt, .int x1]) (rest := []) ⟨hx, hb, hml, hown, hts⟩ (c_X10_entryAt l hw) (kRX10_118 (h := 0) hts (Nat.le_trans (Nat.le_of_ble_eq_true rfl) hRf) (Nat.le_trans (Nat.le_of_ble_eq_true rfl) hRl)) (preM hK hP) rfl rfl hl.1 rfl (lv_room (Nat.le_of_ble_eq_true rfl)) dX10_turn_32 ⟨Nat.zero_le _, Nat.zero_le _⟩) (fun r_4 hw => ?_)
      refine lv_iconst (v := ((-1) : Int32)) hx hb dX10_turn_35 (by decide) ?_
      refine lv_icmp_ne (tgt := 43) hx hb dX10_turn_36 (by decide) (fun c_5 => ?_) (fun c_5 => ?_)
      · have hw := hw.2 c_5
        refine lv_aload_n hx hb dX10_turn_43 rfl (lv_at hl 0 rfl) ?_
        refine lv_aload_n hx hb dX10_turn_44 rfl (lv_at hl 0 rfl) ?_
        refine gRX10_19 hx hb hown hts hK hP dX10_turn_45 ?_
        refine lv_iload_n hx hb dX10_turn_48 rfl (lv_at hl 1 rfl) ?_
        refine ro_i (va_runV (As := [.int i_walksAt, .int x1]) (rest := []) ⟨hx, hb, hml, hown, hts⟩ (c_X10_entryAt l hw) (kRX10_118 (h := 0) hts (Nat.le_trans (Nat.le_of_ble_eq_true rfl) hRf) (Nat.le_trans (Nat.le_of_ble_eq_true rfl) hRl)) (preM hK hP) rfl rfl hl.1 rfl (lv_room (Nat.le_of_ble_eq_true rfl)) dX10_turn_49 ⟨Nat.zero_le _, Nat.zero_le _⟩) (fun r_6 hw => ?_)
        refine lv_istore_n (lv' := [(2, .int r_6), (0, .ref (q 0)), (1, .int x1)]) hx hb dX10_turn_52 rfl hl (by decide) rfl (fun ls hl => ?_)
        refine lv_aload_n hx hb dX10_turn_53 rfl (lv_at hl 1 rfl) ?_
        refine lv_dup hx hb dX10_turn_54 rfl ?_
        refine gRX10_96 hx hb hown hts hK hP dX10_turn_55 ?_
        refine lv_aload_n hx hb dX10_turn_58 rfl (lv_at hl 1 rfl) ?_
        refine ro_i (va_runV (As := []) (rest := [.int i_changed, .ref (q 0)]) ⟨hx, hb, hml, hown, hts⟩ (c_X10_isNormal l hw) (kRX10_125 (h := 2) hts (Nat.le_trans (Nat.le_of_ble_eq_true rfl) hRf) (Nat.le_trans (Nat.le_of_ble_eq_true rfl) hRl)) (preM hK hP) rfl rfl hl.1 rfl (lv_room (Nat.le_of_ble_eq_true rfl)) dX10_turn_59 ⟨Nat.zero_le _, Nat.zero_le _⟩) (fun r_7 hw => ?_)
        refine lv_if_eq (tgt := 85) hx hb dX10_turn_62 (by decide) (fun c_8 => ?_) (fun c_8 => ?_)
        · have hw := hw.1 c_8
          refine lv_iconst (v := (0 : Int32)) hx hb dX10_turn_85 (by decide) ?_
          exact t_X10_turn_86 X hK hw ls _ _ (lv_sub hl [1, 0] rfl) hP hD hS
        · have hw := hw.2 c_8
          refine lv_aload_n hx hb dX10_turn_65 rfl (lv_at hl 1 rfl) ?_
          refine lv_aload_n hx hb dX10_turn_66 rfl (lv_at hl 1 rfl) ?_
          refine gRX10_19 hx hb hown hts hK hP dX10_turn_67 ?_
          refine ro_i (va_runV (As := [.int i_walksAt]) (rest := [.int i_changed, .ref (q 0)]) ⟨hx, hb, hml, hown, hts⟩ (c_X10_codeOf l hw) (kRX10_178 (h := 0) hts (Nat.le_trans (Nat.le_of_ble_eq_true rfl) hRf) (Nat.le_trans (Nat.le_of_ble_eq_true rfl) hRl)) (preM hK hP) rfl rfl hl.1 rfl (lv_room (Nat.le_of_ble_eq_true rfl)) dX10_turn_70 ⟨Nat.zero_le _, Nat.zero_le _⟩) (fun r_11 hw => ?_)
          refine lv_aload_n hx hb dX10_turn_73 rfl (lv_at hl 1 rfl) ?_
          refine lv_iload_n hx hb dX10_turn_74 rfl (lv_at hl 0 rfl) ?_
          refine ro_i (va_runV (As := [.int r_6]) (rest := [.int r_11, .int i_changed, .ref (q 0)]) ⟨hx, hb, hml, hown, hts⟩ (c_X10_codeOf l hw) (kRX10_178 (h := 0) hts (Nat.le_trans (Nat.le_of_ble_eq_true rfl) hRf) (Nat.le_trans (Nat.le_of_ble_eq_true rfl) hRl)) (preM hK hP) rfl rfl hl.1 rfl (lv_room (Nat.le_of_ble_eq_true rfl)) dX10_turn_75 ⟨Nat.zero_le _, Nat.zero_le _⟩) (fun r_12 hw => ?_)
          refine lv_ixor hx hb dX10_turn_78 ?_
          refine ro_i (va_runS (As := [.int (r_11 ^^^ r_12)]) (rest := [.int i_changed, .ref (q 0)]) ⟨hx, hb, hml, hown, hts⟩ (c_X10_ones l hw) (kRX10_190 (h := 0) hts (Nat.le_trans (Nat.le_of_ble_eq_true rfl) hRf) (Nat.le_trans (Nat.le_of_ble_eq_true rfl) hRl)) pre_0 rfl rfl hl.1 rfl (lv_room (Nat.le_of_ble_eq_true rfl)) dX10_turn_79 ⟨Nat.zero_le _, Nat.zero_le _⟩) (fun r_13 hw => ?_)
          refine lv_goto (tgt := 86) hx hb dX10_turn_82 (by decide) ?_
          exact t_X10_turn_86 X hK hw ls _ _ (lv_sub hl [1, 0] rfl) hP hD hS
      · have hw := hw.1 c_5
        refine lv_sipush (v := ((-1003) : Int32)) hx hb dX10_turn_39 (by decide +kernel) ?_
        exact rw_i hx hb hr hlocks (fun t ht => ⟨i_walksAt, i_turned, i_changed, hw, by rw [ht]; exact hP⟩) hS dX10_turn_42
  · have hw := hw.1 c_2
    refine lv_sipush (v := ((-1001) : Int32)) hx hb dX10_turn_14 (by decide +kernel) ?_
    exact rw_i hx hb hr hlocks (fun t ht => ⟨i_walksAt, i_turned, i_changed, hw, by rw [ht]; exact hP⟩) hS dX10_turn_17
set_option maxHeartbeats 4000000 in
set_option maxRecDepth 100000 in
theorem c_X9_count (l : Launch) {D : va_G} {q : Nat → Nat} {cA : Nat → ClassId} {Fc_unkept : Int32} {Fc_tablesRead : Int32} {Pg_letters : Nat → Int32} {Pg_size : Int32} {Pg_fault : Int32} {Pg_rows : Int32} {Pg_inRow : Int32} {Pg_width : Int32} {Fl_entries : Nat → Int32} {Fl_states : Int32} {Fl_columns : Int32} {Fl_moves : Int32} {Fl_stables : Int32} {Fl_amiss : Int32} {Fl_normal : Int32} {Pt_lessers : Nat → Int32} {Pt_greaters : Nat → Int32} {Pt_size : Int32} {Lc_signals : Nat → Int32} {Lc_kept : Nat → Int64} {Lc_keptFrom : Nat → Int64} {Lc_candidates : Int32} {Lc_size : Int32} {Sc_signals : Nat → Int32} {Sc_codes : Nat → Int32} {Sc_size : Int32} {Ai_codes : Nat → Int32} {Ai_bits : Int32} {Cu_seen : Nat → Int32} {Cu_inThrees : Nat → Int32} {Cu_all : Int32} {Lo_asked : Nat → Nat → Int32} {Lo_ones : Nat → Nat → Int32} {Lo_sum : Nat → Nat → Int32} {Lo_wideSize : Nat → Int32} {Lo_sumSize : Nat → Int32} {Lo_flickers : Nat → Int32} {Lo_ready : Nat → Int32} {Wa_at : Int32} {Wa_turns : Int32} {Wa_changes : Int32} {post : Int32 → Prop} {x1 : Int32} (hw : wp_X9_count post Fc_tablesRead Pg_size Fl_states Fl_columns Wa_at Wa_turns Wa_changes x1) : Met l yX9_count (Cond.code yX9_count cX9_count 2 (some .int) :: wsL_law) (rmH 0) (va_Pc [.ref (q 0), .int x1] (fun U => va_P D vwCl (wC q cA Fc_unkept Fc_tablesRead Pg_letters Pg_size Pg_fault Pg_rows Pg_inRow Pg_width Fl_entries Fl_states Fl_columns Fl_moves Fl_stables Fl_amiss Fl_normal Pt_lessers Pt_greaters Pt_size Lc_signals Lc_kept Lc_keptFrom Lc_candidates Lc_size Sc_signals Sc_codes Sc_size Ai_codes Ai_bits Cu_seen Cu_inThrees Cu_all Lo_asked Lo_ones Lo_sum Lo_wideSize Lo_sumSize Lo_flickers Lo_ready Wa_at Wa_turns Wa_changes) U.heap ∧ va_K D vwCl (tyC cA) U ∧ nwC U)) (qRi post) 0 0 (fun _ => False) := by
  refine Met.ofW (cc := cX9_count) (maxL := 2) (ret := (some .int)) (by decide) rfl ?_
  intro p e s m args below meth c s₁ B hml hv
  obtain ⟨rfl, hP, hK, hN⟩ := hv
  have X : kC p (headSpec (Cond.code yX9_count cX9_count 2 (some .int) :: wsL_law) (rmH 0)).room s m _ meth c cX9_count RX9 2 (some .int) 0 := ⟨B.exec, B.bytes, hml, findClass_of_methodNamed B.named, fun w h => atoms_spec (ws := Cond.code yX9_count cX9_count 2 (some .int) :: wsL_law) B.pre w (List.mem_cons_of_mem _ h), B.returns, B.notSynchronized, Nat.le_refl _, Nat.le_refl _⟩
  obtain ⟨hx, hb, hml, hown, hts, hr, hlocks, hRf, hRl⟩ := id X
  have hl := lv_entry ([.ref (q 0), .int x1]) (n := 2) (Nat.le_of_ble_eq_true rfl)
  rw [lg_entry_eq]
  generalize (lg_sl ([.ref (q 0), .int x1]) ++ List.replicate (2 - (lg_sl ([.ref (q 0), .int x1])).length) Slot.unset).toArray = ls at hl ⊢
  have hl : lv_has ls 2 [(0, .ref (q 0)), (1, .int x1)] := hl
  refine lv_iload_n hx hb dX9_count_0 rfl (lv_at hl 1 rfl) ?_
  by_cases c_1 : x1 = (0 : Int32)
  · have hw := hw.1 c_1
    refine sw_in (k := (0 : Int32)) (off := 43) (tgt := 44) hx hb dX9_count_1 c_1 (by decide) (by decide) (by decide) (by decide) ?_
    refine lv_aload_n hx hb dX9_count_44 rfl (lv_at hl 0 rfl) ?_
    refine gRX9_12 hx hb hown hts hK hP dX9_count_45 ?_
    refine gRX9_83 hx hb hown hts hK hN hP dX9_count_48 ?_
    exact rt_i hx hb hr hlocks hw dX9_count_51
  · have hw := hw.2 c_1
    by_cases c_2 : x1 = (1 : Int32)
    · have hw := hw.1 c_2
      refine sw_in (k := (1 : Int32)) (off := 51) (tgt := 52) hx hb dX9_count_1 c_2 (by decide) (by decide) (by decide) (by decide) ?_
      refine lv_aload_n hx hb dX9_count_52 rfl (lv_at hl 0 rfl) ?_
      refine gRX9_19 hx hb hown hts hK hP dX9_count_53 ?_
      refine gRX9_118 hx hb hown hts hK hN hP dX9_count_56 ?_
      exact rt_i hx hb hr hlocks hw dX9_count_59
    · have hw := hw.2 c_2
      by_cases c_3 : x1 = (2 : Int32)
      · have hw := hw.1 c_3
        refine sw_in (k := (2 : Int32)) (off := 59) (tgt := 60) hx hb dX9_count_1 c_3 (by decide) (by decide) (by decide) (by decide) ?_
        refine lv_aload_n hx hb dX9_count_60 rfl (lv_at hl 0 rfl) ?_
        refine gRX9_19 hx hb hown hts hK hP dX9_count_61 ?_
        refine gRX9_233 hx hb hown hts hK hN hP dX9_count_64 ?_
        exact rt_i hx hb hr hlocks hw dX9_count_67
      · have hw := hw.2 c_3
        by_cases c_4 : x1 = (3 : Int32)
        · have hw := hw.1 c_4
          refine sw_in (k := (3 : Int32)) (off := 67) (tgt := 68) hx hb dX9_count_1 c_4 (by decide) (by decide) (by decide) (by decide) ?_
          refine lv_aload_n hx hb dX9_count_68 rfl (lv_at hl 0 rfl) ?_
          refine gRX9_68 hx hb hown hts hK hP dX9_count_69 ?_
          refine gRX9_224 hx hb hown hts hK hN hP dX9_count_72 ?_
          exact rt_i hx hb hr hlocks hw dX9_count_75
        · have hw := hw.2 c_4
          by_cases c_5 : x1 = (4 : Int32)
          · have hw := hw.1 c_5
            refine sw_in (k := (4 : Int32)) (off := 75) (tgt := 76) hx hb dX9_count_1 c_5 (by decide) (by decide) (by decide) (by decide) ?_
            refine lv_aload_n hx hb dX9_count_76 rfl (lv_at hl 0 rfl) ?_
            refine gRX9_68 hx hb hown hts hK hP dX9_count_77 ?_
            refine gRX9_236 hx hb hown hts hK hN hP dX9_count_80 ?_
            exact rt_i hx hb hr hlocks hw dX9_count_83
          · have hw := hw.2 c_5
            by_cases c_6 : x1 = (5 : Int32)
            · have hw := hw.1 c_6
              refine sw_in (k := (5 : Int32)) (off := 83) (tgt := 84) hx hb dX9_count_1 c_6 (by decide) (by decide) (by decide) (by decide) ?_
              refine lv_aload_n hx hb dX9_count_84 rfl (lv_at hl 0 rfl) ?_
              refine gRX9_68 hx hb hown hts hK hP dX9_count_85 ?_
              refine gRX9_239 hx hb hown hts hK hN hP dX9_count_88 ?_
              exact rt_i hx hb hr hlocks hw dX9_count_91
            · have hw := hw.2 c_6
              by_cases c_7 : x1 = (6 : Int32)
              · have hw := hw.1 c_7
                refine sw_in (k := (6 : Int32)) (off := 91) (tgt := 92) hx hb dX9_count_1 c_7 (by decide) (by decide) (by decide) (by decide) ?_
                refine lv_aload_n hx hb dX9_count_92 rfl (lv_at hl 0 rfl) ?_
                refine gRX9_76 hx hb hown hts hK hP dX9_count_93 ?_
                exact rt_i hx hb hr hlocks hw dX9_count_96
              · have hw := hw.2 c_7
                refine lv_tableOut (tgt := 97) hx hb dX9_count_1 (by have q0 := lv_neT c_1 (a := 0) (by decide); have q1 := lv_neT c_2 (a := 1) (by decide); have q2 := lv_neT c_3 (a := 2) (by decide); have q3 := lv_neT c_4 (a := 3) (by decide); have q4 := lv_neT c_5 (a := 4) (by decide); have q5 := lv_neT c_6 (a := 5) (by decide); have q6 := lv_neT c_7 (a := 6) (by decide); omega) (by decide) ?_
                refine lv_sipush (v := ((-1002) : Int32)) hx hb dX9_count_97 (by decide +kernel) ?_
                exact rt_i hx hb hr hlocks hw dX9_count_100
set_option maxHeartbeats 4000000 in
set_option maxRecDepth 100000 in
theorem c_X10_howMany (l : Launch) {D : va_G} {q : Nat → Nat} {cA : Nat → ClassId} {i_pageLength : Int32} {a_page : Nat → Int32} {i_states : Int32} {i_columns : Int32} {a_entries : Nat → Int32} {i_signals : Int32} {a_signalAt : Nat → Int32} {i_walksAt : Int32} {i_turned : Int32} {i_changed : Int32} {i_read : Int32} {i_newRows : Int32} {i_newEntries : Int32} {i_newColumns : Int32} {i_greatest : Int32} {a_newAt : Nat → Int32} {i_partings : Int32} {a_lowSet : Nat → Int32} {a_highSet : Nat → Int32} {i_leastMany : Int32} {a_leastAt : Nat → Int32} {a_tried : Nat → Int32} {a_keptLow : Nat → Int64} {a_keptHigh : Nat → Int64} {i_laid : Int32} {a_wants : Nat → Int32} {i_wide : Int32} {a_wideAsked : Nat → Int32} {a_wideOnes : Nat → Int32} {i_sum : Int32} {i_flickers : Int32} {a_sumAt : Nat → Int32} {j_h : Int64} {post : Int32 → Prop} {x1 : Int32} (hw : wp_X10_howMany post i_pageLength i_states i_columns i_walksAt i_turned i_changed i_read x1) : Met l yX10_howMany (Cond.code yX10_howMany cX10_howMany 2 (some .int) :: wsL_law) (rmH 0) (va_Pc [.ref (q 0), .int x1] (fun U => va_P D vwCl (wM q cA i_pageLength a_page i_states i_columns a_entries i_signals a_signalAt i_walksAt i_turned i_changed i_read i_newRows i_newEntries i_newColumns i_greatest a_newAt i_partings a_lowSet a_highSet i_leastMany a_leastAt a_tried a_keptLow a_keptHigh i_laid a_wants i_wide a_wideAsked a_wideOnes i_sum i_flickers a_sumAt j_h) U.heap ∧ va_K D vwCl (tyM cA) U)) (qRi post) 0 0 (fun _ => False) := by
  refine Met.ofW (cc := cX10_howMany) (maxL := 2) (ret := (some .int)) (by decide) rfl ?_
  intro p e s m args below meth c s₁ B hml hv
  obtain ⟨rfl, hP, hK⟩ := hv
  have X : kC p (headSpec (Cond.code yX10_howMany cX10_howMany 2 (some .int) :: wsL_law) (rmH 0)).room s m _ meth c cX10_howMany RX10 2 (some .int) 0 := ⟨B.exec, B.bytes, hml, findClass_of_methodNamed B.named, fun w h => atoms_spec (ws := Cond.code yX10_howMany cX10_howMany 2 (some .int) :: wsL_law) B.pre w (List.mem_cons_of_mem _ h), B.returns, B.notSynchronized, Nat.le_refl _, Nat.le_refl _⟩
  obtain ⟨hx, hb, hml, hown, hts, hr, hlocks, hRf, hRl⟩ := id X
  have hl := lv_entry ([.ref (q 0), .int x1]) (n := 2) (Nat.le_of_ble_eq_true rfl)
  rw [lg_entry_eq]
  generalize (lg_sl ([.ref (q 0), .int x1]) ++ List.replicate (2 - (lg_sl ([.ref (q 0), .int x1])).length) Slot.unset).toArray = ls at hl ⊢
  have hl : lv_has ls 2 [(0, .ref (q 0)), (1, .int x1)] := hl
  refine lv_iload_n hx hb dX10_howMany_0 rfl (lv_at hl 1 rfl) ?_
  by_cases c_1 : x1 = (0 : Int32)
  · have hw := hw.1 c_1
    refine sw_in (k := (0 : Int32)) (off := 43) (tgt := 44) hx hb dX10_howMany_1 c_1 (by decide) (by decide) (by decide) (by decide) ?_
    refine lv_aload_n hx hb dX10_howMany_44 rfl (lv_at hl 0 rfl) ?_
    refine gRX10_64 hx hb hown hts hK hP dX10_howMany_45 ?_
    exact rt_i hx hb hr hlocks hw dX10_howMany_48
  · have hw := hw.2 c_1
    by_cases c_2 : x1 = (1 : Int32)
    · have hw := hw.1 c_2
      refine sw_in (k := (1 : Int32)) (off := 48) (tgt := 49) hx hb dX10_howMany_1 c_2 (by decide) (by decide) (by decide) (by decide) ?_
      refine lv_aload_n hx hb dX10_howMany_49 rfl (lv_at hl 0 rfl) ?_
      refine gRX10_87 hx hb hown hts hK hP dX10_howMany_50 ?_
      exact rt_i hx hb hr hlocks hw dX10_howMany_53
    · have hw := hw.2 c_2
      by_cases c_3 : x1 = (2 : Int32)
      · have hw := hw.1 c_3
        refine sw_in (k := (2 : Int32)) (off := 53) (tgt := 54) hx hb dX10_howMany_1 c_3 (by decide) (by decide) (by decide) (by decide) ?_
        refine lv_aload_n hx hb dX10_howMany_54 rfl (lv_at hl 0 rfl) ?_
        refine gRX10_90 hx hb hown hts hK hP dX10_howMany_55 ?_
        exact rt_i hx hb hr hlocks hw dX10_howMany_58
      · have hw := hw.2 c_3
        by_cases c_4 : x1 = (3 : Int32)
        · have hw := hw.1 c_4
          refine sw_in (k := (3 : Int32)) (off := 58) (tgt := 59) hx hb dX10_howMany_1 c_4 (by decide) (by decide) (by decide) (by decide) ?_
          refine lv_aload_n hx hb dX10_howMany_59 rfl (lv_at hl 0 rfl) ?_
          refine gRX10_19 hx hb hown hts hK hP dX10_howMany_60 ?_
          exact rt_i hx hb hr hlocks hw dX10_howMany_63
        · have hw := hw.2 c_4
          by_cases c_5 : x1 = (4 : Int32)
          · have hw := hw.1 c_5
            refine sw_in (k := (4 : Int32)) (off := 63) (tgt := 64) hx hb dX10_howMany_1 c_5 (by decide) (by decide) (by decide) (by decide) ?_
            refine lv_aload_n hx hb dX10_howMany_64 rfl (lv_at hl 0 rfl) ?_
            refine gRX10_93 hx hb hown hts hK hP dX10_howMany_65 ?_
            exact rt_i hx hb hr hlocks hw dX10_howMany_68
          · have hw := hw.2 c_5
            by_cases c_6 : x1 = (5 : Int32)
            · have hw := hw.1 c_6
              refine sw_in (k := (5 : Int32)) (off := 68) (tgt := 69) hx hb dX10_howMany_1 c_6 (by decide) (by decide) (by decide) (by decide) ?_
              refine lv_aload_n hx hb dX10_howMany_69 rfl (lv_at hl 0 rfl) ?_
              refine gRX10_96 hx hb hown hts hK hP dX10_howMany_70 ?_
              exact rt_i hx hb hr hlocks hw dX10_howMany_73
            · have hw := hw.2 c_6
              by_cases c_7 : x1 = (6 : Int32)
              · have hw := hw.1 c_7
                refine sw_in (k := (6 : Int32)) (off := 73) (tgt := 74) hx hb dX10_howMany_1 c_7 (by decide) (by decide) (by decide) (by decide) ?_
                refine lv_aload_n hx hb dX10_howMany_74 rfl (lv_at hl 0 rfl) ?_
                refine gRX10_102 hx hb hown hts hK hP dX10_howMany_75 ?_
                exact rt_i hx hb hr hlocks hw dX10_howMany_78
              · have hw := hw.2 c_7
                refine lv_tableOut (tgt := 79) hx hb dX10_howMany_1 (by have q0 := lv_neT c_1 (a := 0) (by decide); have q1 := lv_neT c_2 (a := 1) (by decide); have q2 := lv_neT c_3 (a := 2) (by decide); have q3 := lv_neT c_4 (a := 3) (by decide); have q4 := lv_neT c_5 (a := 4) (by decide); have q5 := lv_neT c_6 (a := 5) (by decide); have q6 := lv_neT c_7 (a := 6) (by decide); omega) (by decide) ?_
                refine lv_sipush (v := ((-1002) : Int32)) hx hb dX10_howMany_79 (by decide +kernel) ?_
                exact rt_i hx hb hr hlocks hw dX10_howMany_82
set_option maxHeartbeats 4000000 in
set_option maxRecDepth 100000 in
theorem c_X10_count (l : Launch) {D : va_G} {q : Nat → Nat} {cA : Nat → ClassId} {i_pageLength : Int32} {a_page : Nat → Int32} {i_states : Int32} {i_columns : Int32} {a_entries : Nat → Int32} {i_signals : Int32} {a_signalAt : Nat → Int32} {i_walksAt : Int32} {i_turned : Int32} {i_changed : Int32} {i_read : Int32} {i_newRows : Int32} {i_newEntries : Int32} {i_newColumns : Int32} {i_greatest : Int32} {a_newAt : Nat → Int32} {i_partings : Int32} {a_lowSet : Nat → Int32} {a_highSet : Nat → Int32} {i_leastMany : Int32} {a_leastAt : Nat → Int32} {a_tried : Nat → Int32} {a_keptLow : Nat → Int64} {a_keptHigh : Nat → Int64} {i_laid : Int32} {a_wants : Nat → Int32} {i_wide : Int32} {a_wideAsked : Nat → Int32} {a_wideOnes : Nat → Int32} {i_sum : Int32} {i_flickers : Int32} {a_sumAt : Nat → Int32} {j_h : Int64} {post : Int32 → Prop} {x1 : Int32} (hw : wp_X10_count post i_pageLength i_states i_columns i_walksAt i_turned i_changed i_read x1) : Met l yX10_count (Cond.code yX10_count cX10_count 2 (some .int) :: wsL_law) (rmH 1) (va_Pc [.ref (q 0), .int x1] (fun U => va_P D vwCl (wM q cA i_pageLength a_page i_states i_columns a_entries i_signals a_signalAt i_walksAt i_turned i_changed i_read i_newRows i_newEntries i_newColumns i_greatest a_newAt i_partings a_lowSet a_highSet i_leastMany a_leastAt a_tried a_keptLow a_keptHigh i_laid a_wants i_wide a_wideAsked a_wideOnes i_sum i_flickers a_sumAt j_h) U.heap ∧ va_K D vwCl (tyM cA) U)) (qRi post) 0 0 (fun _ => False) := by
  refine Met.ofW (cc := cX10_count) (maxL := 2) (ret := (some .int)) (by decide) rfl ?_
  intro p e s m args below meth c s₁ B hml hv
  obtain ⟨rfl, hP, hK⟩ := hv
  have X : kC p (headSpec (Cond.code yX10_count cX10_count 2 (some .int) :: wsL_law) (rmH 1)).room s m _ meth c cX10_count RX10 2 (some .int) 1 := ⟨B.exec, B.bytes, hml, findClass_of_methodNamed B.named, fun w h => atoms_spec (ws := Cond.code yX10_count cX10_count 2 (some .int) :: wsL_law) B.pre w (List.mem_cons_of_mem _ h), B.returns, B.notSynchronized, Nat.le_refl _, Nat.le_refl _⟩
  obtain ⟨hx, hb, hml, hown, hts, hr, hlocks, hRf, hRl⟩ := id X
  have hl := lv_entry ([.ref (q 0), .int x1]) (n := 2) (Nat.le_of_ble_eq_true rfl)
  rw [lg_entry_eq]
  generalize (lg_sl ([.ref (q 0), .int x1]) ++ List.replicate (2 - (lg_sl ([.ref (q 0), .int x1])).length) Slot.unset).toArray = ls at hl ⊢
  have hl : lv_has ls 2 [(0, .ref (q 0)), (1, .int x1)] := hl
  refine lv_aload_n hx hb dX10_count_0 rfl (lv_at hl 0 rfl) ?_
  refine lv_iload_n hx hb dX10_count_1 rfl (lv_at hl 1 rfl) ?_
  refine ro_i (va_runV (As := [.int x1]) (rest := []) ⟨hx, hb, hml, hown, hts⟩ (c_X10_howMany l hw) (kRX10_263 (h := 0) hts (Nat.le_trans (Nat.le_of_ble_eq_true rfl) hRf) (Nat.le_trans (Nat.le_of_ble_eq_true rfl) hRl)) (preM hK hP) rfl rfl hl.1 rfl (lv_room (Nat.le_of_ble_eq_true rfl)) dX10_count_2 ⟨Nat.zero_le _, Nat.zero_le _⟩) (fun r_1 hw => ?_)
  exact rt_i hx hb hr hlocks hw dX10_count_5
set_option maxHeartbeats 4000000 in
set_option maxRecDepth 100000 in
theorem c_X9_mixed (l : Launch)  {post : Int64 → Prop} {x0 : Int64} {x2 : Int32} (hw : wp_X9_mixed post  x0 x2) : Met l yX9_mixed (Cond.code yX9_mixed cX9_mixed 3 (some .long) :: wsL_law) (rmH 0) (va_Pc [.long x0, .int x2] (fun _ => True)) (qRl post) 0 0 (fun _ => False) := by
  refine Met.ofW (cc := cX9_mixed) (maxL := 3) (ret := (some .long)) (by decide) rfl ?_
  intro p e s m args below meth c s₁ B hml hv
  obtain ⟨rfl, -⟩ := hv
  have X : kC p (headSpec (Cond.code yX9_mixed cX9_mixed 3 (some .long) :: wsL_law) (rmH 0)).room s m _ meth c cX9_mixed RX9 3 (some .long) 0 := ⟨B.exec, B.bytes, hml, findClass_of_methodNamed B.named, fun w h => atoms_spec (ws := Cond.code yX9_mixed cX9_mixed 3 (some .long) :: wsL_law) B.pre w (List.mem_cons_of_mem _ h), B.returns, B.notSynchronized, Nat.le_refl _, Nat.le_refl _⟩
  obtain ⟨hx, hb, hml, hown, hts, hr, hlocks, hRf, hRl⟩ := id X
  have hl := lv_entry ([.long x0, .int x2]) (n := 3) (Nat.le_of_ble_eq_true rfl)
  rw [lg_entry_eq]
  generalize (lg_sl ([.long x0, .int x2]) ++ List.replicate (3 - (lg_sl ([.long x0, .int x2])).length) Slot.unset).toArray = ls at hl ⊢
  have hl : lv_has ls 3 [(0, .long x0), (2, .int x2)] := hl
  refine lv_ldc2 (v := (31 : Int64)) hx hb hown (hts _ (inr34 _ (List.mem_of_getElem? (i := 15) rfl))) dX9_mixed_0 ?_
  refine lv_lload_n hx hb dX9_mixed_3 rfl (lv_at hl 0 rfl) ?_
  refine lv_lmul hx hb dX9_mixed_4 ?_
  refine lv_iload_n hx hb dX9_mixed_5 rfl (lv_at hl 1 rfl) ?_
  refine lv_i2l hx hb dX9_mixed_6 rfl ?_
  refine lv_ladd hx hb dX9_mixed_7 ?_
  exact rt_l hx hb hr hlocks hw dX9_mixed_8
abbrev Z_X9_mixedLogic (D : va_G) (q : Nat → Nat) (cA : Nat → ClassId) (Fc_unkept : Int32) (Fc_tablesRead : Int32) (Pg_letters : Nat → Int32) (Pg_size : Int32) (Pg_fault : Int32) (Pg_rows : Int32) (Pg_inRow : Int32) (Pg_width : Int32) (Fl_entries : Nat → Int32) (Fl_states : Int32) (Fl_columns : Int32) (Fl_moves : Int32) (Fl_stables : Int32) (Fl_amiss : Int32) (Fl_normal : Int32) (Pt_lessers : Nat → Int32) (Pt_greaters : Nat → Int32) (Pt_size : Int32) (Lc_signals : Nat → Int32) (Lc_kept : Nat → Int64) (Lc_keptFrom : Nat → Int64) (Lc_candidates : Int32) (Lc_size : Int32) (Sc_signals : Nat → Int32) (Sc_codes : Nat → Int32) (Sc_size : Int32) (Ai_codes : Nat → Int32) (Ai_bits : Int32) (Cu_inThrees : Nat → Int32) (Wa_at : Int32) (Wa_turns : Int32) (Wa_changes : Int32) (post : Int64 → (Nat → Int32) → Int32 → (Nat → Nat → Int32) → (Nat → Nat → Int32) → (Nat → Nat → Int32) → (Nat → Int32) → (Nat → Int32) → (Nat → Int32) → (Nat → Int32) → Prop) : Int64 → State → Prop := fun r t => ∃ (y_Cu_seen : Nat → Int32) (y_Cu_all : Int32) (y_Lo_asked : Nat → Nat → Int32) (y_Lo_ones : Nat → Nat → Int32) (y_Lo_sum : Nat → Nat → Int32) (y_Lo_wideSize : Nat → Int32) (y_Lo_sumSize : Nat → Int32) (y_Lo_flickers : Nat → Int32) (y_Lo_ready : Nat → Int32), post r y_Cu_seen y_Cu_all y_Lo_asked y_Lo_ones y_Lo_sum y_Lo_wideSize y_Lo_sumSize y_Lo_flickers y_Lo_ready ∧ va_P D vwCl (wC q cA Fc_unkept Fc_tablesRead Pg_letters Pg_size Pg_fault Pg_rows Pg_inRow Pg_width Fl_entries Fl_states Fl_columns Fl_moves Fl_stables Fl_amiss Fl_normal Pt_lessers Pt_greaters Pt_size Lc_signals Lc_kept Lc_keptFrom Lc_candidates Lc_size Sc_signals Sc_codes Sc_size Ai_codes Ai_bits y_Cu_seen Cu_inThrees y_Cu_all y_Lo_asked y_Lo_ones y_Lo_sum y_Lo_wideSize y_Lo_sumSize y_Lo_flickers y_Lo_ready Wa_at Wa_turns Wa_changes) t.heap
set_option maxHeartbeats 4000000 in
set_option maxRecDepth 100000 in
theorem t_X9_mixedLogic_6 {p : Program} {l : Launch} {e : Env} {R : Room} {s : State} {m : MethodId} {args : Array Value} {below : List Frame} {meth : Method} {c : Code} {A : Nat → Prop} {D : va_G} {q : Nat → Nat} {cA : Nat → ClassId} {Fc_unkept : Int32} {Fc_tablesRead : Int32} {Pg_letters : Nat → Int32} {Pg_size : Int32} {Pg_fault : Int32} {Pg_rows : Int32} {Pg_inRow : Int32} {Pg_width : Int32} {Fl_entries : Nat → Int32} {Fl_states : Int32} {Fl_columns : Int32} {Fl_moves : Int32} {Fl_stables : Int32} {Fl_amiss : Int32} {Fl_normal : Int32} {Pt_lessers : Nat → Int32} {Pt_greaters : Nat → Int32} {Pt_size : Int32} {Lc_signals : Nat → Int32} {Lc_kept : Nat → Int64} {Lc_keptFrom : Nat → Int64} {Lc_candidates : Int32} {Lc_size : Int32} {Sc_signals : Nat → Int32} {Sc_codes : Nat → Int32} {Sc_size : Int32} {Ai_codes : Nat → Int32} {Ai_bits : Int32} {Cu_inThrees : Nat → Int32} {Wa_at : Int32} {Wa_turns : Int32} {Wa_changes : Int32} {post : Int64 → (Nat → Int32) → Int32 → (Nat → Nat → Int32) → (Nat → Nat → Int32) → (Nat → Nat → Int32) → (Nat → Int32) → (Nat → Int32) → (Nat → Int32) → (Nat → Int32) → Prop} {KE : Int64 → (Nat → Int32) → Int32 → (Nat → Nat → Int32) → (Nat → Nat → Int32) → (Nat → Nat → Int32) → (Nat → Int32) → (Nat → Int32) → (Nat → Int32) → (Nat → Int32) → Prop} {x3 : Int32} (X : kC p R s m args meth c cX9_mixedLogic RX9 8 (some .long) 5) (hK : va_K D vwCl (tyC cA) s) (hN : nwC s) (hE : ∀ (x4 : Int64) (Cu_seen : Nat → Int32) (Cu_all : Int32) (Lo_asked : Nat → Nat → Int32) (Lo_ones : Nat → Nat → Int32) (Lo_sum : Nat → Nat → Int32) (Lo_wideSize : Nat → Int32) (Lo_sumSize : Nat → Int32) (Lo_flickers : Nat → Int32) (Lo_ready : Nat → Int32), KE x4 Cu_seen Cu_all Lo_asked Lo_ones Lo_sum Lo_wideSize Lo_sumSize Lo_flickers Lo_ready → ∀ (ls : Array Slot) (H : Heap) (locs : List Loc), lv_has ls 8 [(0, .ref (q 0)), (3, .int x3), (4, .long x4)] → va_P D vwCl (wC q cA Fc_unkept Fc_tablesRead Pg_letters Pg_size Pg_fault Pg_rows Pg_inRow Pg_width Fl_entries Fl_states Fl_columns Fl_moves Fl_stables Fl_amiss Fl_normal Pt_lessers Pt_greaters Pt_size Lc_signals Lc_kept Lc_keptFrom Lc_candidates Lc_size Sc_signals Sc_codes Sc_size Ai_codes Ai_bits Cu_seen Cu_inThrees Cu_all Lo_asked Lo_ones Lo_sum Lo_wideSize Lo_sumSize Lo_flickers Lo_ready Wa_at Wa_turns Wa_changes) H → va_D A (wC q cA Fc_unkept Fc_tablesRead Pg_letters Pg_size Pg_fault Pg_rows Pg_inRow Pg_width Fl_entries Fl_states Fl_columns Fl_moves Fl_stables Fl_amiss Fl_normal Pt_lessers Pt_greaters Pt_size Lc_signals Lc_kept Lc_keptFrom Lc_candidates Lc_size Sc_signals Sc_codes Sc_size Ai_codes Ai_bits Cu_seen Cu_inThrees Cu_all Lo_asked Lo_ones Lo_sum Lo_wideSize Lo_sumSize Lo_flickers Lo_ready Wa_at Wa_turns Wa_changes) → va_S A s.heap H locs → W p l e R s m args below meth c H locs 0 0 (MQ below (qWl (Z_X9_mixedLogic D q cA Fc_unkept Fc_tablesRead Pg_letters Pg_size Pg_fault Pg_rows Pg_inRow Pg_width Fl_entries Fl_states Fl_columns Fl_moves Fl_stables Fl_amiss Fl_normal Pt_lessers Pt_greaters Pt_size Lc_signals Lc_kept Lc_keptFrom Lc_candidates Lc_size Sc_signals Sc_codes Sc_size Ai_codes Ai_bits Cu_inThrees Wa_at Wa_turns Wa_changes post) A) args s 0 0 A) (F0 m 32 ls [])) : ∀ (n : Nat) (x4 : Int64) (x6 : Int32) (Cu_seen : Nat → Int32) (Cu_all : Int32) (Lo_asked : Nat → Nat → Int32) (Lo_ones : Nat → Nat → Int32) (Lo_sum : Nat → Nat → Int32) (Lo_wideSize : Nat → Int32) (Lo_sumSize : Nat → Int32) (Lo_flickers : Nat → Int32) (Lo_ready : Nat → Int32), w_X9_mixedLogic_6 KE Fc_unkept Fl_normal Sc_size Ai_codes Ai_bits Cu_inThrees x3 n x4 x6 Cu_seen Cu_all Lo_asked Lo_ones Lo_sum Lo_wideSize Lo_sumSize Lo_flickers Lo_ready → ∀ (ls : Array Slot) (H : Heap) (locs : List Loc), lv_has ls 8 [(0, .ref (q 0)), (3, .int x3), (4, .long x4), (6, .int x6)] → va_P D vwCl (wC q cA Fc_unkept Fc_tablesRead Pg_letters Pg_size Pg_fault Pg_rows Pg_inRow Pg_width Fl_entries Fl_states Fl_columns Fl_moves Fl_stables Fl_amiss Fl_normal Pt_lessers Pt_greaters Pt_size Lc_signals Lc_kept Lc_keptFrom Lc_candidates Lc_size Sc_signals Sc_codes Sc_size Ai_codes Ai_bits Cu_seen Cu_inThrees Cu_all Lo_asked Lo_ones Lo_sum Lo_wideSize Lo_sumSize Lo_flickers Lo_ready Wa_at Wa_turns Wa_changes) H → va_D A (wC q cA Fc_unkept Fc_tablesRead Pg_letters Pg_size Pg_fault Pg_rows Pg_inRow Pg_width Fl_entries Fl_states Fl_columns Fl_moves Fl_stables Fl_amiss Fl_normal Pt_lessers Pt_greaters Pt_size Lc_signals Lc_kept Lc_keptFrom Lc_candidates Lc_size Sc_signals Sc_codes Sc_size Ai_codes Ai_bits Cu_seen Cu_inThrees Cu_all Lo_asked Lo_ones Lo_sum Lo_wideSize Lo_sumSize Lo_flickers Lo_ready Wa_at Wa_turns Wa_changes) → va_S A s.heap H locs → W p l e R s m args below meth c H locs 0 0 (MQ below (qWl (Z_X9_mixedLogic D q cA Fc_unkept Fc_tablesRead Pg_letters Pg_size Pg_fault Pg_rows Pg_inRow Pg_width Fl_entries Fl_states Fl_columns Fl_moves Fl_stables Fl_amiss Fl_normal Pt_lessers Pt_greaters Pt_size Lc_signals Lc_kept Lc_keptFrom Lc_candidates Lc_size Sc_signals Sc_codes Sc_size Ai_codes Ai_bits Cu_inThrees Wa_at Wa_turns Wa_changes post) A) args s 0 0 A) (F0 m 6 ls []) := by
  obtain ⟨hx, hb, hml, hown, hts, hr, hlocks, hRf, hRl⟩ := id X
  intro n
  induction n with
  | zero => intro x4 x6 Cu_seen Cu_all Lo_asked Lo_ones Lo_sum Lo_wideSize Lo_sumSize Lo_flickers Lo_ready hw; exact (show False from hw).elim
  | succ n ih =>
    intro x4 x6 Cu_seen Cu_all Lo_asked Lo_ones Lo_sum Lo_wideSize Lo_sumSize Lo_flickers Lo_ready hw ls H locs hl hP hD hS
    refine lv_iload hx hb dX9_mixedLogic_6 (lv_at hl 3 rfl) ?_
    refine lv_iconst (v := (5 : Int32)) hx hb dX9_mixedLogic_8 (by decide) ?_
    refine lv_icmp_gt (tgt := 32) hx hb dX9_mixedLogic_9 (by decide) (fun c_1 => ?_) (fun c_1 => ?_)
    · have hw := hw.1 c_1
      exact hE _ _ _ _ _ _ _ _ _ _ hw ls _ _ (lv_sub hl [0, 1, 2] rfl) hP hD hS
    · have hw := hw.2 c_1
      refine lv_lload hx hb dX9_mixedLogic_12 (lv_at hl 2 rfl) ?_
      refine lv_aload_n hx hb dX9_mixedLogic_14 rfl (lv_at hl 0 rfl) ?_
      refine lv_iload_n hx hb dX9_mixedLogic_15 rfl (lv_at hl 1 rfl) ?_
      refine lv_iload hx hb dX9_mixedLogic_16 (lv_at hl 3 rfl) ?_
      refine wr_i (va_runV (As := [.int x3, .int x6]) (rest := [.long x4]) ⟨hx, hb, hml, hown, hts⟩ (c_X9_logic l hw) (kRX9_283 (h := 4) hts (Nat.le_trans (Nat.le_of_ble_eq_true rfl) hRf) (Nat.le_trans (Nat.le_of_ble_eq_true rfl) hRl)) (preX9w hK hN hP hD) rfl rfl hl.1 rfl (lv_room (Nat.le_of_ble_eq_true rfl)) dX9_mixedLogic_18 ⟨Nat.zero_le _, Nat.zero_le _⟩) hS (fun r_2 t H locs ht hw hS => ?_)
      obtain ⟨yseen_2, yall_2, yasked_2, yones_2, ysum_2, ywideSize_2, ysumSize_2, yflickers_2, yready_2, hw, hP⟩ := hw
      rw [ht] at hP
      have hP : va_P D vwCl (wC q cA Fc_unkept Fc_tablesRead Pg_letters Pg_size Pg_fault Pg_rows Pg_inRow Pg_width Fl_entries Fl_states Fl_columns Fl_moves Fl_stables Fl_amiss Fl_normal Pt_lessers Pt_greaters Pt_size Lc_signals Lc_kept Lc_keptFrom Lc_candidates Lc_size Sc_signals Sc_codes Sc_size Ai_codes Ai_bits yseen_2 Cu_inThrees yall_2 yasked_2 yones_2 ysum_2 ywideSize_2 ysumSize_2 yflickers_2 yready_2 Wa_at Wa_turns Wa_changes) H := hP
      have hD : va_D A (wC q cA Fc_unkept Fc_tablesRead Pg_letters Pg_size Pg_fault Pg_rows Pg_inRow Pg_width Fl_entries Fl_states Fl_columns Fl_moves Fl_stables Fl_amiss Fl_normal Pt_lessers Pt_greaters Pt_size Lc_signals Lc_kept Lc_keptFrom Lc_candidates Lc_size Sc_signals Sc_codes Sc_size Ai_codes Ai_bits yseen_2 Cu_inThrees yall_2 yasked_2 yones_2 ysum_2 ywideSize_2 ysumSize_2 yflickers_2 yready_2 Wa_at Wa_turns Wa_changes) := dC hD
      refine ro_l (va_runS (As := [.long x4, .int r_2]) (rest := []) ⟨hx, hb, hml, hown, hts⟩ (c_X9_mixed l hw) (kRX9_247 (h := 0) hts (Nat.le_trans (Nat.le_of_ble_eq_true rfl) hRf) (Nat.le_trans (Nat.le_of_ble_eq_true rfl) hRl)) pre_0 rfl rfl hl.1 rfl (lv_room (Nat.le_of_ble_eq_true rfl)) dX9_mixedLogic_21 ⟨Nat.zero_le _, Nat.zero_le _⟩) (fun r_3 hw => ?_)
      refine lv_lstore (lv' := [(4, .long r_3), (0, .ref (q 0)), (3, .int x3), (6, .int x6)]) hx hb dX9_mixedLogic_24 hl (by decide) rfl (fun ls hl => ?_)
      obtain ⟨x6_4, e_4⟩ : ∃ z : Int32, z = x6 + (1 : Int32) := ⟨_, rfl⟩
      have hw := hw x6_4 e_4
      refine lv_iinc (v := x6_4) (lv' := [(6, .int x6_4), (4, .long r_3), (0, .ref (q 0)), (3, .int x3)]) hx hb dX9_mixedLogic_26 hl (k := 3) rfl (by rw [e_4]; rfl) (by decide) rfl (fun ls hl => ?_)
      refine lv_goto (tgt := 6) hx hb dX9_mixedLogic_29 (by decide) ?_
      exact ih _ _ _ _ _ _ _ _ _ _ _ hw ls _ _ (lv_sub hl [2, 3, 1, 0] rfl) hP hD hS
set_option maxHeartbeats 4000000 in
set_option maxRecDepth 100000 in
theorem t_X9_mixedLogic_45 {p : Program} {l : Launch} {e : Env} {R : Room} {s : State} {m : MethodId} {args : Array Value} {below : List Frame} {meth : Method} {c : Code} {A : Nat → Prop} {D : va_G} {q : Nat → Nat} {cA : Nat → ClassId} {Fc_unkept : Int32} {Fc_tablesRead : Int32} {Pg_letters : Nat → Int32} {Pg_size : Int32} {Pg_fault : Int32} {Pg_rows : Int32} {Pg_inRow : Int32} {Pg_width : Int32} {Fl_entries : Nat → Int32} {Fl_states : Int32} {Fl_columns : Int32} {Fl_moves : Int32} {Fl_stables : Int32} {Fl_amiss : Int32} {Fl_normal : Int32} {Pt_lessers : Nat → Int32} {Pt_greaters : Nat → Int32} {Pt_size : Int32} {Lc_signals : Nat → Int32} {Lc_kept : Nat → Int64} {Lc_keptFrom : Nat → Int64} {Lc_candidates : Int32} {Lc_size : Int32} {Sc_signals : Nat → Int32} {Sc_codes : Nat → Int32} {Sc_size : Int32} {Ai_codes : Nat → Int32} {Ai_bits : Int32} {Cu_inThrees : Nat → Int32} {Wa_at : Int32} {Wa_turns : Int32} {Wa_changes : Int32} {post : Int64 → (Nat → Int32) → Int32 → (Nat → Nat → Int32) → (Nat → Nat → Int32) → (Nat → Nat → Int32) → (Nat → Int32) → (Nat → Int32) → (Nat → Int32) → (Nat → Int32) → Prop} {KE : Int64 → (Nat → Int32) → Int32 → (Nat → Nat → Int32) → (Nat → Nat → Int32) → (Nat → Nat → Int32) → (Nat → Int32) → (Nat → Int32) → (Nat → Int32) → (Nat → Int32) → Prop} {x3 : Int32} {x6 : Int32} (X : kC p R s m args meth c cX9_mixedLogic RX9 8 (some .long) 5) (hK : va_K D vwCl (tyC cA) s) (hN : nwC s) (hE : ∀ (x4 : Int64) (Cu_seen : Nat → Int32) (Cu_all : Int32) (Lo_asked : Nat → Nat → Int32) (Lo_ones : Nat → Nat → Int32) (Lo_sum : Nat → Nat → Int32) (Lo_wideSize : Nat → Int32) (Lo_sumSize : Nat → Int32) (Lo_flickers : Nat → Int32) (Lo_ready : Nat → Int32), KE x4 Cu_seen Cu_all Lo_asked Lo_ones Lo_sum Lo_wideSize Lo_sumSize Lo_flickers Lo_ready → ∀ (ls : Array Slot) (H : Heap) (locs : List Loc), lv_has ls 8 [(4, .long x4)] → va_P D vwCl (wC q cA Fc_unkept Fc_tablesRead Pg_letters Pg_size Pg_fault Pg_rows Pg_inRow Pg_width Fl_entries Fl_states Fl_columns Fl_moves Fl_stables Fl_amiss Fl_normal Pt_lessers Pt_greaters Pt_size Lc_signals Lc_kept Lc_keptFrom Lc_candidates Lc_size Sc_signals Sc_codes Sc_size Ai_codes Ai_bits Cu_seen Cu_inThrees Cu_all Lo_asked Lo_ones Lo_sum Lo_wideSize Lo_sumSize Lo_flickers Lo_ready Wa_at Wa_turns Wa_changes) H → va_D A (wC q cA Fc_unkept Fc_tablesRead Pg_letters Pg_size Pg_fault Pg_rows Pg_inRow Pg_width Fl_entries Fl_states Fl_columns Fl_moves Fl_stables Fl_amiss Fl_normal Pt_lessers Pt_greaters Pt_size Lc_signals Lc_kept Lc_keptFrom Lc_candidates Lc_size Sc_signals Sc_codes Sc_size Ai_codes Ai_bits Cu_seen Cu_inThrees Cu_all Lo_asked Lo_ones Lo_sum Lo_wideSize Lo_sumSize Lo_flickers Lo_ready Wa_at Wa_turns Wa_changes) → va_S A s.heap H locs → W p l e R s m args below meth c H locs 0 0 (MQ below (qWl (Z_X9_mixedLogic D q cA Fc_unkept Fc_tablesRead Pg_letters Pg_size Pg_fault Pg_rows Pg_inRow Pg_width Fl_entries Fl_states Fl_columns Fl_moves Fl_stables Fl_amiss Fl_normal Pt_lessers Pt_greaters Pt_size Lc_signals Lc_kept Lc_keptFrom Lc_candidates Lc_size Sc_signals Sc_codes Sc_size Ai_codes Ai_bits Cu_inThrees Wa_at Wa_turns Wa_changes post) A) args s 0 0 A) (F0 m 88 ls [])) : ∀ (n : Nat) (x4 : Int64) (x7 : Int32) (Cu_seen : Nat → Int32) (Cu_all : Int32) (Lo_asked : Nat → Nat → Int32) (Lo_ones : Nat → Nat → Int32) (Lo_sum : Nat → Nat → Int32) (Lo_wideSize : Nat → Int32) (Lo_sumSize : Nat → Int32) (Lo_flickers : Nat → Int32) (Lo_ready : Nat → Int32), w_X9_mixedLogic_45 KE Fc_unkept Fl_normal Sc_size Ai_codes Ai_bits Cu_inThrees x3 x6 n x4 x7 Cu_seen Cu_all Lo_asked Lo_ones Lo_sum Lo_wideSize Lo_sumSize Lo_flickers Lo_ready → ∀ (ls : Array Slot) (H : Heap) (locs : List Loc), lv_has ls 8 [(0, .ref (q 0)), (3, .int x3), (4, .long x4), (6, .int x6), (7, .int x7)] → va_P D vwCl (wC q cA Fc_unkept Fc_tablesRead Pg_letters Pg_size Pg_fault Pg_rows Pg_inRow Pg_width Fl_entries Fl_states Fl_columns Fl_moves Fl_stables Fl_amiss Fl_normal Pt_lessers Pt_greaters Pt_size Lc_signals Lc_kept Lc_keptFrom Lc_candidates Lc_size Sc_signals Sc_codes Sc_size Ai_codes Ai_bits Cu_seen Cu_inThrees Cu_all Lo_asked Lo_ones Lo_sum Lo_wideSize Lo_sumSize Lo_flickers Lo_ready Wa_at Wa_turns Wa_changes) H → va_D A (wC q cA Fc_unkept Fc_tablesRead Pg_letters Pg_size Pg_fault Pg_rows Pg_inRow Pg_width Fl_entries Fl_states Fl_columns Fl_moves Fl_stables Fl_amiss Fl_normal Pt_lessers Pt_greaters Pt_size Lc_signals Lc_kept Lc_keptFrom Lc_candidates Lc_size Sc_signals Sc_codes Sc_size Ai_codes Ai_bits Cu_seen Cu_inThrees Cu_all Lo_asked Lo_ones Lo_sum Lo_wideSize Lo_sumSize Lo_flickers Lo_ready Wa_at Wa_turns Wa_changes) → va_S A s.heap H locs → W p l e R s m args below meth c H locs 0 0 (MQ below (qWl (Z_X9_mixedLogic D q cA Fc_unkept Fc_tablesRead Pg_letters Pg_size Pg_fault Pg_rows Pg_inRow Pg_width Fl_entries Fl_states Fl_columns Fl_moves Fl_stables Fl_amiss Fl_normal Pt_lessers Pt_greaters Pt_size Lc_signals Lc_kept Lc_keptFrom Lc_candidates Lc_size Sc_signals Sc_codes Sc_size Ai_codes Ai_bits Cu_inThrees Wa_at Wa_turns Wa_changes post) A) args s 0 0 A) (F0 m 45 ls []) := by
  obtain ⟨hx, hb, hml, hown, hts, hr, hlocks, hRf, hRl⟩ := id X
  intro n
  induction n with
  | zero => intro x4 x7 Cu_seen Cu_all Lo_asked Lo_ones Lo_sum Lo_wideSize Lo_sumSize Lo_flickers Lo_ready hw; exact (show False from hw).elim
  | succ n ih =>
    intro x4 x7 Cu_seen Cu_all Lo_asked Lo_ones Lo_sum Lo_wideSize Lo_sumSize Lo_flickers Lo_ready hw ls H locs hl hP hD hS
    refine lv_iload hx hb dX9_mixedLogic_45 (lv_at hl 4 rfl) ?_
    refine lv_iload hx hb dX9_mixedLogic_47 (lv_at hl 3 rfl) ?_
    refine lv_icmp_ge (tgt := 88) hx hb dX9_mixedLogic_49 (by decide) (fun c_8 => ?_) (fun c_8 => ?_)
    · have hw := hw.1 c_8
      exact hE _ _ _ _ _ _ _ _ _ _ hw ls _ _ (lv_sub hl [2] rfl) hP hD hS
    · have hw := hw.2 c_8
      refine lv_lload hx hb dX9_mixedLogic_52 (lv_at hl 2 rfl) ?_
      refine lv_aload_n hx hb dX9_mixedLogic_54 rfl (lv_at hl 0 rfl) ?_
      refine lv_iload_n hx hb dX9_mixedLogic_55 rfl (lv_at hl 1 rfl) ?_
      refine lv_iload hx hb dX9_mixedLogic_56 (lv_at hl 4 rfl) ?_
      refine lv_iconst (v := (0 : Int32)) hx hb dX9_mixedLogic_58 (by decide) ?_
      refine wr_i (va_runV (As := [.int x3, .int x7, .int (0 : Int32)]) (rest := [.long x4]) ⟨hx, hb, hml, hown, hts⟩ (c_X9_product l hw) (kRX9_286 (h := 4) hts (Nat.le_trans (Nat.le_of_ble_eq_true rfl) hRf) (Nat.le_trans (Nat.le_of_ble_eq_true rfl) hRl)) (preX9w hK hN hP hD) rfl rfl hl.1 rfl (lv_room (Nat.le_of_ble_eq_true rfl)) dX9_mixedLogic_59 ⟨Nat.zero_le _, Nat.zero_le _⟩) hS (fun r_9 t H locs ht hw hS => ?_)
      obtain ⟨yseen_9, yall_9, yasked_9, yones_9, ysum_9, ywideSize_9, ysumSize_9, yflickers_9, yready_9, hw, hP⟩ := hw
      rw [ht] at hP
      have hP : va_P D vwCl (wC q cA Fc_unkept Fc_tablesRead Pg_letters Pg_size Pg_fault Pg_rows Pg_inRow Pg_width Fl_entries Fl_states Fl_columns Fl_moves Fl_stables Fl_amiss Fl_normal Pt_lessers Pt_greaters Pt_size Lc_signals Lc_kept Lc_keptFrom Lc_candidates Lc_size Sc_signals Sc_codes Sc_size Ai_codes Ai_bits yseen_9 Cu_inThrees yall_9 yasked_9 yones_9 ysum_9 ywideSize_9 ysumSize_9 yflickers_9 yready_9 Wa_at Wa_turns Wa_changes) H := hP
      have hD : va_D A (wC q cA Fc_unkept Fc_tablesRead Pg_letters Pg_size Pg_fault Pg_rows Pg_inRow Pg_width Fl_entries Fl_states Fl_columns Fl_moves Fl_stables Fl_amiss Fl_normal Pt_lessers Pt_greaters Pt_size Lc_signals Lc_kept Lc_keptFrom Lc_candidates Lc_size Sc_signals Sc_codes Sc_size Ai_codes Ai_bits yseen_9 Cu_inThrees yall_9 yasked_9 yones_9 ysum_9 ywideSize_9 ysumSize_9 yflickers_9 yready_9 Wa_at Wa_turns Wa_changes) := dC hD
      refine ro_l (va_runS (As := [.long x4, .int r_9]) (rest := []) ⟨hx, hb, hml, hown, hts⟩ (c_X9_mixed l hw) (kRX9_247 (h := 0) hts (Nat.le_trans (Nat.le_of_ble_eq_true rfl) hRf) (Nat.le_trans (Nat.le_of_ble_eq_true rfl) hRl)) pre_0 rfl rfl hl.1 rfl (lv_room (Nat.le_of_ble_eq_true rfl)) dX9_mixedLogic_62 ⟨Nat.zero_le _, Nat.zero_le _⟩) (fun r_10 hw => ?_)
      refine lv_lstore (lv' := [(4, .long r_10), (0, .ref (q 0)), (3, .int x3), (6, .int x6), (7, .int x7)]) hx hb dX9_mixedLogic_65 hl (by decide) rfl (fun ls hl => ?_)
      refine lv_lload hx hb dX9_mixedLogic_67 (lv_at hl 0 rfl) ?_
      refine lv_aload_n hx hb dX9_mixedLogic_69 rfl (lv_at hl 1 rfl) ?_
      refine lv_iload_n hx hb dX9_mixedLogic_70 rfl (lv_at hl 2 rfl) ?_
      refine lv_iload hx hb dX9_mixedLogic_71 (lv_at hl 4 rfl) ?_
      refine lv_iconst (v := (1 : Int32)) hx hb dX9_mixedLogic_73 (by decide) ?_
      refine wr_i (va_runV (As := [.int x3, .int x7, .int (1 : Int32)]) (rest := [.long r_10]) ⟨hx, hb, hml, hown, hts⟩ (c_X9_product l hw) (kRX9_286 (h := 4) hts (Nat.le_trans (Nat.le_of_ble_eq_true rfl) hRf) (Nat.le_trans (Nat.le_of_ble_eq_true rfl) hRl)) (preX9w hK hN hP hD) rfl rfl hl.1 rfl (lv_room (Nat.le_of_ble_eq_true rfl)) dX9_mixedLogic_74 ⟨Nat.zero_le _, Nat.zero_le _⟩) hS (fun r_11 t H locs ht hw hS => ?_)
      obtain ⟨yseen_11, yall_11, yasked_11, yones_11, ysum_11, ywideSize_11, ysumSize_11, yflickers_11, yready_11, hw, hP⟩ := hw
      rw [ht] at hP
      have hP : va_P D vwCl (wC q cA Fc_unkept Fc_tablesRead Pg_letters Pg_size Pg_fault Pg_rows Pg_inRow Pg_width Fl_entries Fl_states Fl_columns Fl_moves Fl_stables Fl_amiss Fl_normal Pt_lessers Pt_greaters Pt_size Lc_signals Lc_kept Lc_keptFrom Lc_candidates Lc_size Sc_signals Sc_codes Sc_size Ai_codes Ai_bits yseen_11 Cu_inThrees yall_11 yasked_11 yones_11 ysum_11 ywideSize_11 ysumSize_11 yflickers_11 yready_11 Wa_at Wa_turns Wa_changes) H := hP
      have hD : va_D A (wC q cA Fc_unkept Fc_tablesRead Pg_letters Pg_size Pg_fault Pg_rows Pg_inRow Pg_width Fl_entries Fl_states Fl_columns Fl_moves Fl_stables Fl_amiss Fl_normal Pt_lessers Pt_greaters Pt_size Lc_signals Lc_kept Lc_keptFrom Lc_candidates Lc_size Sc_signals Sc_codes Sc_size Ai_codes Ai_bits yseen_11 Cu_inThrees yall_11 yasked_11 yones_11 ysum_11 ywideSize_11 ysumSize_11 yflickers_11 yready_11 Wa_at Wa_turns Wa_changes) := dC hD
      refine ro_l (va_runS (As := [.long r_10, .int r_11]) (rest := []) ⟨hx, hb, hml, hown, hts⟩ (c_X9_mixed l hw) (kRX9_247 (h := 0) hts (Nat.le_trans (Nat.le_of_ble_eq_true rfl) hRf) (Nat.le_trans (Nat.le_of_ble_eq_true rfl) hRl)) pre_0 rfl rfl hl.1 rfl (lv_room (Nat.le_of_ble_eq_true rfl)) dX9_mixedLogic_77 ⟨Nat.zero_le _, Nat.zero_le _⟩) (fun r_12 hw => ?_)
      refine lv_lstore (lv' := [(4, .long r_12), (0, .ref (q 0)), (3, .int x3), (6, .int x6), (7, .int x7)]) hx hb dX9_mixedLogic_80 hl (by decide) rfl (fun ls hl => ?_)
      obtain ⟨x7_13, e_13⟩ : ∃ z : Int32, z = x7 + (1 : Int32) := ⟨_, rfl⟩
      have hw := hw x7_13 e_13
      refine lv_iinc (v := x7_13) (lv' := [(7, .int x7_13), (4, .long r_12), (0, .ref (q 0)), (3, .int x3), (6, .int x6)]) hx hb dX9_mixedLogic_82 hl (k := 4) rfl (by rw [e_13]; rfl) (by decide) rfl (fun ls hl => ?_)
      refine lv_goto (tgt := 45) hx hb dX9_mixedLogic_85 (by decide) ?_
      exact ih _ _ _ _ _ _ _ _ _ _ _ hw ls _ _ (lv_sub hl [2, 3, 1, 4, 0] rfl) hP hD hS
set_option maxHeartbeats 4000000 in
set_option maxRecDepth 100000 in
theorem c_X9_mixedLogic (l : Launch) {D : va_G} {q : Nat → Nat} {cA : Nat → ClassId} {Fc_unkept : Int32} {Fc_tablesRead : Int32} {Pg_letters : Nat → Int32} {Pg_size : Int32} {Pg_fault : Int32} {Pg_rows : Int32} {Pg_inRow : Int32} {Pg_width : Int32} {Fl_entries : Nat → Int32} {Fl_states : Int32} {Fl_columns : Int32} {Fl_moves : Int32} {Fl_stables : Int32} {Fl_amiss : Int32} {Fl_normal : Int32} {Pt_lessers : Nat → Int32} {Pt_greaters : Nat → Int32} {Pt_size : Int32} {Lc_signals : Nat → Int32} {Lc_kept : Nat → Int64} {Lc_keptFrom : Nat → Int64} {Lc_candidates : Int32} {Lc_size : Int32} {Sc_signals : Nat → Int32} {Sc_codes : Nat → Int32} {Sc_size : Int32} {Ai_codes : Nat → Int32} {Ai_bits : Int32} {Cu_seen : Nat → Int32} {Cu_inThrees : Nat → Int32} {Cu_all : Int32} {Lo_asked : Nat → Nat → Int32} {Lo_ones : Nat → Nat → Int32} {Lo_sum : Nat → Nat → Int32} {Lo_wideSize : Nat → Int32} {Lo_sumSize : Nat → Int32} {Lo_flickers : Nat → Int32} {Lo_ready : Nat → Int32} {Wa_at : Int32} {Wa_turns : Int32} {Wa_changes : Int32} {A : Nat → Prop} {post : Int64 → (Nat → Int32) → Int32 → (Nat → Nat → Int32) → (Nat → Nat → Int32) → (Nat → Nat → Int32) → (Nat → Int32) → (Nat → Int32) → (Nat → Int32) → (Nat → Int32) → Prop} {x1 : Int64} {x3 : Int32} (hw : wp_X9_mixedLogic post Fc_unkept Fl_normal Sc_size Ai_codes Ai_bits Cu_seen Cu_inThrees Cu_all Lo_asked Lo_ones Lo_sum Lo_wideSize Lo_sumSize Lo_flickers Lo_ready x1 x3) : Met l yX9_mixedLogic (Cond.code yX9_mixedLogic cX9_mixedLogic 8 (some .long) :: wsL_law) (rmH 5) (va_Pc [.ref (q 0), .long x1, .int x3] (fun U => va_P D vwCl (wC q cA Fc_unkept Fc_tablesRead Pg_letters Pg_size Pg_fault Pg_rows Pg_inRow Pg_width Fl_entries Fl_states Fl_columns Fl_moves Fl_stables Fl_amiss Fl_normal Pt_lessers Pt_greaters Pt_size Lc_signals Lc_kept Lc_keptFrom Lc_candidates Lc_size Sc_signals Sc_codes Sc_size Ai_codes Ai_bits Cu_seen Cu_inThrees Cu_all Lo_asked Lo_ones Lo_sum Lo_wideSize Lo_sumSize Lo_flickers Lo_ready Wa_at Wa_turns Wa_changes) U.heap ∧ va_K D vwCl (tyC cA) U ∧ nwC U ∧ va_D A (wC q cA Fc_unkept Fc_tablesRead Pg_letters Pg_size Pg_fault Pg_rows Pg_inRow Pg_width Fl_entries Fl_states Fl_columns Fl_moves Fl_stables Fl_amiss Fl_normal Pt_lessers Pt_greaters Pt_size Lc_signals Lc_kept Lc_keptFrom Lc_candidates Lc_size Sc_signals Sc_codes Sc_size Ai_codes Ai_bits Cu_seen Cu_inThrees Cu_all Lo_asked Lo_ones Lo_sum Lo_wideSize Lo_sumSize Lo_flickers Lo_ready Wa_at Wa_turns Wa_changes))) (qWl (Z_X9_mixedLogic D q cA Fc_unkept Fc_tablesRead Pg_letters Pg_size Pg_fault Pg_rows Pg_inRow Pg_width Fl_entries Fl_states Fl_columns Fl_moves Fl_stables Fl_amiss Fl_normal Pt_lessers Pt_greaters Pt_size Lc_signals Lc_kept Lc_keptFrom Lc_candidates Lc_size Sc_signals Sc_codes Sc_size Ai_codes Ai_bits Cu_inThrees Wa_at Wa_turns Wa_changes post) A) 0 0 A := by
  refine Met.ofW (cc := cX9_mixedLogic) (maxL := 8) (ret := (some .long)) (by decide) rfl ?_
  intro p e s m args below meth c s₁ B hml hv
  obtain ⟨rfl, hP, hK, hN, hD⟩ := hv
  have X : kC p (headSpec (Cond.code yX9_mixedLogic cX9_mixedLogic 8 (some .long) :: wsL_law) (rmH 5)).room s m _ meth c cX9_mixedLogic RX9 8 (some .long) 5 := ⟨B.exec, B.bytes, hml, findClass_of_methodNamed B.named, fun w h => atoms_spec (ws := Cond.code yX9_mixedLogic cX9_mixedLogic 8 (some .long) :: wsL_law) B.pre w (List.mem_cons_of_mem _ h), B.returns, B.notSynchronized, Nat.le_refl _, Nat.le_refl _⟩
  obtain ⟨hx, hb, hml, hown, hts, hr, hlocks, hRf, hRl⟩ := id X
  have hS : va_S A s.heap s.heap [] := va_S.rf
  have hl := lv_entry ([.ref (q 0), .long x1, .int x3]) (n := 8) (Nat.le_of_ble_eq_true rfl)
  rw [lg_entry_eq]
  generalize (lg_sl ([.ref (q 0), .long x1, .int x3]) ++ List.replicate (8 - (lg_sl ([.ref (q 0), .long x1, .int x3])).length) Slot.unset).toArray = ls at hl ⊢
  have hl : lv_has ls 8 [(0, .ref (q 0)), (1, .long x1), (3, .int x3)] := hl
  refine lv_lload_n hx hb dX9_mixedLogic_0 rfl (lv_at hl 1 rfl) ?_
  refine lv_lstore (lv' := [(4, .long x1), (0, .ref (q 0)), (1, .long x1), (3, .int x3)]) hx hb dX9_mixedLogic_1 hl (by decide) rfl (fun ls hl => ?_)
  refine lv_iconst (v := (0 : Int32)) hx hb dX9_mixedLogic_3 (by decide) ?_
  refine lv_istore (lv' := [(6, .int (0 : Int32)), (4, .long x1), (0, .ref (q 0)), (1, .long x1), (3, .int x3)]) hx hb dX9_mixedLogic_4 hl (by decide) rfl (fun ls hl => ?_)
  obtain ⟨n_5, hw⟩ := hw
  refine t_X9_mixedLogic_6 X hK hN (fun x4_5 yseen_5 yall_5 yasked_5 yones_5 ysum_5 ywideSize_5 ysumSize_5 yflickers_5 yready_5 hw ls H locs hl hP hD hS => ?_) n_5 _ _ _ _ _ _ _ _ _ _ _ hw ls _ _ (lv_sub hl [2, 4, 1, 0] rfl) hP hD hS
  refine lv_aload_n hx hb dX9_mixedLogic_32 rfl (lv_at hl 0 rfl) ?_
  refine lv_iload_n hx hb dX9_mixedLogic_33 rfl (lv_at hl 1 rfl) ?_
  refine wr_r (va_runV (As := [.int x3]) (rest := []) ⟨hx, hb, hml, hown, hts⟩ (c_X9_workedOut l hw) (kRX9_199 (h := 3) hts (Nat.le_trans (Nat.le_of_ble_eq_true rfl) hRf) (Nat.le_trans (Nat.le_of_ble_eq_true rfl) hRl)) (preX9w hK hN hP hD) rfl rfl hl.1 rfl (lv_room (Nat.le_of_ble_eq_true rfl)) dX9_mixedLogic_34 ⟨Nat.zero_le _, Nat.zero_le _⟩) hS (fun rr t H locs ht hw hS => ?_)
  obtain ⟨j_6, yseen_6, yall_6, yasked_6, yones_6, ysum_6, ywideSize_6, ysumSize_6, yflickers_6, yready_6, rfl, hj_6, hw, hP⟩ := hw
  rw [ht] at hP
  have hP : va_P D vwCl (wC q cA Fc_unkept Fc_tablesRead Pg_letters Pg_size Pg_fault Pg_rows Pg_inRow Pg_width Fl_entries Fl_states Fl_columns Fl_moves Fl_stables Fl_amiss Fl_normal Pt_lessers Pt_greaters Pt_size Lc_signals Lc_kept Lc_keptFrom Lc_candidates Lc_size Sc_signals Sc_codes Sc_size Ai_codes Ai_bits yseen_6 Cu_inThrees yall_6 yasked_6 yones_6 ysum_6 ywideSize_6 ysumSize_6 yflickers_6 yready_6 Wa_at Wa_turns Wa_changes) H := hP
  have hD : va_D A (wC q cA Fc_unkept Fc_tablesRead Pg_letters Pg_size Pg_fault Pg_rows Pg_inRow Pg_width Fl_entries Fl_states Fl_columns Fl_moves Fl_stables Fl_amiss Fl_normal Pt_lessers Pt_greaters Pt_size Lc_signals Lc_kept Lc_keptFrom Lc_candidates Lc_size Sc_signals Sc_codes Sc_size Ai_codes Ai_bits yseen_6 Cu_inThrees yall_6 yasked_6 yones_6 ysum_6 ywideSize_6 ysumSize_6 yflickers_6 yready_6 Wa_at Wa_turns Wa_changes) := dC hD
  refine gRX9_206 (k := j_6) (hj_6) hx hb hown hts hK hN hP dX9_mixedLogic_37 ?_
  refine lv_topi (fun x6_7 e_7 => ?_)
  have hw := hw x6_7 e_7
  refine lv_istore (lv' := [(6, .int x6_7), (0, .ref (q 0)), (3, .int x3), (4, .long x4_5)]) hx hb dX9_mixedLogic_40 hl (by decide) rfl (fun ls hl => ?_)
  refine lv_iconst (v := (0 : Int32)) hx hb dX9_mixedLogic_42 (by decide) ?_
  refine lv_istore (lv' := [(7, .int (0 : Int32)), (6, .int x6_7), (0, .ref (q 0)), (3, .int x3), (4, .long x4_5)]) hx hb dX9_mixedLogic_43 hl (by decide) rfl (fun ls hl => ?_)
  obtain ⟨n_14, hw⟩ := hw
  refine t_X9_mixedLogic_45 X hK hN (fun x4_14 yseen_14 yall_14 yasked_14 yones_14 ysum_14 ywideSize_14 ysumSize_14 yflickers_14 yready_14 hw ls H locs hl hP hD hS => ?_) n_14 _ _ _ _ _ _ _ _ _ _ _ hw ls _ _ (lv_sub hl [2, 3, 4, 1, 0] rfl) hP hD hS
  refine lv_lload hx hb dX9_mixedLogic_88 (lv_at hl 0 rfl) ?_
  exact rw_l hx hb hr hlocks (fun t ht => ⟨yseen_14, yall_14, yasked_14, yones_14, ysum_14, ywideSize_14, ysumSize_14, yflickers_14, yready_14, hw, by rw [ht]; exact hP⟩) hS dX9_mixedLogic_90
set_option maxHeartbeats 4000000 in
set_option maxRecDepth 100000 in
theorem t_X9_mixedCode_20 {p : Program} {l : Launch} {e : Env} {R : Room} {s : State} {m : MethodId} {args : Array Value} {below : List Frame} {meth : Method} {c : Code} {D : va_G} {q : Nat → Nat} {cA : Nat → ClassId} {Fc_unkept : Int32} {Fc_tablesRead : Int32} {Pg_letters : Nat → Int32} {Pg_size : Int32} {Pg_fault : Int32} {Pg_rows : Int32} {Pg_inRow : Int32} {Pg_width : Int32} {Fl_entries : Nat → Int32} {Fl_states : Int32} {Fl_columns : Int32} {Fl_moves : Int32} {Fl_stables : Int32} {Fl_amiss : Int32} {Fl_normal : Int32} {Pt_lessers : Nat → Int32} {Pt_greaters : Nat → Int32} {Pt_size : Int32} {Lc_signals : Nat → Int32} {Lc_kept : Nat → Int64} {Lc_keptFrom : Nat → Int64} {Lc_candidates : Int32} {Lc_size : Int32} {Sc_signals : Nat → Int32} {Sc_codes : Nat → Int32} {Sc_size : Int32} {Ai_codes : Nat → Int32} {Ai_bits : Int32} {Cu_seen : Nat → Int32} {Cu_inThrees : Nat → Int32} {Cu_all : Int32} {Lo_asked : Nat → Nat → Int32} {Lo_ones : Nat → Nat → Int32} {Lo_sum : Nat → Nat → Int32} {Lo_wideSize : Nat → Int32} {Lo_sumSize : Nat → Int32} {Lo_flickers : Nat → Int32} {Lo_ready : Nat → Int32} {Wa_at : Int32} {Wa_turns : Int32} {Wa_changes : Int32} {post : Int64 → Prop} {KE : Int64 → Prop} {x5 : Int32} (X : kC p R s m args meth c cX9_mixedCode RX9 7 (some .long) 4) (hK : va_K D vwCl (tyC cA) s) (hN : nwC s) (hP : va_P D vwCl (wC q cA Fc_unkept Fc_tablesRead Pg_letters Pg_size Pg_fault Pg_rows Pg_inRow Pg_width Fl_entries Fl_states Fl_columns Fl_moves Fl_stables Fl_amiss Fl_normal Pt_lessers Pt_greaters Pt_size Lc_signals Lc_kept Lc_keptFrom Lc_candidates Lc_size Sc_signals Sc_codes Sc_size Ai_codes Ai_bits Cu_seen Cu_inThrees Cu_all Lo_asked Lo_ones Lo_sum Lo_wideSize Lo_sumSize Lo_flickers Lo_ready Wa_at Wa_turns Wa_changes) s.heap) (hE : ∀ (x3 : Int64), KE x3 → ∀ (ls : Array Slot), lv_has ls 7 [(0, .ref (q 0)), (3, .long x3), (5, .int x5)] → W p l e R s m args below meth c s.heap [] 0 0 (MQ below (qRl post) args s 0 0 (fun _ => False)) (F0 m 45 ls [])) : ∀ (n : Nat) (x3 : Int64) (x6 : Int32), w_X9_mixedCode_20 KE Fl_normal Pt_lessers Pt_greaters Pt_size Sc_signals Sc_size x5 n x3 x6 → ∀ (ls : Array Slot), lv_has ls 7 [(0, .ref (q 0)), (3, .long x3), (5, .int x5), (6, .int x6)] → W p l e R s m args below meth c s.heap [] 0 0 (MQ below (qRl post) args s 0 0 (fun _ => False)) (F0 m 20 ls []) := by
  obtain ⟨hx, hb, hml, hown, hts, hr, hlocks, hRf, hRl⟩ := id X
  intro n
  induction n with
  | zero => intro x3 x6 hw; exact (show False from hw).elim
  | succ n ih =>
    intro x3 x6 hw ls hl
    refine lv_iload hx hb dX9_mixedCode_20 (lv_at hl 3 rfl) ?_
    refine lv_iconst (v := (2 : Int32)) hx hb dX9_mixedCode_22 (by decide) ?_
    refine lv_icmp_gt (tgt := 45) hx hb dX9_mixedCode_23 (by decide) (fun c_2 => ?_) (fun c_2 => ?_)
    · have hw := hw.1 c_2
      exact hE _ hw ls (lv_sub hl [0, 1, 2] rfl)
    · have hw := hw.2 c_2
      refine lv_lload_n hx hb dX9_mixedCode_26 rfl (lv_at hl 1 rfl) ?_
      refine lv_aload_n hx hb dX9_mixedCode_27 rfl (lv_at hl 0 rfl) ?_
      refine lv_iload hx hb dX9_mixedCode_28 (lv_at hl 2 rfl) ?_
      refine lv_iload hx hb dX9_mixedCode_30 (lv_at hl 3 rfl) ?_
      refine ro_i (va_runV (As := [.int x5, .int x6]) (rest := [.long x3]) ⟨hx, hb, hml, hown, hts⟩ (c_X9_parting l hw) (kRX9_274 (h := 3) hts (Nat.le_trans (Nat.le_of_ble_eq_true rfl) hRf) (Nat.le_trans (Nat.le_of_ble_eq_true rfl) hRl)) (preX9 hK hN hP) rfl rfl hl.1 rfl (lv_room (Nat.le_of_ble_eq_true rfl)) dX9_mixedCode_32 ⟨Nat.zero_le _, Nat.zero_le _⟩) (fun r_3 hw => ?_)
      refine ro_l (va_runS (As := [.long x3, .int r_3]) (rest := []) ⟨hx, hb, hml, hown, hts⟩ (c_X9_mixed l hw) (kRX9_247 (h := 0) hts (Nat.le_trans (Nat.le_of_ble_eq_true rfl) hRf) (Nat.le_trans (Nat.le_of_ble_eq_true rfl) hRl)) pre_0 rfl rfl hl.1 rfl (lv_room (Nat.le_of_ble_eq_true rfl)) dX9_mixedCode_35 ⟨Nat.zero_le _, Nat.zero_le _⟩) (fun r_4 hw => ?_)
      refine lv_lstore_n (lv' := [(3, .long r_4), (0, .ref (q 0)), (5, .int x5), (6, .int x6)]) hx hb dX9_mixedCode_38 rfl hl (by decide) rfl (fun ls hl => ?_)
      obtain ⟨x6_5, e_5⟩ : ∃ z : Int32, z = x6 + (1 : Int32) := ⟨_, rfl⟩
      have hw := hw x6_5 e_5
      refine lv_iinc (v := x6_5) (lv' := [(6, .int x6_5), (3, .long r_4), (0, .ref (q 0)), (5, .int x5)]) hx hb dX9_mixedCode_39 hl (k := 3) rfl (by rw [e_5]; rfl) (by decide) rfl (fun ls hl => ?_)
      refine lv_goto (tgt := 20) hx hb dX9_mixedCode_42 (by decide) ?_
      exact ih _ _ hw ls (lv_sub hl [2, 1, 3, 0] rfl)
set_option maxHeartbeats 4000000 in
set_option maxRecDepth 100000 in
theorem t_X9_mixedCode_5 {p : Program} {l : Launch} {e : Env} {R : Room} {s : State} {m : MethodId} {args : Array Value} {below : List Frame} {meth : Method} {c : Code} {D : va_G} {q : Nat → Nat} {cA : Nat → ClassId} {Fc_unkept : Int32} {Fc_tablesRead : Int32} {Pg_letters : Nat → Int32} {Pg_size : Int32} {Pg_fault : Int32} {Pg_rows : Int32} {Pg_inRow : Int32} {Pg_width : Int32} {Fl_entries : Nat → Int32} {Fl_states : Int32} {Fl_columns : Int32} {Fl_moves : Int32} {Fl_stables : Int32} {Fl_amiss : Int32} {Fl_normal : Int32} {Pt_lessers : Nat → Int32} {Pt_greaters : Nat → Int32} {Pt_size : Int32} {Lc_signals : Nat → Int32} {Lc_kept : Nat → Int64} {Lc_keptFrom : Nat → Int64} {Lc_candidates : Int32} {Lc_size : Int32} {Sc_signals : Nat → Int32} {Sc_codes : Nat → Int32} {Sc_size : Int32} {Ai_codes : Nat → Int32} {Ai_bits : Int32} {Cu_seen : Nat → Int32} {Cu_inThrees : Nat → Int32} {Cu_all : Int32} {Lo_asked : Nat → Nat → Int32} {Lo_ones : Nat → Nat → Int32} {Lo_sum : Nat → Nat → Int32} {Lo_wideSize : Nat → Int32} {Lo_sumSize : Nat → Int32} {Lo_flickers : Nat → Int32} {Lo_ready : Nat → Int32} {Wa_at : Int32} {Wa_turns : Int32} {Wa_changes : Int32} {post : Int64 → Prop} {KE : Int64 → Prop} (X : kC p R s m args meth c cX9_mixedCode RX9 7 (some .long) 4) (hK : va_K D vwCl (tyC cA) s) (hN : nwC s) (hP : va_P D vwCl (wC q cA Fc_unkept Fc_tablesRead Pg_letters Pg_size Pg_fault Pg_rows Pg_inRow Pg_width Fl_entries Fl_states Fl_columns Fl_moves Fl_stables Fl_amiss Fl_normal Pt_lessers Pt_greaters Pt_size Lc_signals Lc_kept Lc_keptFrom Lc_candidates Lc_size Sc_signals Sc_codes Sc_size Ai_codes Ai_bits Cu_seen Cu_inThrees Cu_all Lo_asked Lo_ones Lo_sum Lo_wideSize Lo_sumSize Lo_flickers Lo_ready Wa_at Wa_turns Wa_changes) s.heap) (hE : ∀ (x3 : Int64), KE x3 → ∀ (ls : Array Slot), lv_has ls 7 [(0, .ref (q 0)), (3, .long x3)] → W p l e R s m args below meth c s.heap [] 0 0 (MQ below (qRl post) args s 0 0 (fun _ => False)) (F0 m 51 ls [])) : ∀ (n : Nat) (x3 : Int64) (x5 : Int32), w_X9_mixedCode_5 KE Fl_normal Pt_lessers Pt_greaters Pt_size Sc_signals Sc_size n x3 x5 → ∀ (ls : Array Slot), lv_has ls 7 [(0, .ref (q 0)), (3, .long x3), (5, .int x5)] → W p l e R s m args below meth c s.heap [] 0 0 (MQ below (qRl post) args s 0 0 (fun _ => False)) (F0 m 5 ls []) := by
  obtain ⟨hx, hb, hml, hown, hts, hr, hlocks, hRf, hRl⟩ := id X
  intro n
  induction n with
  | zero => intro x3 x5 hw; exact (show False from hw).elim
  | succ n ih =>
    intro x3 x5 hw ls hl
    refine lv_iload hx hb dX9_mixedCode_5 (lv_at hl 2 rfl) ?_
    refine lv_aload_n hx hb dX9_mixedCode_7 rfl (lv_at hl 0 rfl) ?_
    refine gRX9_26 hx hb hown hts hK hP dX9_mixedCode_8 ?_
    refine gRX9_151 hx hb hown hts hK hN hP dX9_mixedCode_11 ?_
    refine lv_icmp_ge (tgt := 51) hx hb dX9_mixedCode_14 (by decide) (fun c_1 => ?_) (fun c_1 => ?_)
    · have hw := hw.1 c_1
      exact hE _ hw ls (lv_sub hl [0, 1] rfl)
    · have hw := hw.2 c_1
      refine lv_iconst (v := (0 : Int32)) hx hb dX9_mixedCode_17 (by decide) ?_
      refine lv_istore (lv' := [(6, .int (0 : Int32)), (0, .ref (q 0)), (3, .long x3), (5, .int x5)]) hx hb dX9_mixedCode_18 hl (by decide) rfl (fun ls hl => ?_)
      obtain ⟨n_6, hw⟩ := hw
      refine t_X9_mixedCode_20 X hK hN hP (fun x3_6 hw ls hl => ?_) n_6 _ _ hw ls (lv_sub hl [1, 2, 3, 0] rfl)
      obtain ⟨x5_7, e_7⟩ : ∃ z : Int32, z = x5 + (1 : Int32) := ⟨_, rfl⟩
      have hw := hw x5_7 e_7
      refine lv_iinc (v := x5_7) (lv' := [(5, .int x5_7), (0, .ref (q 0)), (3, .long x3_6)]) hx hb dX9_mixedCode_45 hl (k := 2) rfl (by rw [e_7]; rfl) (by decide) rfl (fun ls hl => ?_)
      refine lv_goto (tgt := 5) hx hb dX9_mixedCode_48 (by decide) ?_
      exact ih _ _ hw ls (lv_sub hl [1, 2, 0] rfl)
set_option maxHeartbeats 4000000 in
set_option maxRecDepth 100000 in
theorem t_X9_mixedCode_54 {p : Program} {l : Launch} {e : Env} {R : Room} {s : State} {m : MethodId} {args : Array Value} {below : List Frame} {meth : Method} {c : Code} {D : va_G} {q : Nat → Nat} {cA : Nat → ClassId} {Fc_unkept : Int32} {Fc_tablesRead : Int32} {Pg_letters : Nat → Int32} {Pg_size : Int32} {Pg_fault : Int32} {Pg_rows : Int32} {Pg_inRow : Int32} {Pg_width : Int32} {Fl_entries : Nat → Int32} {Fl_states : Int32} {Fl_columns : Int32} {Fl_moves : Int32} {Fl_stables : Int32} {Fl_amiss : Int32} {Fl_normal : Int32} {Pt_lessers : Nat → Int32} {Pt_greaters : Nat → Int32} {Pt_size : Int32} {Lc_signals : Nat → Int32} {Lc_kept : Nat → Int64} {Lc_keptFrom : Nat → Int64} {Lc_candidates : Int32} {Lc_size : Int32} {Sc_signals : Nat → Int32} {Sc_codes : Nat → Int32} {Sc_size : Int32} {Ai_codes : Nat → Int32} {Ai_bits : Int32} {Cu_seen : Nat → Int32} {Cu_inThrees : Nat → Int32} {Cu_all : Int32} {Lo_asked : Nat → Nat → Int32} {Lo_ones : Nat → Nat → Int32} {Lo_sum : Nat → Nat → Int32} {Lo_wideSize : Nat → Int32} {Lo_sumSize : Nat → Int32} {Lo_flickers : Nat → Int32} {Lo_ready : Nat → Int32} {Wa_at : Int32} {Wa_turns : Int32} {Wa_changes : Int32} {post : Int64 → Prop} {KE : Int64 → Prop} (X : kC p R s m args meth c cX9_mixedCode RX9 7 (some .long) 4) (hK : va_K D vwCl (tyC cA) s) (hN : nwC s) (hP : va_P D vwCl (wC q cA Fc_unkept Fc_tablesRead Pg_letters Pg_size Pg_fault Pg_rows Pg_inRow Pg_width Fl_entries Fl_states Fl_columns Fl_moves Fl_stables Fl_amiss Fl_normal Pt_lessers Pt_greaters Pt_size Lc_signals Lc_kept Lc_keptFrom Lc_candidates Lc_size Sc_signals Sc_codes Sc_size Ai_codes Ai_bits Cu_seen Cu_inThrees Cu_all Lo_asked Lo_ones Lo_sum Lo_wideSize Lo_sumSize Lo_flickers Lo_ready Wa_at Wa_turns Wa_changes) s.heap) (hE : ∀ (x3 : Int64), KE x3 → ∀ (ls : Array Slot), lv_has ls 7 [(0, .ref (q 0)), (3, .long x3)] → W p l e R s m args below meth c s.heap [] 0 0 (MQ below (qRl post) args s 0 0 (fun _ => False)) (F0 m 77 ls [])) : ∀ (n : Nat) (x3 : Int64) (x5 : Int32), w_X9_mixedCode_54 KE Fl_normal Lc_signals Lc_size n x3 x5 → ∀ (ls : Array Slot), lv_has ls 7 [(0, .ref (q 0)), (3, .long x3), (5, .int x5)] → W p l e R s m args below meth c s.heap [] 0 0 (MQ below (qRl post) args s 0 0 (fun _ => False)) (F0 m 54 ls []) := by
  obtain ⟨hx, hb, hml, hown, hts, hr, hlocks, hRf, hRl⟩ := id X
  intro n
  induction n with
  | zero => intro x3 x5 hw; exact (show False from hw).elim
  | succ n ih =>
    intro x3 x5 hw ls hl
    refine lv_iload hx hb dX9_mixedCode_54 (lv_at hl 2 rfl) ?_
    refine lv_iconst (v := (5 : Int32)) hx hb dX9_mixedCode_56 (by decide) ?_
    refine lv_icmp_ge (tgt := 77) hx hb dX9_mixedCode_57 (by decide) (fun c_9 => ?_) (fun c_9 => ?_)
    · have hw := hw.1 c_9
      exact hE _ hw ls (lv_sub hl [0, 1] rfl)
    · have hw := hw.2 c_9
      refine lv_lload_n hx hb dX9_mixedCode_60 rfl (lv_at hl 1 rfl) ?_
      refine lv_aload_n hx hb dX9_mixedCode_61 rfl (lv_at hl 0 rfl) ?_
      refine lv_iload hx hb dX9_mixedCode_62 (lv_at hl 2 rfl) ?_
      refine ro_i (va_runV (As := [.int x5]) (rest := [.long x3]) ⟨hx, hb, hml, hown, hts⟩ (c_X9_least l hw) (kRX9_277 (h := 0) hts (Nat.le_trans (Nat.le_of_ble_eq_true rfl) hRf) (Nat.le_trans (Nat.le_of_ble_eq_true rfl) hRl)) (preX9 hK hN hP) rfl rfl hl.1 rfl (lv_room (Nat.le_of_ble_eq_true rfl)) dX9_mixedCode_64 ⟨Nat.zero_le _, Nat.zero_le _⟩) (fun r_10 hw => ?_)
      refine ro_l (va_runS (As := [.long x3, .int r_10]) (rest := []) ⟨hx, hb, hml, hown, hts⟩ (c_X9_mixed l hw) (kRX9_247 (h := 0) hts (Nat.le_trans (Nat.le_of_ble_eq_true rfl) hRf) (Nat.le_trans (Nat.le_of_ble_eq_true rfl) hRl)) pre_0 rfl rfl hl.1 rfl (lv_room (Nat.le_of_ble_eq_true rfl)) dX9_mixedCode_67 ⟨Nat.zero_le _, Nat.zero_le _⟩) (fun r_11 hw => ?_)
      refine lv_lstore_n (lv' := [(3, .long r_11), (0, .ref (q 0)), (5, .int x5)]) hx hb dX9_mixedCode_70 rfl hl (by decide) rfl (fun ls hl => ?_)
      obtain ⟨x5_12, e_12⟩ : ∃ z : Int32, z = x5 + (1 : Int32) := ⟨_, rfl⟩
      have hw := hw x5_12 e_12
      refine lv_iinc (v := x5_12) (lv' := [(5, .int x5_12), (3, .long r_11), (0, .ref (q 0))]) hx hb dX9_mixedCode_71 hl (k := 2) rfl (by rw [e_12]; rfl) (by decide) rfl (fun ls hl => ?_)
      refine lv_goto (tgt := 54) hx hb dX9_mixedCode_74 (by decide) ?_
      exact ih _ _ hw ls (lv_sub hl [2, 1, 0] rfl)
set_option maxHeartbeats 4000000 in
set_option maxRecDepth 100000 in
theorem t_X9_mixedCode_80 {p : Program} {l : Launch} {e : Env} {R : Room} {s : State} {m : MethodId} {args : Array Value} {below : List Frame} {meth : Method} {c : Code} {D : va_G} {q : Nat → Nat} {cA : Nat → ClassId} {Fc_unkept : Int32} {Fc_tablesRead : Int32} {Pg_letters : Nat → Int32} {Pg_size : Int32} {Pg_fault : Int32} {Pg_rows : Int32} {Pg_inRow : Int32} {Pg_width : Int32} {Fl_entries : Nat → Int32} {Fl_states : Int32} {Fl_columns : Int32} {Fl_moves : Int32} {Fl_stables : Int32} {Fl_amiss : Int32} {Fl_normal : Int32} {Pt_lessers : Nat → Int32} {Pt_greaters : Nat → Int32} {Pt_size : Int32} {Lc_signals : Nat → Int32} {Lc_kept : Nat → Int64} {Lc_keptFrom : Nat → Int64} {Lc_candidates : Int32} {Lc_size : Int32} {Sc_signals : Nat → Int32} {Sc_codes : Nat → Int32} {Sc_size : Int32} {Ai_codes : Nat → Int32} {Ai_bits : Int32} {Cu_seen : Nat → Int32} {Cu_inThrees : Nat → Int32} {Cu_all : Int32} {Lo_asked : Nat → Nat → Int32} {Lo_ones : Nat → Nat → Int32} {Lo_sum : Nat → Nat → Int32} {Lo_wideSize : Nat → Int32} {Lo_sumSize : Nat → Int32} {Lo_flickers : Nat → Int32} {Lo_ready : Nat → Int32} {Wa_at : Int32} {Wa_turns : Int32} {Wa_changes : Int32} {post : Int64 → Prop} {KE : Int64 → Prop} (X : kC p R s m args meth c cX9_mixedCode RX9 7 (some .long) 4) (hK : va_K D vwCl (tyC cA) s) (hN : nwC s) (hP : va_P D vwCl (wC q cA Fc_unkept Fc_tablesRead Pg_letters Pg_size Pg_fault Pg_rows Pg_inRow Pg_width Fl_entries Fl_states Fl_columns Fl_moves Fl_stables Fl_amiss Fl_normal Pt_lessers Pt_greaters Pt_size Lc_signals Lc_kept Lc_keptFrom Lc_candidates Lc_size Sc_signals Sc_codes Sc_size Ai_codes Ai_bits Cu_seen Cu_inThrees Cu_all Lo_asked Lo_ones Lo_sum Lo_wideSize Lo_sumSize Lo_flickers Lo_ready Wa_at Wa_turns Wa_changes) s.heap) (hE : ∀ (x3 : Int64), KE x3 → ∀ (ls : Array Slot), lv_has ls 7 [(3, .long x3)] → W p l e R s m args below meth c s.heap [] 0 0 (MQ below (qRl post) args s 0 0 (fun _ => False)) (F0 m 109 ls [])) : ∀ (n : Nat) (x3 : Int64) (x5 : Int32), w_X9_mixedCode_80 KE Fl_states Fl_normal Sc_codes n x3 x5 → ∀ (ls : Array Slot), lv_has ls 7 [(0, .ref (q 0)), (3, .long x3), (5, .int x5)] → W p l e R s m args below meth c s.heap [] 0 0 (MQ below (qRl post) args s 0 0 (fun _ => False)) (F0 m 80 ls []) := by
  obtain ⟨hx, hb, hml, hown, hts, hr, hlocks, hRf, hRl⟩ := id X
  intro n
  induction n with
  | zero => intro x3 x5 hw; exact (show False from hw).elim
  | succ n ih =>
    intro x3 x5 hw ls hl
    refine lv_iload hx hb dX9_mixedCode_80 (lv_at hl 2 rfl) ?_
    refine lv_aload_n hx hb dX9_mixedCode_82 rfl (lv_at hl 0 rfl) ?_
    refine gRX9_19 hx hb hown hts hK hP dX9_mixedCode_83 ?_
    refine gRX9_118 hx hb hown hts hK hN hP dX9_mixedCode_86 ?_
    refine lv_icmp_ge (tgt := 109) hx hb dX9_mixedCode_89 (by decide) (fun c_14 => ?_) (fun c_14 => ?_)
    · have hw := hw.1 c_14
      exact hE _ hw ls (lv_sub hl [1] rfl)
    · have hw := hw.2 c_14
      refine lv_lload_n hx hb dX9_mixedCode_92 rfl (lv_at hl 1 rfl) ?_
      refine lv_aload_n hx hb dX9_mixedCode_93 rfl (lv_at hl 0 rfl) ?_
      refine lv_iload hx hb dX9_mixedCode_94 (lv_at hl 2 rfl) ?_
      refine ro_i (va_runV (As := [.int x5]) (rest := [.long x3]) ⟨hx, hb, hml, hown, hts⟩ (c_X9_code l hw) (kRX9_280 (h := 1) hts (Nat.le_trans (Nat.le_of_ble_eq_true rfl) hRf) (Nat.le_trans (Nat.le_of_ble_eq_true rfl) hRl)) (preX9 hK hN hP) rfl rfl hl.1 rfl (lv_room (Nat.le_of_ble_eq_true rfl)) dX9_mixedCode_96 ⟨Nat.zero_le _, Nat.zero_le _⟩) (fun r_15 hw => ?_)
      refine ro_l (va_runS (As := [.long x3, .int r_15]) (rest := []) ⟨hx, hb, hml, hown, hts⟩ (c_X9_mixed l hw) (kRX9_247 (h := 0) hts (Nat.le_trans (Nat.le_of_ble_eq_true rfl) hRf) (Nat.le_trans (Nat.le_of_ble_eq_true rfl) hRl)) pre_0 rfl rfl hl.1 rfl (lv_room (Nat.le_of_ble_eq_true rfl)) dX9_mixedCode_99 ⟨Nat.zero_le _, Nat.zero_le _⟩) (fun r_16 hw => ?_)
      refine lv_lstore_n (lv' := [(3, .long r_16), (0, .ref (q 0)), (5, .int x5)]) hx hb dX9_mixedCode_102 rfl hl (by decide) rfl (fun ls hl => ?_)
      obtain ⟨x5_17, e_17⟩ : ∃ z : Int32, z = x5 + (1 : Int32) := ⟨_, rfl⟩
      have hw := hw x5_17 e_17
      refine lv_iinc (v := x5_17) (lv' := [(5, .int x5_17), (3, .long r_16), (0, .ref (q 0))]) hx hb dX9_mixedCode_103 hl (k := 2) rfl (by rw [e_17]; rfl) (by decide) rfl (fun ls hl => ?_)
      refine lv_goto (tgt := 80) hx hb dX9_mixedCode_106 (by decide) ?_
      exact ih _ _ hw ls (lv_sub hl [2, 1, 0] rfl)
set_option maxHeartbeats 4000000 in
set_option maxRecDepth 100000 in
theorem c_X9_mixedCode (l : Launch) {D : va_G} {q : Nat → Nat} {cA : Nat → ClassId} {Fc_unkept : Int32} {Fc_tablesRead : Int32} {Pg_letters : Nat → Int32} {Pg_size : Int32} {Pg_fault : Int32} {Pg_rows : Int32} {Pg_inRow : Int32} {Pg_width : Int32} {Fl_entries : Nat → Int32} {Fl_states : Int32} {Fl_columns : Int32} {Fl_moves : Int32} {Fl_stables : Int32} {Fl_amiss : Int32} {Fl_normal : Int32} {Pt_lessers : Nat → Int32} {Pt_greaters : Nat → Int32} {Pt_size : Int32} {Lc_signals : Nat → Int32} {Lc_kept : Nat → Int64} {Lc_keptFrom : Nat → Int64} {Lc_candidates : Int32} {Lc_size : Int32} {Sc_signals : Nat → Int32} {Sc_codes : Nat → Int32} {Sc_size : Int32} {Ai_codes : Nat → Int32} {Ai_bits : Int32} {Cu_seen : Nat → Int32} {Cu_inThrees : Nat → Int32} {Cu_all : Int32} {Lo_asked : Nat → Nat → Int32} {Lo_ones : Nat → Nat → Int32} {Lo_sum : Nat → Nat → Int32} {Lo_wideSize : Nat → Int32} {Lo_sumSize : Nat → Int32} {Lo_flickers : Nat → Int32} {Lo_ready : Nat → Int32} {Wa_at : Int32} {Wa_turns : Int32} {Wa_changes : Int32} {post : Int64 → Prop} {x1 : Int64} (hw : wp_X9_mixedCode post Fl_states Fl_normal Pt_lessers Pt_greaters Pt_size Lc_signals Lc_size Sc_signals Sc_codes Sc_size x1) : Met l yX9_mixedCode (Cond.code yX9_mixedCode cX9_mixedCode 7 (some .long) :: wsL_law) (rmH 4) (va_Pc [.ref (q 0), .long x1] (fun U => va_P D vwCl (wC q cA Fc_unkept Fc_tablesRead Pg_letters Pg_size Pg_fault Pg_rows Pg_inRow Pg_width Fl_entries Fl_states Fl_columns Fl_moves Fl_stables Fl_amiss Fl_normal Pt_lessers Pt_greaters Pt_size Lc_signals Lc_kept Lc_keptFrom Lc_candidates Lc_size Sc_signals Sc_codes Sc_size Ai_codes Ai_bits Cu_seen Cu_inThrees Cu_all Lo_asked Lo_ones Lo_sum Lo_wideSize Lo_sumSize Lo_flickers Lo_ready Wa_at Wa_turns Wa_changes) U.heap ∧ va_K D vwCl (tyC cA) U ∧ nwC U)) (qRl post) 0 0 (fun _ => False) := by
  refine Met.ofW (cc := cX9_mixedCode) (maxL := 7) (ret := (some .long)) (by decide) rfl ?_
  intro p e s m args below meth c s₁ B hml hv
  obtain ⟨rfl, hP, hK, hN⟩ := hv
  have X : kC p (headSpec (Cond.code yX9_mixedCode cX9_mixedCode 7 (some .long) :: wsL_law) (rmH 4)).room s m _ meth c cX9_mixedCode RX9 7 (some .long) 4 := ⟨B.exec, B.bytes, hml, findClass_of_methodNamed B.named, fun w h => atoms_spec (ws := Cond.code yX9_mixedCode cX9_mixedCode 7 (some .long) :: wsL_law) B.pre w (List.mem_cons_of_mem _ h), B.returns, B.notSynchronized, Nat.le_refl _, Nat.le_refl _⟩
  obtain ⟨hx, hb, hml, hown, hts, hr, hlocks, hRf, hRl⟩ := id X
  have hl := lv_entry ([.ref (q 0), .long x1]) (n := 7) (Nat.le_of_ble_eq_true rfl)
  rw [lg_entry_eq]
  generalize (lg_sl ([.ref (q 0), .long x1]) ++ List.replicate (7 - (lg_sl ([.ref (q 0), .long x1])).length) Slot.unset).toArray = ls at hl ⊢
  have hl : lv_has ls 7 [(0, .ref (q 0)), (1, .long x1)] := hl
  refine lv_lload_n hx hb dX9_mixedCode_0 rfl (lv_at hl 1 rfl) ?_
  refine lv_lstore_n (lv' := [(3, .long x1), (0, .ref (q 0)), (1, .long x1)]) hx hb dX9_mixedCode_1 rfl hl (by decide) rfl (fun ls hl => ?_)
  refine lv_iconst (v := (0 : Int32)) hx hb dX9_mixedCode_2 (by decide) ?_
  refine lv_istore (lv' := [(5, .int (0 : Int32)), (3, .long x1), (0, .ref (q 0)), (1, .long x1)]) hx hb dX9_mixedCode_3 hl (by decide) rfl (fun ls hl => ?_)
  obtain ⟨n_8, hw⟩ := hw
  refine t_X9_mixedCode_5 X hK hN hP (fun x3_8 hw ls hl => ?_) n_8 _ _ hw ls (lv_sub hl [2, 1, 0] rfl)
  refine lv_iconst (v := ((-1) : Int32)) hx hb dX9_mixedCode_51 (by decide) ?_
  refine lv_istore (lv' := [(5, .int ((-1) : Int32)), (0, .ref (q 0)), (3, .long x3_8)]) hx hb dX9_mixedCode_52 hl (by decide) rfl (fun ls hl => ?_)
  obtain ⟨n_13, hw⟩ := hw
  refine t_X9_mixedCode_54 X hK hN hP (fun x3_13 hw ls hl => ?_) n_13 _ _ hw ls (lv_sub hl [1, 2, 0] rfl)
  refine lv_iconst (v := (0 : Int32)) hx hb dX9_mixedCode_77 (by decide) ?_
  refine lv_istore (lv' := [(5, .int (0 : Int32)), (0, .ref (q 0)), (3, .long x3_13)]) hx hb dX9_mixedCode_78 hl (by decide) rfl (fun ls hl => ?_)
  obtain ⟨n_18, hw⟩ := hw
  refine t_X9_mixedCode_80 X hK hN hP (fun x3_18 hw ls hl => ?_) n_18 _ _ hw ls (lv_sub hl [1, 2, 0] rfl)
  refine lv_lload_n hx hb dX9_mixedCode_109 rfl (lv_at hl 0 rfl) ?_
  exact rt_l hx hb hr hlocks hw dX9_mixedCode_110
abbrev Z_X9_digest (D : va_G) (q : Nat → Nat) (cA : Nat → ClassId) (Fc_unkept : Int32) (Fc_tablesRead : Int32) (Pg_letters : Nat → Int32) (Pg_size : Int32) (Pg_fault : Int32) (Pg_rows : Int32) (Pg_inRow : Int32) (Pg_width : Int32) (Fl_entries : Nat → Int32) (Fl_states : Int32) (Fl_columns : Int32) (Fl_moves : Int32) (Fl_stables : Int32) (Fl_amiss : Int32) (Fl_normal : Int32) (Pt_lessers : Nat → Int32) (Pt_greaters : Nat → Int32) (Pt_size : Int32) (Lc_signals : Nat → Int32) (Lc_kept : Nat → Int64) (Lc_keptFrom : Nat → Int64) (Lc_candidates : Int32) (Lc_size : Int32) (Sc_signals : Nat → Int32) (Sc_codes : Nat → Int32) (Sc_size : Int32) (Ai_codes : Nat → Int32) (Ai_bits : Int32) (Cu_inThrees : Nat → Int32) (Wa_at : Int32) (Wa_turns : Int32) (Wa_changes : Int32) (post : Int64 → (Nat → Int32) → Int32 → (Nat → Nat → Int32) → (Nat → Nat → Int32) → (Nat → Nat → Int32) → (Nat → Int32) → (Nat → Int32) → (Nat → Int32) → (Nat → Int32) → Prop) : Int64 → State → Prop := fun r t => ∃ (y_Cu_seen : Nat → Int32) (y_Cu_all : Int32) (y_Lo_asked : Nat → Nat → Int32) (y_Lo_ones : Nat → Nat → Int32) (y_Lo_sum : Nat → Nat → Int32) (y_Lo_wideSize : Nat → Int32) (y_Lo_sumSize : Nat → Int32) (y_Lo_flickers : Nat → Int32) (y_Lo_ready : Nat → Int32), post r y_Cu_seen y_Cu_all y_Lo_asked y_Lo_ones y_Lo_sum y_Lo_wideSize y_Lo_sumSize y_Lo_flickers y_Lo_ready ∧ va_P D vwCl (wC q cA Fc_unkept Fc_tablesRead Pg_letters Pg_size Pg_fault Pg_rows Pg_inRow Pg_width Fl_entries Fl_states Fl_columns Fl_moves Fl_stables Fl_amiss Fl_normal Pt_lessers Pt_greaters Pt_size Lc_signals Lc_kept Lc_keptFrom Lc_candidates Lc_size Sc_signals Sc_codes Sc_size Ai_codes Ai_bits y_Cu_seen Cu_inThrees y_Cu_all y_Lo_asked y_Lo_ones y_Lo_sum y_Lo_wideSize y_Lo_sumSize y_Lo_flickers y_Lo_ready Wa_at Wa_turns Wa_changes) t.heap
set_option maxHeartbeats 4000000 in
set_option maxRecDepth 100000 in
theorem t_X9_digest_20 {p : Program} {l : Launch} {e : Env} {R : Room} {s : State} {m : MethodId} {args : Array Value} {below : List Frame} {meth : Method} {c : Code} {A : Nat → Prop} {D : va_G} {q : Nat → Nat} {cA : Nat → ClassId} {Fc_unkept : Int32} {Fc_tablesRead : Int32} {Pg_letters : Nat → Int32} {Pg_size : Int32} {Pg_fault : Int32} {Pg_rows : Int32} {Pg_inRow : Int32} {Pg_width : Int32} {Fl_entries : Nat → Int32} {Fl_states : Int32} {Fl_columns : Int32} {Fl_moves : Int32} {Fl_stables : Int32} {Fl_amiss : Int32} {Fl_normal : Int32} {Pt_lessers : Nat → Int32} {Pt_greaters : Nat → Int32} {Pt_size : Int32} {Lc_signals : Nat → Int32} {Lc_kept : Nat → Int64} {Lc_keptFrom : Nat → Int64} {Lc_candidates : Int32} {Lc_size : Int32} {Sc_signals : Nat → Int32} {Sc_codes : Nat → Int32} {Sc_size : Int32} {Ai_codes : Nat → Int32} {Ai_bits : Int32} {Cu_seen : Nat → Int32} {Cu_inThrees : Nat → Int32} {Cu_all : Int32} {Lo_asked : Nat → Nat → Int32} {Lo_ones : Nat → Nat → Int32} {Lo_sum : Nat → Nat → Int32} {Lo_wideSize : Nat → Int32} {Lo_sumSize : Nat → Int32} {Lo_flickers : Nat → Int32} {Lo_ready : Nat → Int32} {Wa_at : Int32} {Wa_turns : Int32} {Wa_changes : Int32} {post : Int64 → (Nat → Int32) → Int32 → (Nat → Nat → Int32) → (Nat → Nat → Int32) → (Nat → Nat → Int32) → (Nat → Int32) → (Nat → Int32) → (Nat → Int32) → (Nat → Int32) → Prop} {KE : Int64 → Prop} {x3 : Int32} (X : kC p R s m args meth c cX9_digest RX9 5 (some .long) 6) (hK : va_K D vwCl (tyC cA) s) (hN : nwC s) (hE : ∀ (x1 : Int64), KE x1 → ∀ (ls : Array Slot) (H : Heap) (locs : List Loc), lv_has ls 5 [(0, .ref (q 0)), (1, .long x1), (3, .int x3)] → va_P D vwCl (wC q cA Fc_unkept Fc_tablesRead Pg_letters Pg_size Pg_fault Pg_rows Pg_inRow Pg_width Fl_entries Fl_states Fl_columns Fl_moves Fl_stables Fl_amiss Fl_normal Pt_lessers Pt_greaters Pt_size Lc_signals Lc_kept Lc_keptFrom Lc_candidates Lc_size Sc_signals Sc_codes Sc_size Ai_codes Ai_bits Cu_seen Cu_inThrees Cu_all Lo_asked Lo_ones Lo_sum Lo_wideSize Lo_sumSize Lo_flickers Lo_ready Wa_at Wa_turns Wa_changes) H → va_D A (wC q cA Fc_unkept Fc_tablesRead Pg_letters Pg_size Pg_fault Pg_rows Pg_inRow Pg_width Fl_entries Fl_states Fl_columns Fl_moves Fl_stables Fl_amiss Fl_normal Pt_lessers Pt_greaters Pt_size Lc_signals Lc_kept Lc_keptFrom Lc_candidates Lc_size Sc_signals Sc_codes Sc_size Ai_codes Ai_bits Cu_seen Cu_inThrees Cu_all Lo_asked Lo_ones Lo_sum Lo_wideSize Lo_sumSize Lo_flickers Lo_ready Wa_at Wa_turns Wa_changes) → va_S A s.heap H locs → W p l e R s m args below meth c H locs 0 0 (MQ below (qWl (Z_X9_digest D q cA Fc_unkept Fc_tablesRead Pg_letters Pg_size Pg_fault Pg_rows Pg_inRow Pg_width Fl_entries Fl_states Fl_columns Fl_moves Fl_stables Fl_amiss Fl_normal Pt_lessers Pt_greaters Pt_size Lc_signals Lc_kept Lc_keptFrom Lc_candidates Lc_size Sc_signals Sc_codes Sc_size Ai_codes Ai_bits Cu_inThrees Wa_at Wa_turns Wa_changes post) A) args s 0 0 A) (F0 m 50 ls [])) : ∀ (n : Nat) (x1 : Int64) (x4 : Int32), w_X9_digest_20 KE Fl_entries Fl_states Fl_columns x3 n x1 x4 → ∀ (ls : Array Slot) (H : Heap) (locs : List Loc), lv_has ls 5 [(0, .ref (q 0)), (1, .long x1), (3, .int x3), (4, .int x4)] → va_P D vwCl (wC q cA Fc_unkept Fc_tablesRead Pg_letters Pg_size Pg_fault Pg_rows Pg_inRow Pg_width Fl_entries Fl_states Fl_columns Fl_moves Fl_stables Fl_amiss Fl_normal Pt_lessers Pt_greaters Pt_size Lc_signals Lc_kept Lc_keptFrom Lc_candidates Lc_size Sc_signals Sc_codes Sc_size Ai_codes Ai_bits Cu_seen Cu_inThrees Cu_all Lo_asked Lo_ones Lo_sum Lo_wideSize Lo_sumSize Lo_flickers Lo_ready Wa_at Wa_turns Wa_changes) H → va_D A (wC q cA Fc_unkept Fc_tablesRead Pg_letters Pg_size Pg_fault Pg_rows Pg_inRow Pg_width Fl_entries Fl_states Fl_columns Fl_moves Fl_stables Fl_amiss Fl_normal Pt_lessers Pt_greaters Pt_size Lc_signals Lc_kept Lc_keptFrom Lc_candidates Lc_size Sc_signals Sc_codes Sc_size Ai_codes Ai_bits Cu_seen Cu_inThrees Cu_all Lo_asked Lo_ones Lo_sum Lo_wideSize Lo_sumSize Lo_flickers Lo_ready Wa_at Wa_turns Wa_changes) → va_S A s.heap H locs → W p l e R s m args below meth c H locs 0 0 (MQ below (qWl (Z_X9_digest D q cA Fc_unkept Fc_tablesRead Pg_letters Pg_size Pg_fault Pg_rows Pg_inRow Pg_width Fl_entries Fl_states Fl_columns Fl_moves Fl_stables Fl_amiss Fl_normal Pt_lessers Pt_greaters Pt_size Lc_signals Lc_kept Lc_keptFrom Lc_candidates Lc_size Sc_signals Sc_codes Sc_size Ai_codes Ai_bits Cu_inThrees Wa_at Wa_turns Wa_changes post) A) args s 0 0 A) (F0 m 20 ls []) := by
  obtain ⟨hx, hb, hml, hown, hts, hr, hlocks, hRf, hRl⟩ := id X
  intro n
  induction n with
  | zero => intro x1 x4 hw; exact (show False from hw).elim
  | succ n ih =>
    intro x1 x4 hw ls H locs hl hP hD hS
    refine lv_iload hx hb dX9_digest_20 (lv_at hl 3 rfl) ?_
    refine lv_aload_n hx hb dX9_digest_22 rfl (lv_at hl 0 rfl) ?_
    refine gRX9_19 hx hb hown hts hK hP dX9_digest_23 ?_
    refine gRX9_233 hx hb hown hts hK hN hP dX9_digest_26 ?_
    refine lv_icmp_ge (tgt := 50) hx hb dX9_digest_29 (by decide) (fun c_2 => ?_) (fun c_2 => ?_)
    · have hw := hw.1 c_2
      exact hE _ hw ls _ _ (lv_sub hl [0, 1, 2] rfl) hP hD hS
    · have hw := hw.2 c_2
      refine lv_lload_n hx hb dX9_digest_32 rfl (lv_at hl 1 rfl) ?_
      refine lv_aload_n hx hb dX9_digest_33 rfl (lv_at hl 0 rfl) ?_
      refine lv_iload_n hx hb dX9_digest_34 rfl (lv_at hl 2 rfl) ?_
      refine lv_iload hx hb dX9_digest_35 (lv_at hl 3 rfl) ?_
      refine ro_i (va_runV (As := [.int x3, .int x4]) (rest := [.long x1]) ⟨hx, hb, hml, hown, hts⟩ (c_X9_entry l hw) (kRX9_244 (h := 2) hts (Nat.le_trans (Nat.le_of_ble_eq_true rfl) hRf) (Nat.le_trans (Nat.le_of_ble_eq_true rfl) hRl)) (preX9 hK hN hP) rfl rfl hl.1 rfl (lv_room (Nat.le_of_ble_eq_true rfl)) dX9_digest_37 ⟨Nat.zero_le _, Nat.zero_le _⟩) (fun r_3 hw => ?_)
      refine ro_l (va_runS (As := [.long x1, .int r_3]) (rest := []) ⟨hx, hb, hml, hown, hts⟩ (c_X9_mixed l hw) (kRX9_247 (h := 0) hts (Nat.le_trans (Nat.le_of_ble_eq_true rfl) hRf) (Nat.le_trans (Nat.le_of_ble_eq_true rfl) hRl)) pre_0 rfl rfl hl.1 rfl (lv_room (Nat.le_of_ble_eq_true rfl)) dX9_digest_40 ⟨Nat.zero_le _, Nat.zero_le _⟩) (fun r_4 hw => ?_)
      refine lv_lstore_n (lv' := [(1, .long r_4), (0, .ref (q 0)), (3, .int x3), (4, .int x4)]) hx hb dX9_digest_43 rfl hl (by decide) rfl (fun ls hl => ?_)
      obtain ⟨x4_5, e_5⟩ : ∃ z : Int32, z = x4 + (1 : Int32) := ⟨_, rfl⟩
      have hw := hw x4_5 e_5
      refine lv_iinc (v := x4_5) (lv' := [(4, .int x4_5), (1, .long r_4), (0, .ref (q 0)), (3, .int x3)]) hx hb dX9_digest_44 hl (k := 3) rfl (by rw [e_5]; rfl) (by decide) rfl (fun ls hl => ?_)
      refine lv_goto (tgt := 20) hx hb dX9_digest_47 (by decide) ?_
      exact ih _ _ hw ls _ _ (lv_sub hl [2, 1, 3, 0] rfl) hP hD hS
set_option maxHeartbeats 4000000 in
set_option maxRecDepth 100000 in
theorem t_X9_digest_6 {p : Program} {l : Launch} {e : Env} {R : Room} {s : State} {m : MethodId} {args : Array Value} {below : List Frame} {meth : Method} {c : Code} {A : Nat → Prop} {D : va_G} {q : Nat → Nat} {cA : Nat → ClassId} {Fc_unkept : Int32} {Fc_tablesRead : Int32} {Pg_letters : Nat → Int32} {Pg_size : Int32} {Pg_fault : Int32} {Pg_rows : Int32} {Pg_inRow : Int32} {Pg_width : Int32} {Fl_entries : Nat → Int32} {Fl_states : Int32} {Fl_columns : Int32} {Fl_moves : Int32} {Fl_stables : Int32} {Fl_amiss : Int32} {Fl_normal : Int32} {Pt_lessers : Nat → Int32} {Pt_greaters : Nat → Int32} {Pt_size : Int32} {Lc_signals : Nat → Int32} {Lc_kept : Nat → Int64} {Lc_keptFrom : Nat → Int64} {Lc_candidates : Int32} {Lc_size : Int32} {Sc_signals : Nat → Int32} {Sc_codes : Nat → Int32} {Sc_size : Int32} {Ai_codes : Nat → Int32} {Ai_bits : Int32} {Cu_seen : Nat → Int32} {Cu_inThrees : Nat → Int32} {Cu_all : Int32} {Lo_asked : Nat → Nat → Int32} {Lo_ones : Nat → Nat → Int32} {Lo_sum : Nat → Nat → Int32} {Lo_wideSize : Nat → Int32} {Lo_sumSize : Nat → Int32} {Lo_flickers : Nat → Int32} {Lo_ready : Nat → Int32} {Wa_at : Int32} {Wa_turns : Int32} {Wa_changes : Int32} {post : Int64 → (Nat → Int32) → Int32 → (Nat → Nat → Int32) → (Nat → Nat → Int32) → (Nat → Nat → Int32) → (Nat → Int32) → (Nat → Int32) → (Nat → Int32) → (Nat → Int32) → Prop} {KE : Int64 → Prop} (X : kC p R s m args meth c cX9_digest RX9 5 (some .long) 6) (hK : va_K D vwCl (tyC cA) s) (hN : nwC s) (hE : ∀ (x1 : Int64), KE x1 → ∀ (ls : Array Slot) (H : Heap) (locs : List Loc), lv_has ls 5 [(0, .ref (q 0)), (1, .long x1)] → va_P D vwCl (wC q cA Fc_unkept Fc_tablesRead Pg_letters Pg_size Pg_fault Pg_rows Pg_inRow Pg_width Fl_entries Fl_states Fl_columns Fl_moves Fl_stables Fl_amiss Fl_normal Pt_lessers Pt_greaters Pt_size Lc_signals Lc_kept Lc_keptFrom Lc_candidates Lc_size Sc_signals Sc_codes Sc_size Ai_codes Ai_bits Cu_seen Cu_inThrees Cu_all Lo_asked Lo_ones Lo_sum Lo_wideSize Lo_sumSize Lo_flickers Lo_ready Wa_at Wa_turns Wa_changes) H → va_D A (wC q cA Fc_unkept Fc_tablesRead Pg_letters Pg_size Pg_fault Pg_rows Pg_inRow Pg_width Fl_entries Fl_states Fl_columns Fl_moves Fl_stables Fl_amiss Fl_normal Pt_lessers Pt_greaters Pt_size Lc_signals Lc_kept Lc_keptFrom Lc_candidates Lc_size Sc_signals Sc_codes Sc_size Ai_codes Ai_bits Cu_seen Cu_inThrees Cu_all Lo_asked Lo_ones Lo_sum Lo_wideSize Lo_sumSize Lo_flickers Lo_ready Wa_at Wa_turns Wa_changes) → va_S A s.heap H locs → W p l e R s m args below meth c H locs 0 0 (MQ below (qWl (Z_X9_digest D q cA Fc_unkept Fc_tablesRead Pg_letters Pg_size Pg_fault Pg_rows Pg_inRow Pg_width Fl_entries Fl_states Fl_columns Fl_moves Fl_stables Fl_amiss Fl_normal Pt_lessers Pt_greaters Pt_size Lc_signals Lc_kept Lc_keptFrom Lc_candidates Lc_size Sc_signals Sc_codes Sc_size Ai_codes Ai_bits Cu_inThrees Wa_at Wa_turns Wa_changes post) A) args s 0 0 A) (F0 m 56 ls [])) : ∀ (n : Nat) (x1 : Int64) (x3 : Int32), w_X9_digest_6 KE Fl_entries Fl_states Fl_columns n x1 x3 → ∀ (ls : Array Slot) (H : Heap) (locs : List Loc), lv_has ls 5 [(0, .ref (q 0)), (1, .long x1), (3, .int x3)] → va_P D vwCl (wC q cA Fc_unkept Fc_tablesRead Pg_letters Pg_size Pg_fault Pg_rows Pg_inRow Pg_width Fl_entries Fl_states Fl_columns Fl_moves Fl_stables Fl_amiss Fl_normal Pt_lessers Pt_greaters Pt_size Lc_signals Lc_kept Lc_keptFrom Lc_candidates Lc_size Sc_signals Sc_codes Sc_size Ai_codes Ai_bits Cu_seen Cu_inThrees Cu_all Lo_asked Lo_ones Lo_sum Lo_wideSize Lo_sumSize Lo_flickers Lo_ready Wa_at Wa_turns Wa_changes) H → va_D A (wC q cA Fc_unkept Fc_tablesRead Pg_letters Pg_size Pg_fault Pg_rows Pg_inRow Pg_width Fl_entries Fl_states Fl_columns Fl_moves Fl_stables Fl_amiss Fl_normal Pt_lessers Pt_greaters Pt_size Lc_signals Lc_kept Lc_keptFrom Lc_candidates Lc_size Sc_signals Sc_codes Sc_size Ai_codes Ai_bits Cu_seen Cu_inThrees Cu_all Lo_asked Lo_ones Lo_sum Lo_wideSize Lo_sumSize Lo_flickers Lo_ready Wa_at Wa_turns Wa_changes) → va_S A s.heap H locs → W p l e R s m args below meth c H locs 0 0 (MQ below (qWl (Z_X9_digest D q cA Fc_unkept Fc_tablesRead Pg_letters Pg_size Pg_fault Pg_rows Pg_inRow Pg_width Fl_entries Fl_states Fl_columns Fl_moves Fl_stables Fl_amiss Fl_normal Pt_lessers Pt_greaters Pt_size Lc_signals Lc_kept Lc_keptFrom Lc_candidates Lc_size Sc_signals Sc_codes Sc_size Ai_codes Ai_bits Cu_inThrees Wa_at Wa_turns Wa_changes post) A) args s 0 0 A) (F0 m 6 ls []) := by
  obtain ⟨hx, hb, hml, hown, hts, hr, hlocks, hRf, hRl⟩ := id X
  intro n
  induction n with
  | zero => intro x1 x3 hw; exact (show False from hw).elim
  | succ n ih =>
    intro x1 x3 hw ls H locs hl hP hD hS
    refine lv_iload_n hx hb dX9_digest_6 rfl (lv_at hl 2 rfl) ?_
    refine lv_aload_n hx hb dX9_digest_7 rfl (lv_at hl 0 rfl) ?_
    refine gRX9_19 hx hb hown hts hK hP dX9_digest_8 ?_
    refine gRX9_118 hx hb hown hts hK hN hP dX9_digest_11 ?_
    refine lv_icmp_ge (tgt := 56) hx hb dX9_digest_14 (by decide) (fun c_1 => ?_) (fun c_1 => ?_)
    · have hw := hw.1 c_1
      exact hE _ hw ls _ _ (lv_sub hl [0, 1] rfl) hP hD hS
    · have hw := hw.2 c_1
      refine lv_iconst (v := (0 : Int32)) hx hb dX9_digest_17 (by decide) ?_
      refine lv_istore (lv' := [(4, .int (0 : Int32)), (0, .ref (q 0)), (1, .long x1), (3, .int x3)]) hx hb dX9_digest_18 hl (by decide) rfl (fun ls hl => ?_)
      obtain ⟨n_6, hw⟩ := hw
      refine t_X9_digest_20 X hK hN (fun x1_6 hw ls H locs hl hP hD hS => ?_) n_6 _ _ hw ls _ _ (lv_sub hl [1, 2, 3, 0] rfl) hP hD hS
      obtain ⟨x3_7, e_7⟩ : ∃ z : Int32, z = x3 + (1 : Int32) := ⟨_, rfl⟩
      have hw := hw x3_7 e_7
      refine lv_iinc (v := x3_7) (lv' := [(3, .int x3_7), (0, .ref (q 0)), (1, .long x1_6)]) hx hb dX9_digest_50 hl (k := 2) rfl (by rw [e_7]; rfl) (by decide) rfl (fun ls hl => ?_)
      refine lv_goto (tgt := 6) hx hb dX9_digest_53 (by decide) ?_
      exact ih _ _ hw ls _ _ (lv_sub hl [1, 2, 0] rfl) hP hD hS
set_option maxHeartbeats 4000000 in
set_option maxRecDepth 100000 in
theorem t_X9_digest_107 {p : Program} {l : Launch} {e : Env} {R : Room} {s : State} {m : MethodId} {args : Array Value} {below : List Frame} {meth : Method} {c : Code} {A : Nat → Prop} {D : va_G} {q : Nat → Nat} {cA : Nat → ClassId} {Fc_unkept : Int32} {Fc_tablesRead : Int32} {Pg_letters : Nat → Int32} {Pg_size : Int32} {Pg_fault : Int32} {Pg_rows : Int32} {Pg_inRow : Int32} {Pg_width : Int32} {Fl_entries : Nat → Int32} {Fl_states : Int32} {Fl_columns : Int32} {Fl_moves : Int32} {Fl_stables : Int32} {Fl_amiss : Int32} {Fl_normal : Int32} {Pt_lessers : Nat → Int32} {Pt_greaters : Nat → Int32} {Pt_size : Int32} {Lc_signals : Nat → Int32} {Lc_kept : Nat → Int64} {Lc_keptFrom : Nat → Int64} {Lc_candidates : Int32} {Lc_size : Int32} {Sc_signals : Nat → Int32} {Sc_codes : Nat → Int32} {Sc_size : Int32} {Ai_codes : Nat → Int32} {Ai_bits : Int32} {Cu_seen : Nat → Int32} {Cu_inThrees : Nat → Int32} {Cu_all : Int32} {Lo_asked : Nat → Nat → Int32} {Lo_ones : Nat → Nat → Int32} {Lo_sum : Nat → Nat → Int32} {Lo_wideSize : Nat → Int32} {Lo_sumSize : Nat → Int32} {Lo_flickers : Nat → Int32} {Lo_ready : Nat → Int32} {Wa_at : Int32} {Wa_turns : Int32} {Wa_changes : Int32} {post : Int64 → (Nat → Int32) → Int32 → (Nat → Nat → Int32) → (Nat → Nat → Int32) → (Nat → Nat → Int32) → (Nat → Int32) → (Nat → Int32) → (Nat → Int32) → (Nat → Int32) → Prop} {KE : Int64 → Prop} (X : kC p R s m args meth c cX9_digest RX9 5 (some .long) 6) (hK : va_K D vwCl (tyC cA) s) (hN : nwC s) (hE : ∀ (x1 : Int64), KE x1 → ∀ (ls : Array Slot) (H : Heap) (locs : List Loc), lv_has ls 5 [(0, .ref (q 0)), (1, .long x1)] → va_P D vwCl (wC q cA Fc_unkept Fc_tablesRead Pg_letters Pg_size Pg_fault Pg_rows Pg_inRow Pg_width Fl_entries Fl_states Fl_columns Fl_moves Fl_stables Fl_amiss Fl_normal Pt_lessers Pt_greaters Pt_size Lc_signals Lc_kept Lc_keptFrom Lc_candidates Lc_size Sc_signals Sc_codes Sc_size Ai_codes Ai_bits Cu_seen Cu_inThrees Cu_all Lo_asked Lo_ones Lo_sum Lo_wideSize Lo_sumSize Lo_flickers Lo_ready Wa_at Wa_turns Wa_changes) H → va_D A (wC q cA Fc_unkept Fc_tablesRead Pg_letters Pg_size Pg_fault Pg_rows Pg_inRow Pg_width Fl_entries Fl_states Fl_columns Fl_moves Fl_stables Fl_amiss Fl_normal Pt_lessers Pt_greaters Pt_size Lc_signals Lc_kept Lc_keptFrom Lc_candidates Lc_size Sc_signals Sc_codes Sc_size Ai_codes Ai_bits Cu_seen Cu_inThrees Cu_all Lo_asked Lo_ones Lo_sum Lo_wideSize Lo_sumSize Lo_flickers Lo_ready Wa_at Wa_turns Wa_changes) → va_S A s.heap H locs → W p l e R s m args below meth c H locs 0 0 (MQ below (qWl (Z_X9_digest D q cA Fc_unkept Fc_tablesRead Pg_letters Pg_size Pg_fault Pg_rows Pg_inRow Pg_width Fl_entries Fl_states Fl_columns Fl_moves Fl_stables Fl_amiss Fl_normal Pt_lessers Pt_greaters Pt_size Lc_signals Lc_kept Lc_keptFrom Lc_candidates Lc_size Sc_signals Sc_codes Sc_size Ai_codes Ai_bits Cu_inThrees Wa_at Wa_turns Wa_changes post) A) args s 0 0 A) (F0 m 128 ls [])) : ∀ (n : Nat) (x1 : Int64) (x3 : Int32), w_X9_digest_107 KE Fc_unkept Fl_entries Fl_states Fl_columns Fl_normal Sc_codes Sc_size n x1 x3 → ∀ (ls : Array Slot) (H : Heap) (locs : List Loc), lv_has ls 5 [(0, .ref (q 0)), (1, .long x1), (3, .int x3)] → va_P D vwCl (wC q cA Fc_unkept Fc_tablesRead Pg_letters Pg_size Pg_fault Pg_rows Pg_inRow Pg_width Fl_entries Fl_states Fl_columns Fl_moves Fl_stables Fl_amiss Fl_normal Pt_lessers Pt_greaters Pt_size Lc_signals Lc_kept Lc_keptFrom Lc_candidates Lc_size Sc_signals Sc_codes Sc_size Ai_codes Ai_bits Cu_seen Cu_inThrees Cu_all Lo_asked Lo_ones Lo_sum Lo_wideSize Lo_sumSize Lo_flickers Lo_ready Wa_at Wa_turns Wa_changes) H → va_D A (wC q cA Fc_unkept Fc_tablesRead Pg_letters Pg_size Pg_fault Pg_rows Pg_inRow Pg_width Fl_entries Fl_states Fl_columns Fl_moves Fl_stables Fl_amiss Fl_normal Pt_lessers Pt_greaters Pt_size Lc_signals Lc_kept Lc_keptFrom Lc_candidates Lc_size Sc_signals Sc_codes Sc_size Ai_codes Ai_bits Cu_seen Cu_inThrees Cu_all Lo_asked Lo_ones Lo_sum Lo_wideSize Lo_sumSize Lo_flickers Lo_ready Wa_at Wa_turns Wa_changes) → va_S A s.heap H locs → W p l e R s m args below meth c H locs 0 0 (MQ below (qWl (Z_X9_digest D q cA Fc_unkept Fc_tablesRead Pg_letters Pg_size Pg_fault Pg_rows Pg_inRow Pg_width Fl_entries Fl_states Fl_columns Fl_moves Fl_stables Fl_amiss Fl_normal Pt_lessers Pt_greaters Pt_size Lc_signals Lc_kept Lc_keptFrom Lc_candidates Lc_size Sc_signals Sc_codes Sc_size Ai_codes Ai_bits Cu_inThrees Wa_at Wa_turns Wa_changes post) A) args s 0 0 A) (F0 m 107 ls []) := by
  obtain ⟨hx, hb, hml, hown, hts, hr, hlocks, hRf, hRl⟩ := id X
  intro n
  induction n with
  | zero => intro x1 x3 hw; exact (show False from hw).elim
  | succ n ih =>
    intro x1 x3 hw ls H locs hl hP hD hS
    refine lv_iload_n hx hb dX9_digest_107 rfl (lv_at hl 2 rfl) ?_
    refine lv_iconst (v := (5 : Int32)) hx hb dX9_digest_108 (by decide) ?_
    refine lv_icmp_gt (tgt := 128) hx hb dX9_digest_109 (by decide) (fun c_11 => ?_) (fun c_11 => ?_)
    · have hw := hw.1 c_11
      exact hE _ hw ls _ _ (lv_sub hl [0, 1] rfl) hP hD hS
    · have hw := hw.2 c_11
      refine lv_lload_n hx hb dX9_digest_112 rfl (lv_at hl 1 rfl) ?_
      refine lv_aload_n hx hb dX9_digest_113 rfl (lv_at hl 0 rfl) ?_
      refine lv_iload_n hx hb dX9_digest_114 rfl (lv_at hl 2 rfl) ?_
      refine ro_i (va_runV (As := [.int x3]) (rest := [.long x1]) ⟨hx, hb, hml, hown, hts⟩ (c_X9_coded l hw) (kRX9_258 (h := 4) hts (Nat.le_trans (Nat.le_of_ble_eq_true rfl) hRf) (Nat.le_trans (Nat.le_of_ble_eq_true rfl) hRl)) (preX9 hK hN hP) rfl rfl hl.1 rfl (lv_room (Nat.le_of_ble_eq_true rfl)) dX9_digest_115 ⟨Nat.zero_le _, Nat.zero_le _⟩) (fun r_12 hw => ?_)
      refine ro_l (va_runS (As := [.long x1, .int r_12]) (rest := []) ⟨hx, hb, hml, hown, hts⟩ (c_X9_mixed l hw) (kRX9_247 (h := 0) hts (Nat.le_trans (Nat.le_of_ble_eq_true rfl) hRf) (Nat.le_trans (Nat.le_of_ble_eq_true rfl) hRl)) pre_0 rfl rfl hl.1 rfl (lv_room (Nat.le_of_ble_eq_true rfl)) dX9_digest_118 ⟨Nat.zero_le _, Nat.zero_le _⟩) (fun r_13 hw => ?_)
      refine lv_lstore_n (lv' := [(1, .long r_13), (0, .ref (q 0)), (3, .int x3)]) hx hb dX9_digest_121 rfl hl (by decide) rfl (fun ls hl => ?_)
      obtain ⟨x3_14, e_14⟩ : ∃ z : Int32, z = x3 + (1 : Int32) := ⟨_, rfl⟩
      have hw := hw x3_14 e_14
      refine lv_iinc (v := x3_14) (lv' := [(3, .int x3_14), (1, .long r_13), (0, .ref (q 0))]) hx hb dX9_digest_122 hl (k := 2) rfl (by rw [e_14]; rfl) (by decide) rfl (fun ls hl => ?_)
      refine lv_goto (tgt := 107) hx hb dX9_digest_125 (by decide) ?_
      exact ih _ _ hw ls _ _ (lv_sub hl [2, 1, 0] rfl) hP hD hS
set_option maxHeartbeats 4000000 in
set_option maxRecDepth 100000 in
theorem t_X9_digest_163 {p : Program} {l : Launch} {e : Env} {R : Room} {s : State} {m : MethodId} {args : Array Value} {below : List Frame} {meth : Method} {c : Code} {A : Nat → Prop} {D : va_G} {q : Nat → Nat} {cA : Nat → ClassId} {Fc_unkept : Int32} {Fc_tablesRead : Int32} {Pg_letters : Nat → Int32} {Pg_size : Int32} {Pg_fault : Int32} {Pg_rows : Int32} {Pg_inRow : Int32} {Pg_width : Int32} {Fl_entries : Nat → Int32} {Fl_states : Int32} {Fl_columns : Int32} {Fl_moves : Int32} {Fl_stables : Int32} {Fl_amiss : Int32} {Fl_normal : Int32} {Pt_lessers : Nat → Int32} {Pt_greaters : Nat → Int32} {Pt_size : Int32} {Lc_signals : Nat → Int32} {Lc_kept : Nat → Int64} {Lc_keptFrom : Nat → Int64} {Lc_candidates : Int32} {Lc_size : Int32} {Sc_signals : Nat → Int32} {Sc_codes : Nat → Int32} {Sc_size : Int32} {Ai_codes : Nat → Int32} {Ai_bits : Int32} {Cu_seen : Nat → Int32} {Cu_inThrees : Nat → Int32} {Cu_all : Int32} {Lo_asked : Nat → Nat → Int32} {Lo_ones : Nat → Nat → Int32} {Lo_sum : Nat → Nat → Int32} {Lo_wideSize : Nat → Int32} {Lo_sumSize : Nat → Int32} {Lo_flickers : Nat → Int32} {Lo_ready : Nat → Int32} {Wa_at : Int32} {Wa_turns : Int32} {Wa_changes : Int32} {post : Int64 → (Nat → Int32) → Int32 → (Nat → Nat → Int32) → (Nat → Nat → Int32) → (Nat → Nat → Int32) → (Nat → Int32) → (Nat → Int32) → (Nat → Int32) → (Nat → Int32) → Prop} {KE : Int64 → Prop} (X : kC p R s m args meth c cX9_digest RX9 5 (some .long) 6) (hK : va_K D vwCl (tyC cA) s) (hN : nwC s) (hE : ∀ (x1 : Int64), KE x1 → ∀ (ls : Array Slot) (H : Heap) (locs : List Loc), lv_has ls 5 [(0, .ref (q 0)), (1, .long x1)] → va_P D vwCl (wC q cA Fc_unkept Fc_tablesRead Pg_letters Pg_size Pg_fault Pg_rows Pg_inRow Pg_width Fl_entries Fl_states Fl_columns Fl_moves Fl_stables Fl_amiss Fl_normal Pt_lessers Pt_greaters Pt_size Lc_signals Lc_kept Lc_keptFrom Lc_candidates Lc_size Sc_signals Sc_codes Sc_size Ai_codes Ai_bits Cu_seen Cu_inThrees Cu_all Lo_asked Lo_ones Lo_sum Lo_wideSize Lo_sumSize Lo_flickers Lo_ready Wa_at Wa_turns Wa_changes) H → va_D A (wC q cA Fc_unkept Fc_tablesRead Pg_letters Pg_size Pg_fault Pg_rows Pg_inRow Pg_width Fl_entries Fl_states Fl_columns Fl_moves Fl_stables Fl_amiss Fl_normal Pt_lessers Pt_greaters Pt_size Lc_signals Lc_kept Lc_keptFrom Lc_candidates Lc_size Sc_signals Sc_codes Sc_size Ai_codes Ai_bits Cu_seen Cu_inThrees Cu_all Lo_asked Lo_ones Lo_sum Lo_wideSize Lo_sumSize Lo_flickers Lo_ready Wa_at Wa_turns Wa_changes) → va_S A s.heap H locs → W p l e R s m args below meth c H locs 0 0 (MQ below (qWl (Z_X9_digest D q cA Fc_unkept Fc_tablesRead Pg_letters Pg_size Pg_fault Pg_rows Pg_inRow Pg_width Fl_entries Fl_states Fl_columns Fl_moves Fl_stables Fl_amiss Fl_normal Pt_lessers Pt_greaters Pt_size Lc_signals Lc_kept Lc_keptFrom Lc_candidates Lc_size Sc_signals Sc_codes Sc_size Ai_codes Ai_bits Cu_inThrees Wa_at Wa_turns Wa_changes post) A) args s 0 0 A) (F0 m 193 ls [])) : ∀ (n : Nat) (x1 : Int64) (x3 : Int32), w_X9_digest_163 KE Pg_letters Pg_size n x1 x3 → ∀ (ls : Array Slot) (H : Heap) (locs : List Loc), lv_has ls 5 [(0, .ref (q 0)), (1, .long x1), (3, .int x3)] → va_P D vwCl (wC q cA Fc_unkept Fc_tablesRead Pg_letters Pg_size Pg_fault Pg_rows Pg_inRow Pg_width Fl_entries Fl_states Fl_columns Fl_moves Fl_stables Fl_amiss Fl_normal Pt_lessers Pt_greaters Pt_size Lc_signals Lc_kept Lc_keptFrom Lc_candidates Lc_size Sc_signals Sc_codes Sc_size Ai_codes Ai_bits Cu_seen Cu_inThrees Cu_all Lo_asked Lo_ones Lo_sum Lo_wideSize Lo_sumSize Lo_flickers Lo_ready Wa_at Wa_turns Wa_changes) H → va_D A (wC q cA Fc_unkept Fc_tablesRead Pg_letters Pg_size Pg_fault Pg_rows Pg_inRow Pg_width Fl_entries Fl_states Fl_columns Fl_moves Fl_stables Fl_amiss Fl_normal Pt_lessers Pt_greaters Pt_size Lc_signals Lc_kept Lc_keptFrom Lc_candidates Lc_size Sc_signals Sc_codes Sc_size Ai_codes Ai_bits Cu_seen Cu_inThrees Cu_all Lo_asked Lo_ones Lo_sum Lo_wideSize Lo_sumSize Lo_flickers Lo_ready Wa_at Wa_turns Wa_changes) → va_S A s.heap H locs → W p l e R s m args below meth c H locs 0 0 (MQ below (qWl (Z_X9_digest D q cA Fc_unkept Fc_tablesRead Pg_letters Pg_size Pg_fault Pg_rows Pg_inRow Pg_width Fl_entries Fl_states Fl_columns Fl_moves Fl_stables Fl_amiss Fl_normal Pt_lessers Pt_greaters Pt_size Lc_signals Lc_kept Lc_keptFrom Lc_candidates Lc_size Sc_signals Sc_codes Sc_size Ai_codes Ai_bits Cu_inThrees Wa_at Wa_turns Wa_changes post) A) args s 0 0 A) (F0 m 163 ls []) := by
  obtain ⟨hx, hb, hml, hown, hts, hr, hlocks, hRf, hRl⟩ := id X
  intro n
  induction n with
  | zero => intro x1 x3 hw; exact (show False from hw).elim
  | succ n ih =>
    intro x1 x3 hw ls H locs hl hP hD hS
    refine lv_iload_n hx hb dX9_digest_163 rfl (lv_at hl 2 rfl) ?_
    refine lv_aload_n hx hb dX9_digest_164 rfl (lv_at hl 0 rfl) ?_
    refine gRX9_12 hx hb hown hts hK hP dX9_digest_165 ?_
    refine gRX9_83 hx hb hown hts hK hN hP dX9_digest_168 ?_
    refine lv_icmp_ge (tgt := 193) hx hb dX9_digest_171 (by decide) (fun c_18 => ?_) (fun c_18 => ?_)
    · have hw := hw.1 c_18
      exact hE _ hw ls _ _ (lv_sub hl [0, 1] rfl) hP hD hS
    · have hw := hw.2 c_18
      refine lv_lload_n hx hb dX9_digest_174 rfl (lv_at hl 1 rfl) ?_
      refine lv_aload_n hx hb dX9_digest_175 rfl (lv_at hl 0 rfl) ?_
      refine gRX9_12 hx hb hown hts hK hP dX9_digest_176 ?_
      refine lv_iload_n hx hb dX9_digest_179 rfl (lv_at hl 2 rfl) ?_
      refine ro_i (va_runV (As := [.int x3]) (rest := [.long x1]) ⟨hx, hb, hml, hown, hts⟩ (c_X5_at l hw) (kRX9_267 (h := 0) hts (Nat.le_trans (Nat.le_of_ble_eq_true rfl) hRf) (Nat.le_trans (Nat.le_of_ble_eq_true rfl) hRl)) (preX5 hK hN hP) rfl rfl hl.1 rfl (lv_room (Nat.le_of_ble_eq_true rfl)) dX9_digest_180 ⟨Nat.zero_le _, Nat.zero_le _⟩) (fun r_19 hw => ?_)
      refine ro_l (va_runS (As := [.long x1, .int r_19]) (rest := []) ⟨hx, hb, hml, hown, hts⟩ (c_X9_mixed l hw) (kRX9_247 (h := 0) hts (Nat.le_trans (Nat.le_of_ble_eq_true rfl) hRf) (Nat.le_trans (Nat.le_of_ble_eq_true rfl) hRl)) pre_0 rfl rfl hl.1 rfl (lv_room (Nat.le_of_ble_eq_true rfl)) dX9_digest_183 ⟨Nat.zero_le _, Nat.zero_le _⟩) (fun r_20 hw => ?_)
      refine lv_lstore_n (lv' := [(1, .long r_20), (0, .ref (q 0)), (3, .int x3)]) hx hb dX9_digest_186 rfl hl (by decide) rfl (fun ls hl => ?_)
      obtain ⟨x3_21, e_21⟩ : ∃ z : Int32, z = x3 + (1 : Int32) := ⟨_, rfl⟩
      have hw := hw x3_21 e_21
      refine lv_iinc (v := x3_21) (lv' := [(3, .int x3_21), (1, .long r_20), (0, .ref (q 0))]) hx hb dX9_digest_187 hl (k := 2) rfl (by rw [e_21]; rfl) (by decide) rfl (fun ls hl => ?_)
      refine lv_goto (tgt := 163) hx hb dX9_digest_190 (by decide) ?_
      exact ih _ _ hw ls _ _ (lv_sub hl [2, 1, 0] rfl) hP hD hS
set_option maxHeartbeats 4000000 in
set_option maxRecDepth 100000 in
theorem t_X9_digest_195 {p : Program} {l : Launch} {e : Env} {R : Room} {s : State} {m : MethodId} {args : Array Value} {below : List Frame} {meth : Method} {c : Code} {A : Nat → Prop} {D : va_G} {q : Nat → Nat} {cA : Nat → ClassId} {Fc_unkept : Int32} {Fc_tablesRead : Int32} {Pg_letters : Nat → Int32} {Pg_size : Int32} {Pg_fault : Int32} {Pg_rows : Int32} {Pg_inRow : Int32} {Pg_width : Int32} {Fl_entries : Nat → Int32} {Fl_states : Int32} {Fl_columns : Int32} {Fl_moves : Int32} {Fl_stables : Int32} {Fl_amiss : Int32} {Fl_normal : Int32} {Pt_lessers : Nat → Int32} {Pt_greaters : Nat → Int32} {Pt_size : Int32} {Lc_signals : Nat → Int32} {Lc_kept : Nat → Int64} {Lc_keptFrom : Nat → Int64} {Lc_candidates : Int32} {Lc_size : Int32} {Sc_signals : Nat → Int32} {Sc_codes : Nat → Int32} {Sc_size : Int32} {Ai_codes : Nat → Int32} {Ai_bits : Int32} {Cu_seen : Nat → Int32} {Cu_inThrees : Nat → Int32} {Cu_all : Int32} {Lo_asked : Nat → Nat → Int32} {Lo_ones : Nat → Nat → Int32} {Lo_sum : Nat → Nat → Int32} {Lo_wideSize : Nat → Int32} {Lo_sumSize : Nat → Int32} {Lo_flickers : Nat → Int32} {Lo_ready : Nat → Int32} {Wa_at : Int32} {Wa_turns : Int32} {Wa_changes : Int32} {post : Int64 → (Nat → Int32) → Int32 → (Nat → Nat → Int32) → (Nat → Nat → Int32) → (Nat → Nat → Int32) → (Nat → Int32) → (Nat → Int32) → (Nat → Int32) → (Nat → Int32) → Prop} {KE : Int64 → Prop} (X : kC p R s m args meth c cX9_digest RX9 5 (some .long) 6) (hK : va_K D vwCl (tyC cA) s) (hN : nwC s) (hE : ∀ (x1 : Int64), KE x1 → ∀ (ls : Array Slot) (H : Heap) (locs : List Loc), lv_has ls 5 [(1, .long x1)] → va_P D vwCl (wC q cA Fc_unkept Fc_tablesRead Pg_letters Pg_size Pg_fault Pg_rows Pg_inRow Pg_width Fl_entries Fl_states Fl_columns Fl_moves Fl_stables Fl_amiss Fl_normal Pt_lessers Pt_greaters Pt_size Lc_signals Lc_kept Lc_keptFrom Lc_candidates Lc_size Sc_signals Sc_codes Sc_size Ai_codes Ai_bits Cu_seen Cu_inThrees Cu_all Lo_asked Lo_ones Lo_sum Lo_wideSize Lo_sumSize Lo_flickers Lo_ready Wa_at Wa_turns Wa_changes) H → va_D A (wC q cA Fc_unkept Fc_tablesRead Pg_letters Pg_size Pg_fault Pg_rows Pg_inRow Pg_width Fl_entries Fl_states Fl_columns Fl_moves Fl_stables Fl_amiss Fl_normal Pt_lessers Pt_greaters Pt_size Lc_signals Lc_kept Lc_keptFrom Lc_candidates Lc_size Sc_signals Sc_codes Sc_size Ai_codes Ai_bits Cu_seen Cu_inThrees Cu_all Lo_asked Lo_ones Lo_sum Lo_wideSize Lo_sumSize Lo_flickers Lo_ready Wa_at Wa_turns Wa_changes) → va_S A s.heap H locs → W p l e R s m args below meth c H locs 0 0 (MQ below (qWl (Z_X9_digest D q cA Fc_unkept Fc_tablesRead Pg_letters Pg_size Pg_fault Pg_rows Pg_inRow Pg_width Fl_entries Fl_states Fl_columns Fl_moves Fl_stables Fl_amiss Fl_normal Pt_lessers Pt_greaters Pt_size Lc_signals Lc_kept Lc_keptFrom Lc_candidates Lc_size Sc_signals Sc_codes Sc_size Ai_codes Ai_bits Cu_inThrees Wa_at Wa_turns Wa_changes post) A) args s 0 0 A) (F0 m 217 ls [])) : ∀ (n : Nat) (x1 : Int64) (x3 : Int32), w_X9_digest_195 KE Fc_tablesRead Pg_size Fl_states Fl_columns Wa_at Wa_turns Wa_changes n x1 x3 → ∀ (ls : Array Slot) (H : Heap) (locs : List Loc), lv_has ls 5 [(0, .ref (q 0)), (1, .long x1), (3, .int x3)] → va_P D vwCl (wC q cA Fc_unkept Fc_tablesRead Pg_letters Pg_size Pg_fault Pg_rows Pg_inRow Pg_width Fl_entries Fl_states Fl_columns Fl_moves Fl_stables Fl_amiss Fl_normal Pt_lessers Pt_greaters Pt_size Lc_signals Lc_kept Lc_keptFrom Lc_candidates Lc_size Sc_signals Sc_codes Sc_size Ai_codes Ai_bits Cu_seen Cu_inThrees Cu_all Lo_asked Lo_ones Lo_sum Lo_wideSize Lo_sumSize Lo_flickers Lo_ready Wa_at Wa_turns Wa_changes) H → va_D A (wC q cA Fc_unkept Fc_tablesRead Pg_letters Pg_size Pg_fault Pg_rows Pg_inRow Pg_width Fl_entries Fl_states Fl_columns Fl_moves Fl_stables Fl_amiss Fl_normal Pt_lessers Pt_greaters Pt_size Lc_signals Lc_kept Lc_keptFrom Lc_candidates Lc_size Sc_signals Sc_codes Sc_size Ai_codes Ai_bits Cu_seen Cu_inThrees Cu_all Lo_asked Lo_ones Lo_sum Lo_wideSize Lo_sumSize Lo_flickers Lo_ready Wa_at Wa_turns Wa_changes) → va_S A s.heap H locs → W p l e R s m args below meth c H locs 0 0 (MQ below (qWl (Z_X9_digest D q cA Fc_unkept Fc_tablesRead Pg_letters Pg_size Pg_fault Pg_rows Pg_inRow Pg_width Fl_entries Fl_states Fl_columns Fl_moves Fl_stables Fl_amiss Fl_normal Pt_lessers Pt_greaters Pt_size Lc_signals Lc_kept Lc_keptFrom Lc_candidates Lc_size Sc_signals Sc_codes Sc_size Ai_codes Ai_bits Cu_inThrees Wa_at Wa_turns Wa_changes post) A) args s 0 0 A) (F0 m 195 ls []) := by
  obtain ⟨hx, hb, hml, hown, hts, hr, hlocks, hRf, hRl⟩ := id X
  intro n
  induction n with
  | zero => intro x1 x3 hw; exact (show False from hw).elim
  | succ n ih =>
    intro x1 x3 hw ls H locs hl hP hD hS
    refine lv_iload_n hx hb dX9_digest_195 rfl (lv_at hl 2 rfl) ?_
    refine lv_bipush (v := (6 : Int32)) hx hb dX9_digest_196 (by decide +kernel) ?_
    refine lv_icmp_gt (tgt := 217) hx hb dX9_digest_198 (by decide) (fun c_23 => ?_) (fun c_23 => ?_)
    · have hw := hw.1 c_23
      exact hE _ hw ls _ _ (lv_sub hl [1] rfl) hP hD hS
    · have hw := hw.2 c_23
      refine lv_lload_n hx hb dX9_digest_201 rfl (lv_at hl 1 rfl) ?_
      refine lv_aload_n hx hb dX9_digest_202 rfl (lv_at hl 0 rfl) ?_
      refine lv_iload_n hx hb dX9_digest_203 rfl (lv_at hl 2 rfl) ?_
      refine ro_i (va_runV (As := [.int x3]) (rest := [.long x1]) ⟨hx, hb, hml, hown, hts⟩ (c_X9_count l hw) (kRX9_269 (h := 0) hts (Nat.le_trans (Nat.le_of_ble_eq_true rfl) hRf) (Nat.le_trans (Nat.le_of_ble_eq_true rfl) hRl)) (preX9 hK hN hP) rfl rfl hl.1 rfl (lv_room (Nat.le_of_ble_eq_true rfl)) dX9_digest_204 ⟨Nat.zero_le _, Nat.zero_le _⟩) (fun r_24 hw => ?_)
      refine ro_l (va_runS (As := [.long x1, .int r_24]) (rest := []) ⟨hx, hb, hml, hown, hts⟩ (c_X9_mixed l hw) (kRX9_247 (h := 0) hts (Nat.le_trans (Nat.le_of_ble_eq_true rfl) hRf) (Nat.le_trans (Nat.le_of_ble_eq_true rfl) hRl)) pre_0 rfl rfl hl.1 rfl (lv_room (Nat.le_of_ble_eq_true rfl)) dX9_digest_207 ⟨Nat.zero_le _, Nat.zero_le _⟩) (fun r_25 hw => ?_)
      refine lv_lstore_n (lv' := [(1, .long r_25), (0, .ref (q 0)), (3, .int x3)]) hx hb dX9_digest_210 rfl hl (by decide) rfl (fun ls hl => ?_)
      obtain ⟨x3_26, e_26⟩ : ∃ z : Int32, z = x3 + (1 : Int32) := ⟨_, rfl⟩
      have hw := hw x3_26 e_26
      refine lv_iinc (v := x3_26) (lv' := [(3, .int x3_26), (1, .long r_25), (0, .ref (q 0))]) hx hb dX9_digest_211 hl (k := 2) rfl (by rw [e_26]; rfl) (by decide) rfl (fun ls hl => ?_)
      refine lv_goto (tgt := 195) hx hb dX9_digest_214 (by decide) ?_
      exact ih _ _ hw ls _ _ (lv_sub hl [2, 1, 0] rfl) hP hD hS
set_option maxHeartbeats 4000000 in
set_option maxRecDepth 100000 in
theorem t_X9_digest_137 {p : Program} {l : Launch} {e : Env} {R : Room} {s : State} {m : MethodId} {args : Array Value} {below : List Frame} {meth : Method} {c : Code} {A : Nat → Prop} {D : va_G} {q : Nat → Nat} {cA : Nat → ClassId} {Fc_unkept : Int32} {Fc_tablesRead : Int32} {Pg_letters : Nat → Int32} {Pg_size : Int32} {Pg_fault : Int32} {Pg_rows : Int32} {Pg_inRow : Int32} {Pg_width : Int32} {Fl_entries : Nat → Int32} {Fl_states : Int32} {Fl_columns : Int32} {Fl_moves : Int32} {Fl_stables : Int32} {Fl_amiss : Int32} {Fl_normal : Int32} {Pt_lessers : Nat → Int32} {Pt_greaters : Nat → Int32} {Pt_size : Int32} {Lc_signals : Nat → Int32} {Lc_kept : Nat → Int64} {Lc_keptFrom : Nat → Int64} {Lc_candidates : Int32} {Lc_size : Int32} {Sc_signals : Nat → Int32} {Sc_codes : Nat → Int32} {Sc_size : Int32} {Ai_codes : Nat → Int32} {Ai_bits : Int32} {Cu_inThrees : Nat → Int32} {Wa_at : Int32} {Wa_turns : Int32} {Wa_changes : Int32} {post : Int64 → (Nat → Int32) → Int32 → (Nat → Nat → Int32) → (Nat → Nat → Int32) → (Nat → Nat → Int32) → (Nat → Int32) → (Nat → Int32) → (Nat → Int32) → (Nat → Int32) → Prop} {KE : Int64 → (Nat → Int32) → Int32 → (Nat → Nat → Int32) → (Nat → Nat → Int32) → (Nat → Nat → Int32) → (Nat → Int32) → (Nat → Int32) → (Nat → Int32) → (Nat → Int32) → Prop} (X : kC p R s m args meth c cX9_digest RX9 5 (some .long) 6) (hK : va_K D vwCl (tyC cA) s) (hN : nwC s) (hE : ∀ (x1 : Int64) (Cu_seen : Nat → Int32) (Cu_all : Int32) (Lo_asked : Nat → Nat → Int32) (Lo_ones : Nat → Nat → Int32) (Lo_sum : Nat → Nat → Int32) (Lo_wideSize : Nat → Int32) (Lo_sumSize : Nat → Int32) (Lo_flickers : Nat → Int32) (Lo_ready : Nat → Int32), KE x1 Cu_seen Cu_all Lo_asked Lo_ones Lo_sum Lo_wideSize Lo_sumSize Lo_flickers Lo_ready → ∀ (ls : Array Slot) (H : Heap) (locs : List Loc), lv_has ls 5 [(0, .ref (q 0)), (1, .long x1)] → va_P D vwCl (wC q cA Fc_unkept Fc_tablesRead Pg_letters Pg_size Pg_fault Pg_rows Pg_inRow Pg_width Fl_entries Fl_states Fl_columns Fl_moves Fl_stables Fl_amiss Fl_normal Pt_lessers Pt_greaters Pt_size Lc_signals Lc_kept Lc_keptFrom Lc_candidates Lc_size Sc_signals Sc_codes Sc_size Ai_codes Ai_bits Cu_seen Cu_inThrees Cu_all Lo_asked Lo_ones Lo_sum Lo_wideSize Lo_sumSize Lo_flickers Lo_ready Wa_at Wa_turns Wa_changes) H → va_D A (wC q cA Fc_unkept Fc_tablesRead Pg_letters Pg_size Pg_fault Pg_rows Pg_inRow Pg_width Fl_entries Fl_states Fl_columns Fl_moves Fl_stables Fl_amiss Fl_normal Pt_lessers Pt_greaters Pt_size Lc_signals Lc_kept Lc_keptFrom Lc_candidates Lc_size Sc_signals Sc_codes Sc_size Ai_codes Ai_bits Cu_seen Cu_inThrees Cu_all Lo_asked Lo_ones Lo_sum Lo_wideSize Lo_sumSize Lo_flickers Lo_ready Wa_at Wa_turns Wa_changes) → va_S A s.heap H locs → W p l e R s m args below meth c H locs 0 0 (MQ below (qWl (Z_X9_digest D q cA Fc_unkept Fc_tablesRead Pg_letters Pg_size Pg_fault Pg_rows Pg_inRow Pg_width Fl_entries Fl_states Fl_columns Fl_moves Fl_stables Fl_amiss Fl_normal Pt_lessers Pt_greaters Pt_size Lc_signals Lc_kept Lc_keptFrom Lc_candidates Lc_size Sc_signals Sc_codes Sc_size Ai_codes Ai_bits Cu_inThrees Wa_at Wa_turns Wa_changes post) A) args s 0 0 A) (F0 m 161 ls [])) : ∀ (n : Nat) (x1 : Int64) (x3 : Int32) (Cu_seen : Nat → Int32) (Cu_all : Int32) (Lo_asked : Nat → Nat → Int32) (Lo_ones : Nat → Nat → Int32) (Lo_sum : Nat → Nat → Int32) (Lo_wideSize : Nat → Int32) (Lo_sumSize : Nat → Int32) (Lo_flickers : Nat → Int32) (Lo_ready : Nat → Int32), w_X9_digest_137 KE Fc_unkept Fl_normal Sc_size Ai_codes Ai_bits Cu_inThrees n x1 x3 Cu_seen Cu_all Lo_asked Lo_ones Lo_sum Lo_wideSize Lo_sumSize Lo_flickers Lo_ready → ∀ (ls : Array Slot) (H : Heap) (locs : List Loc), lv_has ls 5 [(0, .ref (q 0)), (1, .long x1), (3, .int x3)] → va_P D vwCl (wC q cA Fc_unkept Fc_tablesRead Pg_letters Pg_size Pg_fault Pg_rows Pg_inRow Pg_width Fl_entries Fl_states Fl_columns Fl_moves Fl_stables Fl_amiss Fl_normal Pt_lessers Pt_greaters Pt_size Lc_signals Lc_kept Lc_keptFrom Lc_candidates Lc_size Sc_signals Sc_codes Sc_size Ai_codes Ai_bits Cu_seen Cu_inThrees Cu_all Lo_asked Lo_ones Lo_sum Lo_wideSize Lo_sumSize Lo_flickers Lo_ready Wa_at Wa_turns Wa_changes) H → va_D A (wC q cA Fc_unkept Fc_tablesRead Pg_letters Pg_size Pg_fault Pg_rows Pg_inRow Pg_width Fl_entries Fl_states Fl_columns Fl_moves Fl_stables Fl_amiss Fl_normal Pt_lessers Pt_greaters Pt_size Lc_signals Lc_kept Lc_keptFrom Lc_candidates Lc_size Sc_signals Sc_codes Sc_size Ai_codes Ai_bits Cu_seen Cu_inThrees Cu_all Lo_asked Lo_ones Lo_sum Lo_wideSize Lo_sumSize Lo_flickers Lo_ready Wa_at Wa_turns Wa_changes) → va_S A s.heap H locs → W p l e R s m args below meth c H locs 0 0 (MQ below (qWl (Z_X9_digest D q cA Fc_unkept Fc_tablesRead Pg_letters Pg_size Pg_fault Pg_rows Pg_inRow Pg_width Fl_entries Fl_states Fl_columns Fl_moves Fl_stables Fl_amiss Fl_normal Pt_lessers Pt_greaters Pt_size Lc_signals Lc_kept Lc_keptFrom Lc_candidates Lc_size Sc_signals Sc_codes Sc_size Ai_codes Ai_bits Cu_inThrees Wa_at Wa_turns Wa_changes post) A) args s 0 0 A) (F0 m 137 ls []) := by
  obtain ⟨hx, hb, hml, hown, hts, hr, hlocks, hRf, hRl⟩ := id X
  intro n
  induction n with
  | zero => intro x1 x3 Cu_seen Cu_all Lo_asked Lo_ones Lo_sum Lo_wideSize Lo_sumSize Lo_flickers Lo_ready hw; exact (show False from hw).elim
  | succ n ih =>
    intro x1 x3 Cu_seen Cu_all Lo_asked Lo_ones Lo_sum Lo_wideSize Lo_sumSize Lo_flickers Lo_ready hw ls H locs hl hP hD hS
    refine lv_iload_n hx hb dX9_digest_137 rfl (lv_at hl 2 rfl) ?_
    refine lv_aload_n hx hb dX9_digest_138 rfl (lv_at hl 0 rfl) ?_
    refine gRX9_40 hx hb hown hts hK hP dX9_digest_139 ?_
    refine gRX9_175 hx hb hown hts hK hN hP dX9_digest_142 ?_
    refine lv_icmp_ge (tgt := 161) hx hb dX9_digest_145 (by decide) (fun c_28 => ?_) (fun c_28 => ?_)
    · have hw := hw.1 c_28
      exact hE _ _ _ _ _ _ _ _ _ _ hw ls _ _ (lv_sub hl [0, 1] rfl) hP hD hS
    · have hw := hw.2 c_28
      refine lv_aload_n hx hb dX9_digest_148 rfl (lv_at hl 0 rfl) ?_
      refine lv_lload_n hx hb dX9_digest_149 rfl (lv_at hl 1 rfl) ?_
      refine lv_iload_n hx hb dX9_digest_150 rfl (lv_at hl 2 rfl) ?_
      refine wr_l (va_runV (As := [.long x1, .int x3]) (rest := []) ⟨hx, hb, hml, hown, hts⟩ (c_X9_mixedLogic l hw) (kRX9_264 (h := 5) hts (Nat.le_trans (Nat.le_of_ble_eq_true rfl) hRf) (Nat.le_trans (Nat.le_of_ble_eq_true rfl) hRl)) (preX9w hK hN hP hD) rfl rfl hl.1 rfl (lv_room (Nat.le_of_ble_eq_true rfl)) dX9_digest_151 ⟨Nat.zero_le _, Nat.zero_le _⟩) hS (fun r_29 t H locs ht hw hS => ?_)
      obtain ⟨yseen_29, yall_29, yasked_29, yones_29, ysum_29, ywideSize_29, ysumSize_29, yflickers_29, yready_29, hw, hP⟩ := hw
      rw [ht] at hP
      have hP : va_P D vwCl (wC q cA Fc_unkept Fc_tablesRead Pg_letters Pg_size Pg_fault Pg_rows Pg_inRow Pg_width Fl_entries Fl_states Fl_columns Fl_moves Fl_stables Fl_amiss Fl_normal Pt_lessers Pt_greaters Pt_size Lc_signals Lc_kept Lc_keptFrom Lc_candidates Lc_size Sc_signals Sc_codes Sc_size Ai_codes Ai_bits yseen_29 Cu_inThrees yall_29 yasked_29 yones_29 ysum_29 ywideSize_29 ysumSize_29 yflickers_29 yready_29 Wa_at Wa_turns Wa_changes) H := hP
      have hD : va_D A (wC q cA Fc_unkept Fc_tablesRead Pg_letters Pg_size Pg_fault Pg_rows Pg_inRow Pg_width Fl_entries Fl_states Fl_columns Fl_moves Fl_stables Fl_amiss Fl_normal Pt_lessers Pt_greaters Pt_size Lc_signals Lc_kept Lc_keptFrom Lc_candidates Lc_size Sc_signals Sc_codes Sc_size Ai_codes Ai_bits yseen_29 Cu_inThrees yall_29 yasked_29 yones_29 ysum_29 ywideSize_29 ysumSize_29 yflickers_29 yready_29 Wa_at Wa_turns Wa_changes) := dC hD
      refine lv_lstore_n (lv' := [(1, .long r_29), (0, .ref (q 0)), (3, .int x3)]) hx hb dX9_digest_154 rfl hl (by decide) rfl (fun ls hl => ?_)
      obtain ⟨x3_30, e_30⟩ : ∃ z : Int32, z = x3 + (1 : Int32) := ⟨_, rfl⟩
      have hw := hw x3_30 e_30
      refine lv_iinc (v := x3_30) (lv' := [(3, .int x3_30), (1, .long r_29), (0, .ref (q 0))]) hx hb dX9_digest_155 hl (k := 2) rfl (by rw [e_30]; rfl) (by decide) rfl (fun ls hl => ?_)
      refine lv_goto (tgt := 137) hx hb dX9_digest_158 (by decide) ?_
      exact ih _ _ _ _ _ _ _ _ _ _ _ hw ls _ _ (lv_sub hl [2, 1, 0] rfl) hP hD hS
set_option maxHeartbeats 4000000 in
set_option maxRecDepth 100000 in
theorem t_X9_digest_68 {p : Program} {l : Launch} {e : Env} {R : Room} {s : State} {m : MethodId} {args : Array Value} {below : List Frame} {meth : Method} {c : Code} {A : Nat → Prop} {D : va_G} {q : Nat → Nat} {cA : Nat → ClassId} {Fc_unkept : Int32} {Fc_tablesRead : Int32} {Pg_letters : Nat → Int32} {Pg_size : Int32} {Pg_fault : Int32} {Pg_rows : Int32} {Pg_inRow : Int32} {Pg_width : Int32} {Fl_entries : Nat → Int32} {Fl_states : Int32} {Fl_columns : Int32} {Fl_moves : Int32} {Fl_stables : Int32} {Fl_amiss : Int32} {Fl_normal : Int32} {Pt_lessers : Nat → Int32} {Pt_greaters : Nat → Int32} {Pt_size : Int32} {Lc_signals : Nat → Int32} {Lc_kept : Nat → Int64} {Lc_keptFrom : Nat → Int64} {Lc_candidates : Int32} {Lc_size : Int32} {Sc_signals : Nat → Int32} {Sc_codes : Nat → Int32} {Sc_size : Int32} {Ai_codes : Nat → Int32} {Ai_bits : Int32} {Cu_seen : Nat → Int32} {Cu_inThrees : Nat → Int32} {Cu_all : Int32} {Lo_asked : Nat → Nat → Int32} {Lo_ones : Nat → Nat → Int32} {Lo_sum : Nat → Nat → Int32} {Lo_wideSize : Nat → Int32} {Lo_sumSize : Nat → Int32} {Lo_flickers : Nat → Int32} {Lo_ready : Nat → Int32} {Wa_at : Int32} {Wa_turns : Int32} {Wa_changes : Int32} {post : Int64 → (Nat → Int32) → Int32 → (Nat → Nat → Int32) → (Nat → Nat → Int32) → (Nat → Nat → Int32) → (Nat → Int32) → (Nat → Int32) → (Nat → Int32) → (Nat → Int32) → Prop} {KE : Int64 → Prop} (X : kC p R s m args meth c cX9_digest RX9 5 (some .long) 6) (hK : va_K D vwCl (tyC cA) s) (hN : nwC s) (hE : ∀ (x1 : Int64), KE x1 → ∀ (ls : Array Slot) (H : Heap) (locs : List Loc), lv_has ls 5 [(0, .ref (q 0)), (1, .long x1)] → va_P D vwCl (wC q cA Fc_unkept Fc_tablesRead Pg_letters Pg_size Pg_fault Pg_rows Pg_inRow Pg_width Fl_entries Fl_states Fl_columns Fl_moves Fl_stables Fl_amiss Fl_normal Pt_lessers Pt_greaters Pt_size Lc_signals Lc_kept Lc_keptFrom Lc_candidates Lc_size Sc_signals Sc_codes Sc_size Ai_codes Ai_bits Cu_seen Cu_inThrees Cu_all Lo_asked Lo_ones Lo_sum Lo_wideSize Lo_sumSize Lo_flickers Lo_ready Wa_at Wa_turns Wa_changes) H → va_D A (wC q cA Fc_unkept Fc_tablesRead Pg_letters Pg_size Pg_fault Pg_rows Pg_inRow Pg_width Fl_entries Fl_states Fl_columns Fl_moves Fl_stables Fl_amiss Fl_normal Pt_lessers Pt_greaters Pt_size Lc_signals Lc_kept Lc_keptFrom Lc_candidates Lc_size Sc_signals Sc_codes Sc_size Ai_codes Ai_bits Cu_seen Cu_inThrees Cu_all Lo_asked Lo_ones Lo_sum Lo_wideSize Lo_sumSize Lo_flickers Lo_ready Wa_at Wa_turns Wa_changes) → va_S A s.heap H locs → W p l e R s m args below meth c H locs 0 0 (MQ below (qWl (Z_X9_digest D q cA Fc_unkept Fc_tablesRead Pg_letters Pg_size Pg_fault Pg_rows Pg_inRow Pg_width Fl_entries Fl_states Fl_columns Fl_moves Fl_stables Fl_amiss Fl_normal Pt_lessers Pt_greaters Pt_size Lc_signals Lc_kept Lc_keptFrom Lc_candidates Lc_size Sc_signals Sc_codes Sc_size Ai_codes Ai_bits Cu_inThrees Wa_at Wa_turns Wa_changes post) A) args s 0 0 A) (F0 m 89 ls [])) : ∀ (n : Nat) (x1 : Int64) (x3 : Int32), w_X9_digest_68 KE Fl_states Fl_moves Fl_stables Fl_amiss Fl_normal Pt_size n x1 x3 → ∀ (ls : Array Slot) (H : Heap) (locs : List Loc), lv_has ls 5 [(0, .ref (q 0)), (1, .long x1), (3, .int x3)] → va_P D vwCl (wC q cA Fc_unkept Fc_tablesRead Pg_letters Pg_size Pg_fault Pg_rows Pg_inRow Pg_width Fl_entries Fl_states Fl_columns Fl_moves Fl_stables Fl_amiss Fl_normal Pt_lessers Pt_greaters Pt_size Lc_signals Lc_kept Lc_keptFrom Lc_candidates Lc_size Sc_signals Sc_codes Sc_size Ai_codes Ai_bits Cu_seen Cu_inThrees Cu_all Lo_asked Lo_ones Lo_sum Lo_wideSize Lo_sumSize Lo_flickers Lo_ready Wa_at Wa_turns Wa_changes) H → va_D A (wC q cA Fc_unkept Fc_tablesRead Pg_letters Pg_size Pg_fault Pg_rows Pg_inRow Pg_width Fl_entries Fl_states Fl_columns Fl_moves Fl_stables Fl_amiss Fl_normal Pt_lessers Pt_greaters Pt_size Lc_signals Lc_kept Lc_keptFrom Lc_candidates Lc_size Sc_signals Sc_codes Sc_size Ai_codes Ai_bits Cu_seen Cu_inThrees Cu_all Lo_asked Lo_ones Lo_sum Lo_wideSize Lo_sumSize Lo_flickers Lo_ready Wa_at Wa_turns Wa_changes) → va_S A s.heap H locs → W p l e R s m args below meth c H locs 0 0 (MQ below (qWl (Z_X9_digest D q cA Fc_unkept Fc_tablesRead Pg_letters Pg_size Pg_fault Pg_rows Pg_inRow Pg_width Fl_entries Fl_states Fl_columns Fl_moves Fl_stables Fl_amiss Fl_normal Pt_lessers Pt_greaters Pt_size Lc_signals Lc_kept Lc_keptFrom Lc_candidates Lc_size Sc_signals Sc_codes Sc_size Ai_codes Ai_bits Cu_inThrees Wa_at Wa_turns Wa_changes post) A) args s 0 0 A) (F0 m 68 ls []) := by
  obtain ⟨hx, hb, hml, hown, hts, hr, hlocks, hRf, hRl⟩ := id X
  intro n
  induction n with
  | zero => intro x1 x3 hw; exact (show False from hw).elim
  | succ n ih =>
    intro x1 x3 hw ls H locs hl hP hD hS
    refine lv_iload_n hx hb dX9_digest_68 rfl (lv_at hl 2 rfl) ?_
    refine lv_iconst (v := (4 : Int32)) hx hb dX9_digest_69 (by decide) ?_
    refine lv_icmp_gt (tgt := 89) hx hb dX9_digest_70 (by decide) (fun c_43 => ?_) (fun c_43 => ?_)
    · have hw := hw.1 c_43
      exact hE _ hw ls _ _ (lv_sub hl [0, 1] rfl) hP hD hS
    · have hw := hw.2 c_43
      refine lv_lload_n hx hb dX9_digest_73 rfl (lv_at hl 1 rfl) ?_
      refine lv_aload_n hx hb dX9_digest_74 rfl (lv_at hl 0 rfl) ?_
      refine lv_iload_n hx hb dX9_digest_75 rfl (lv_at hl 2 rfl) ?_
      refine ro_i (va_runV (As := [.int x3]) (rest := [.long x1]) ⟨hx, hb, hml, hown, hts⟩ (c_X9_about l hw) (kRX9_251 (h := 0) hts (Nat.le_trans (Nat.le_of_ble_eq_true rfl) hRf) (Nat.le_trans (Nat.le_of_ble_eq_true rfl) hRl)) (preX9 hK hN hP) rfl rfl hl.1 rfl (lv_room (Nat.le_of_ble_eq_true rfl)) dX9_digest_76 ⟨Nat.zero_le _, Nat.zero_le _⟩) (fun r_44 hw => ?_)
      refine ro_l (va_runS (As := [.long x1, .int r_44]) (rest := []) ⟨hx, hb, hml, hown, hts⟩ (c_X9_mixed l hw) (kRX9_247 (h := 0) hts (Nat.le_trans (Nat.le_of_ble_eq_true rfl) hRf) (Nat.le_trans (Nat.le_of_ble_eq_true rfl) hRl)) pre_0 rfl rfl hl.1 rfl (lv_room (Nat.le_of_ble_eq_true rfl)) dX9_digest_79 ⟨Nat.zero_le _, Nat.zero_le _⟩) (fun r_45 hw => ?_)
      refine lv_lstore_n (lv' := [(1, .long r_45), (0, .ref (q 0)), (3, .int x3)]) hx hb dX9_digest_82 rfl hl (by decide) rfl (fun ls hl => ?_)
      obtain ⟨x3_46, e_46⟩ : ∃ z : Int32, z = x3 + (1 : Int32) := ⟨_, rfl⟩
      have hw := hw x3_46 e_46
      refine lv_iinc (v := x3_46) (lv' := [(3, .int x3_46), (1, .long r_45), (0, .ref (q 0))]) hx hb dX9_digest_83 hl (k := 2) rfl (by rw [e_46]; rfl) (by decide) rfl (fun ls hl => ?_)
      refine lv_goto (tgt := 68) hx hb dX9_digest_86 (by decide) ?_
      exact ih _ _ hw ls _ _ (lv_sub hl [2, 1, 0] rfl) hP hD hS
set_option maxHeartbeats 4000000 in
set_option maxRecDepth 100000 in
theorem c_X9_digest (l : Launch) {D : va_G} {q : Nat → Nat} {cA : Nat → ClassId} {Fc_unkept : Int32} {Fc_tablesRead : Int32} {Pg_letters : Nat → Int32} {Pg_size : Int32} {Pg_fault : Int32} {Pg_rows : Int32} {Pg_inRow : Int32} {Pg_width : Int32} {Fl_entries : Nat → Int32} {Fl_states : Int32} {Fl_columns : Int32} {Fl_moves : Int32} {Fl_stables : Int32} {Fl_amiss : Int32} {Fl_normal : Int32} {Pt_lessers : Nat → Int32} {Pt_greaters : Nat → Int32} {Pt_size : Int32} {Lc_signals : Nat → Int32} {Lc_kept : Nat → Int64} {Lc_keptFrom : Nat → Int64} {Lc_candidates : Int32} {Lc_size : Int32} {Sc_signals : Nat → Int32} {Sc_codes : Nat → Int32} {Sc_size : Int32} {Ai_codes : Nat → Int32} {Ai_bits : Int32} {Cu_seen : Nat → Int32} {Cu_inThrees : Nat → Int32} {Cu_all : Int32} {Lo_asked : Nat → Nat → Int32} {Lo_ones : Nat → Nat → Int32} {Lo_sum : Nat → Nat → Int32} {Lo_wideSize : Nat → Int32} {Lo_sumSize : Nat → Int32} {Lo_flickers : Nat → Int32} {Lo_ready : Nat → Int32} {Wa_at : Int32} {Wa_turns : Int32} {Wa_changes : Int32} {A : Nat → Prop} {post : Int64 → (Nat → Int32) → Int32 → (Nat → Nat → Int32) → (Nat → Nat → Int32) → (Nat → Nat → Int32) → (Nat → Int32) → (Nat → Int32) → (Nat → Int32) → (Nat → Int32) → Prop}  (hw : wp_X9_digest post Fc_unkept Fc_tablesRead Pg_letters Pg_size Fl_entries Fl_states Fl_columns Fl_moves Fl_stables Fl_amiss Fl_normal Pt_lessers Pt_greaters Pt_size Lc_signals Lc_size Sc_signals Sc_codes Sc_size Ai_codes Ai_bits Cu_seen Cu_inThrees Cu_all Lo_asked Lo_ones Lo_sum Lo_wideSize Lo_sumSize Lo_flickers Lo_ready Wa_at Wa_turns Wa_changes ) : Met l yX9_digest (Cond.code yX9_digest cX9_digest 5 (some .long) :: wsL_law) (rmH 6) (va_Pc [.ref (q 0)] (fun U => va_P D vwCl (wC q cA Fc_unkept Fc_tablesRead Pg_letters Pg_size Pg_fault Pg_rows Pg_inRow Pg_width Fl_entries Fl_states Fl_columns Fl_moves Fl_stables Fl_amiss Fl_normal Pt_lessers Pt_greaters Pt_size Lc_signals Lc_kept Lc_keptFrom Lc_candidates Lc_size Sc_signals Sc_codes Sc_size Ai_codes Ai_bits Cu_seen Cu_inThrees Cu_all Lo_asked Lo_ones Lo_sum Lo_wideSize Lo_sumSize Lo_flickers Lo_ready Wa_at Wa_turns Wa_changes) U.heap ∧ va_K D vwCl (tyC cA) U ∧ nwC U ∧ va_D A (wC q cA Fc_unkept Fc_tablesRead Pg_letters Pg_size Pg_fault Pg_rows Pg_inRow Pg_width Fl_entries Fl_states Fl_columns Fl_moves Fl_stables Fl_amiss Fl_normal Pt_lessers Pt_greaters Pt_size Lc_signals Lc_kept Lc_keptFrom Lc_candidates Lc_size Sc_signals Sc_codes Sc_size Ai_codes Ai_bits Cu_seen Cu_inThrees Cu_all Lo_asked Lo_ones Lo_sum Lo_wideSize Lo_sumSize Lo_flickers Lo_ready Wa_at Wa_turns Wa_changes))) (qWl (Z_X9_digest D q cA Fc_unkept Fc_tablesRead Pg_letters Pg_size Pg_fault Pg_rows Pg_inRow Pg_width Fl_entries Fl_states Fl_columns Fl_moves Fl_stables Fl_amiss Fl_normal Pt_lessers Pt_greaters Pt_size Lc_signals Lc_kept Lc_keptFrom Lc_candidates Lc_size Sc_signals Sc_codes Sc_size Ai_codes Ai_bits Cu_inThrees Wa_at Wa_turns Wa_changes post) A) 0 0 A := by
  refine Met.ofW (cc := cX9_digest) (maxL := 5) (ret := (some .long)) (by decide) rfl ?_
  intro p e s m args below meth c s₁ B hml hv
  obtain ⟨rfl, hP, hK, hN, hD⟩ := hv
  have X : kC p (headSpec (Cond.code yX9_digest cX9_digest 5 (some .long) :: wsL_law) (rmH 6)).room s m _ meth c cX9_digest RX9 5 (some .long) 6 := ⟨B.exec, B.bytes, hml, findClass_of_methodNamed B.named, fun w h => atoms_spec (ws := Cond.code yX9_digest cX9_digest 5 (some .long) :: wsL_law) B.pre w (List.mem_cons_of_mem _ h), B.returns, B.notSynchronized, Nat.le_refl _, Nat.le_refl _⟩
  obtain ⟨hx, hb, hml, hown, hts, hr, hlocks, hRf, hRl⟩ := id X
  have hS : va_S A s.heap s.heap [] := va_S.rf
  have hl := lv_entry ([.ref (q 0)]) (n := 5) (Nat.le_of_ble_eq_true rfl)
  rw [lg_entry_eq]
  generalize (lg_sl ([.ref (q 0)]) ++ List.replicate (5 - (lg_sl ([.ref (q 0)])).length) Slot.unset).toArray = ls at hl ⊢
  have hl : lv_has ls 5 [(0, .ref (q 0))] := hl
  refine lv_ldc2 (v := (1667 : Int64)) hx hb hown (hts _ (inr34 _ (List.mem_of_getElem? (i := 10) rfl))) dX9_digest_0 ?_
  refine lv_lstore_n (lv' := [(1, .long (1667 : Int64)), (0, .ref (q 0))]) hx hb dX9_digest_3 rfl hl (by decide) rfl (fun ls hl => ?_)
  refine lv_iconst (v := (0 : Int32)) hx hb dX9_digest_4 (by decide) ?_
  refine lv_istore_n (lv' := [(3, .int (0 : Int32)), (1, .long (1667 : Int64)), (0, .ref (q 0))]) hx hb dX9_digest_5 rfl hl (by decide) rfl (fun ls hl => ?_)
  obtain ⟨n_8, hw⟩ := hw
  refine t_X9_digest_6 X hK hN (fun x1_8 hw ls H locs hl hP hD hS => ?_) n_8 _ _ hw ls _ _ (lv_sub hl [2, 1, 0] rfl) hP hD hS
  refine lv_aload_n hx hb dX9_digest_56 rfl (lv_at hl 0 rfl) ?_
  refine gRX9_19 hx hb hown hts hK hP dX9_digest_57 ?_
  refine gRX9_118 hx hb hown hts hK hN hP dX9_digest_60 ?_
  refine lv_if_le (tgt := 89) hx hb dX9_digest_63 (by decide) (fun c_9 => ?_) (fun c_9 => ?_)
  · have hw := hw.1 c_9
    refine lv_aload_n hx hb dX9_digest_89 rfl (lv_at hl 0 rfl) ?_
    refine gRX9_19 hx hb hown hts hK hP dX9_digest_90 ?_
    refine gRX9_110 hx hb hown hts hK hN hP dX9_digest_93 ?_
    refine lv_if_eq (tgt := 105) hx hb dX9_digest_96 (by decide) (fun c_10 => ?_) (fun c_10 => ?_)
    · have hw := hw.1 c_10
      refine lv_iconst (v := (0 : Int32)) hx hb dX9_digest_105 (by decide) ?_
      refine lv_istore_n (lv' := [(3, .int (0 : Int32)), (0, .ref (q 0)), (1, .long x1_8)]) hx hb dX9_digest_106 rfl hl (by decide) rfl (fun ls hl => ?_)
      obtain ⟨n_15, hw⟩ := hw
      refine t_X9_digest_107 X hK hN (fun x1_15 hw ls H locs hl hP hD hS => ?_) n_15 _ _ hw ls _ _ (lv_sub hl [1, 2, 0] rfl) hP hD hS
      refine lv_aload_n hx hb dX9_digest_128 rfl (lv_at hl 0 rfl) ?_
      refine ro_i (va_runV (As := []) (rest := []) ⟨hx, hb, hml, hown, hts⟩ (c_X9_isGood l hw) (kRX9_261 (h := 0) hts (Nat.le_trans (Nat.le_of_ble_eq_true rfl) hRf) (Nat.le_trans (Nat.le_of_ble_eq_true rfl) hRl)) (preX9 hK hN hP) rfl rfl hl.1 rfl (lv_room (Nat.le_of_ble_eq_true rfl)) dX9_digest_129 ⟨Nat.zero_le _, Nat.zero_le _⟩) (fun r_16 hw => ?_)
      refine lv_if_eq (tgt := 161) hx hb dX9_digest_132 (by decide) (fun c_17 => ?_) (fun c_17 => ?_)
      · have hw := hw.1 c_17
        refine lv_iconst (v := (0 : Int32)) hx hb dX9_digest_161 (by decide) ?_
        refine lv_istore_n (lv' := [(3, .int (0 : Int32)), (0, .ref (q 0)), (1, .long x1_15)]) hx hb dX9_digest_162 rfl hl (by decide) rfl (fun ls hl => ?_)
        obtain ⟨n_22, hw⟩ := hw
        refine t_X9_digest_163 X hK hN (fun x1_22 hw ls H locs hl hP hD hS => ?_) n_22 _ _ hw ls _ _ (lv_sub hl [1, 2, 0] rfl) hP hD hS
        refine lv_iconst (v := (0 : Int32)) hx hb dX9_digest_193 (by decide) ?_
        refine lv_istore_n (lv' := [(3, .int (0 : Int32)), (0, .ref (q 0)), (1, .long x1_22)]) hx hb dX9_digest_194 rfl hl (by decide) rfl (fun ls hl => ?_)
        obtain ⟨n_27, hw⟩ := hw
        refine t_X9_digest_195 X hK hN (fun x1_27 hw ls H locs hl hP hD hS => ?_) n_27 _ _ hw ls _ _ (lv_sub hl [1, 2, 0] rfl) hP hD hS
        refine lv_lload_n hx hb dX9_digest_217 rfl (lv_at hl 0 rfl) ?_
        exact rw_l hx hb hr hlocks (fun t ht => ⟨Cu_seen, Cu_all, Lo_asked, Lo_ones, Lo_sum, Lo_wideSize, Lo_sumSize, Lo_flickers, Lo_ready, hw, by rw [ht]; exact hP⟩) hS dX9_digest_218
      · have hw := hw.2 c_17
        refine lv_iconst (v := (0 : Int32)) hx hb dX9_digest_135 (by decide) ?_
        refine lv_istore_n (lv' := [(3, .int (0 : Int32)), (0, .ref (q 0)), (1, .long x1_15)]) hx hb dX9_digest_136 rfl hl (by decide) rfl (fun ls hl => ?_)
        obtain ⟨n_31, hw⟩ := hw
        refine t_X9_digest_137 X hK hN (fun x1_31 yseen_31 yall_31 yasked_31 yones_31 ysum_31 ywideSize_31 ysumSize_31 yflickers_31 yready_31 hw ls H locs hl hP hD hS => ?_) n_31 _ _ _ _ _ _ _ _ _ _ _ hw ls _ _ (lv_sub hl [1, 2, 0] rfl) hP hD hS
        refine lv_iconst (v := (0 : Int32)) hx hb dX9_digest_161 (by decide) ?_
        refine lv_istore_n (lv' := [(3, .int (0 : Int32)), (0, .ref (q 0)), (1, .long x1_31)]) hx hb dX9_digest_162 rfl hl (by decide) rfl (fun ls hl => ?_)
        obtain ⟨n_32, hw⟩ := hw
        refine t_X9_digest_163 X hK hN (fun x1_32 hw ls H locs hl hP hD hS => ?_) n_32 _ _ hw ls _ _ (lv_sub hl [1, 2, 0] rfl) hP hD hS
        refine lv_iconst (v := (0 : Int32)) hx hb dX9_digest_193 (by decide) ?_
        refine lv_istore_n (lv' := [(3, .int (0 : Int32)), (0, .ref (q 0)), (1, .long x1_32)]) hx hb dX9_digest_194 rfl hl (by decide) rfl (fun ls hl => ?_)
        obtain ⟨n_33, hw⟩ := hw
        refine t_X9_digest_195 X hK hN (fun x1_33 hw ls H locs hl hP hD hS => ?_) n_33 _ _ hw ls _ _ (lv_sub hl [1, 2, 0] rfl) hP hD hS
        refine lv_lload_n hx hb dX9_digest_217 rfl (lv_at hl 0 rfl) ?_
        exact rw_l hx hb hr hlocks (fun t ht => ⟨yseen_31, yall_31, yasked_31, yones_31, ysum_31, ywideSize_31, ysumSize_31, yflickers_31, yready_31, hw, by rw [ht]; exact hP⟩) hS dX9_digest_218
    · have hw := hw.2 c_10
      refine lv_aload_n hx hb dX9_digest_99 rfl (lv_at hl 0 rfl) ?_
      refine lv_lload_n hx hb dX9_digest_100 rfl (lv_at hl 1 rfl) ?_
      refine ro_l (va_runV (As := [.long x1_8]) (rest := []) ⟨hx, hb, hml, hown, hts⟩ (c_X9_mixedCode l hw) (kRX9_254 (h := 4) hts (Nat.le_trans (Nat.le_of_ble_eq_true rfl) hRf) (Nat.le_trans (Nat.le_of_ble_eq_true rfl) hRl)) (preX9 hK hN hP) rfl rfl hl.1 rfl (lv_room (Nat.le_of_ble_eq_true rfl)) dX9_digest_101 ⟨Nat.zero_le _, Nat.zero_le _⟩) (fun r_34 hw => ?_)
      refine lv_lstore_n (lv' := [(1, .long r_34), (0, .ref (q 0))]) hx hb dX9_digest_104 rfl hl (by decide) rfl (fun ls hl => ?_)
      refine lv_iconst (v := (0 : Int32)) hx hb dX9_digest_105 (by decide) ?_
      refine lv_istore_n (lv' := [(3, .int (0 : Int32)), (1, .long r_34), (0, .ref (q 0))]) hx hb dX9_digest_106 rfl hl (by decide) rfl (fun ls hl => ?_)
      obtain ⟨n_35, hw⟩ := hw
      refine t_X9_digest_107 X hK hN (fun x1_35 hw ls H locs hl hP hD hS => ?_) n_35 _ _ hw ls _ _ (lv_sub hl [2, 1, 0] rfl) hP hD hS
      refine lv_aload_n hx hb dX9_digest_128 rfl (lv_at hl 0 rfl) ?_
      refine ro_i (va_runV (As := []) (rest := []) ⟨hx, hb, hml, hown, hts⟩ (c_X9_isGood l hw) (kRX9_261 (h := 0) hts (Nat.le_trans (Nat.le_of_ble_eq_true rfl) hRf) (Nat.le_trans (Nat.le_of_ble_eq_true rfl) hRl)) (preX9 hK hN hP) rfl rfl hl.1 rfl (lv_room (Nat.le_of_ble_eq_true rfl)) dX9_digest_129 ⟨Nat.zero_le _, Nat.zero_le _⟩) (fun r_36 hw => ?_)
      refine lv_if_eq (tgt := 161) hx hb dX9_digest_132 (by decide) (fun c_37 => ?_) (fun c_37 => ?_)
      · have hw := hw.1 c_37
        refine lv_iconst (v := (0 : Int32)) hx hb dX9_digest_161 (by decide) ?_
        refine lv_istore_n (lv' := [(3, .int (0 : Int32)), (0, .ref (q 0)), (1, .long x1_35)]) hx hb dX9_digest_162 rfl hl (by decide) rfl (fun ls hl => ?_)
        obtain ⟨n_38, hw⟩ := hw
        refine t_X9_digest_163 X hK hN (fun x1_38 hw ls H locs hl hP hD hS => ?_) n_38 _ _ hw ls _ _ (lv_sub hl [1, 2, 0] rfl) hP hD hS
        refine lv_iconst (v := (0 : Int32)) hx hb dX9_digest_193 (by decide) ?_
        refine lv_istore_n (lv' := [(3, .int (0 : Int32)), (0, .ref (q 0)), (1, .long x1_38)]) hx hb dX9_digest_194 rfl hl (by decide) rfl (fun ls hl => ?_)
        obtain ⟨n_39, hw⟩ := hw
        refine t_X9_digest_195 X hK hN (fun x1_39 hw ls H locs hl hP hD hS => ?_) n_39 _ _ hw ls _ _ (lv_sub hl [1, 2, 0] rfl) hP hD hS
        refine lv_lload_n hx hb dX9_digest_217 rfl (lv_at hl 0 rfl) ?_
        exact rw_l hx hb hr hlocks (fun t ht => ⟨Cu_seen, Cu_all, Lo_asked, Lo_ones, Lo_sum, Lo_wideSize, Lo_sumSize, Lo_flickers, Lo_ready, hw, by rw [ht]; exact hP⟩) hS dX9_digest_218
      · have hw := hw.2 c_37
        refine lv_iconst (v := (0 : Int32)) hx hb dX9_digest_135 (by decide) ?_
        refine lv_istore_n (lv' := [(3, .int (0 : Int32)), (0, .ref (q 0)), (1, .long x1_35)]) hx hb dX9_digest_136 rfl hl (by decide) rfl (fun ls hl => ?_)
        obtain ⟨n_40, hw⟩ := hw
        refine t_X9_digest_137 X hK hN (fun x1_40 yseen_40 yall_40 yasked_40 yones_40 ysum_40 ywideSize_40 ysumSize_40 yflickers_40 yready_40 hw ls H locs hl hP hD hS => ?_) n_40 _ _ _ _ _ _ _ _ _ _ _ hw ls _ _ (lv_sub hl [1, 2, 0] rfl) hP hD hS
        refine lv_iconst (v := (0 : Int32)) hx hb dX9_digest_161 (by decide) ?_
        refine lv_istore_n (lv' := [(3, .int (0 : Int32)), (0, .ref (q 0)), (1, .long x1_40)]) hx hb dX9_digest_162 rfl hl (by decide) rfl (fun ls hl => ?_)
        obtain ⟨n_41, hw⟩ := hw
        refine t_X9_digest_163 X hK hN (fun x1_41 hw ls H locs hl hP hD hS => ?_) n_41 _ _ hw ls _ _ (lv_sub hl [1, 2, 0] rfl) hP hD hS
        refine lv_iconst (v := (0 : Int32)) hx hb dX9_digest_193 (by decide) ?_
        refine lv_istore_n (lv' := [(3, .int (0 : Int32)), (0, .ref (q 0)), (1, .long x1_41)]) hx hb dX9_digest_194 rfl hl (by decide) rfl (fun ls hl => ?_)
        obtain ⟨n_42, hw⟩ := hw
        refine t_X9_digest_195 X hK hN (fun x1_42 hw ls H locs hl hP hD hS => ?_) n_42 _ _ hw ls _ _ (lv_sub hl [1, 2, 0] rfl) hP hD hS
        refine lv_lload_n hx hb dX9_digest_217 rfl (lv_at hl 0 rfl) ?_
        exact rw_l hx hb hr hlocks (fun t ht => ⟨yseen_40, yall_40, yasked_40, yones_40, ysum_40, ywideSize_40, ysumSize_40, yflickers_40, yready_40, hw, by rw [ht]; exact hP⟩) hS dX9_digest_218
  · have hw := hw.2 c_9
    refine lv_iconst (v := (0 : Int32)) hx hb dX9_digest_66 (by decide) ?_
    refine lv_istore_n (lv' := [(3, .int (0 : Int32)), (0, .ref (q 0)), (1, .long x1_8)]) hx hb dX9_digest_67 rfl hl (by decide) rfl (fun ls hl => ?_)
    obtain ⟨n_47, hw⟩ := hw
    refine t_X9_digest_68 X hK hN (fun x1_47 hw ls H locs hl hP hD hS => ?_) n_47 _ _ hw ls _ _ (lv_sub hl [1, 2, 0] rfl) hP hD hS
    refine lv_aload_n hx hb dX9_digest_89 rfl (lv_at hl 0 rfl) ?_
    refine gRX9_19 hx hb hown hts hK hP dX9_digest_90 ?_
    refine gRX9_110 hx hb hown hts hK hN hP dX9_digest_93 ?_
    refine lv_if_eq (tgt := 105) hx hb dX9_digest_96 (by decide) (fun c_48 => ?_) (fun c_48 => ?_)
    · have hw := hw.1 c_48
      refine lv_iconst (v := (0 : Int32)) hx hb dX9_digest_105 (by decide) ?_
      refine lv_istore_n (lv' := [(3, .int (0 : Int32)), (0, .ref (q 0)), (1, .long x1_47)]) hx hb dX9_digest_106 rfl hl (by decide) rfl (fun ls hl => ?_)
      obtain ⟨n_49, hw⟩ := hw
      refine t_X9_digest_107 X hK hN (fun x1_49 hw ls H locs hl hP hD hS => ?_) n_49 _ _ hw ls _ _ (lv_sub hl [1, 2, 0] rfl) hP hD hS
      refine lv_aload_n hx hb dX9_digest_128 rfl (lv_at hl 0 rfl) ?_
      refine ro_i (va_runV (As := []) (rest := []) ⟨hx, hb, hml, hown, hts⟩ (c_X9_isGood l hw) (kRX9_261 (h := 0) hts (Nat.le_trans (Nat.le_of_ble_eq_true rfl) hRf) (Nat.le_trans (Nat.le_of_ble_eq_true rfl) hRl)) (preX9 hK hN hP) rfl rfl hl.1 rfl (lv_room (Nat.le_of_ble_eq_true rfl)) dX9_digest_129 ⟨Nat.zero_le _, Nat.zero_le _⟩) (fun r_50 hw => ?_)
      refine lv_if_eq (tgt := 161) hx hb dX9_digest_132 (by decide) (fun c_51 => ?_) (fun c_51 => ?_)
      · have hw := hw.1 c_51
        refine lv_iconst (v := (0 : Int32)) hx hb dX9_digest_161 (by decide) ?_
        refine lv_istore_n (lv' := [(3, .int (0 : Int32)), (0, .ref (q 0)), (1, .long x1_49)]) hx hb dX9_digest_162 rfl hl (by decide) rfl (fun ls hl => ?_)
        obtain ⟨n_52, hw⟩ := hw
        refine t_X9_digest_163 X hK hN (fun x1_52 hw ls H locs hl hP hD hS => ?_) n_52 _ _ hw ls _ _ (lv_sub hl [1, 2, 0] rfl) hP hD hS
        refine lv_iconst (v := (0 : Int32)) hx hb dX9_digest_193 (by decide) ?_
        refine lv_istore_n (lv' := [(3, .int (0 : Int32)), (0, .ref (q 0)), (1, .long x1_52)]) hx hb dX9_digest_194 rfl hl (by decide) rfl (fun ls hl => ?_)
        obtain ⟨n_53, hw⟩ := hw
        refine t_X9_digest_195 X hK hN (fun x1_53 hw ls H locs hl hP hD hS => ?_) n_53 _ _ hw ls _ _ (lv_sub hl [1, 2, 0] rfl) hP hD hS
        refine lv_lload_n hx hb dX9_digest_217 rfl (lv_at hl 0 rfl) ?_
        exact rw_l hx hb hr hlocks (fun t ht => ⟨Cu_seen, Cu_all, Lo_asked, Lo_ones, Lo_sum, Lo_wideSize, Lo_sumSize, Lo_flickers, Lo_ready, hw, by rw [ht]; exact hP⟩) hS dX9_digest_218
      · have hw := hw.2 c_51
        refine lv_iconst (v := (0 : Int32)) hx hb dX9_digest_135 (by decide) ?_
        refine lv_istore_n (lv' := [(3, .int (0 : Int32)), (0, .ref (q 0)), (1, .long x1_49)]) hx hb dX9_digest_136 rfl hl (by decide) rfl (fun ls hl => ?_)
        obtain ⟨n_54, hw⟩ := hw
        refine t_X9_digest_137 X hK hN (fun x1_54 yseen_54 yall_54 yasked_54 yones_54 ysum_54 ywideSize_54 ysumSize_54 yflickers_54 yready_54 hw ls H locs hl hP hD hS => ?_) n_54 _ _ _ _ _ _ _ _ _ _ _ hw ls _ _ (lv_sub hl [1, 2, 0] rfl) hP hD hS
        refine lv_iconst (v := (0 : Int32)) hx hb dX9_digest_161 (by decide) ?_
        refine lv_istore_n (lv' := [(3, .int (0 : Int32)), (0, .ref (q 0)), (1, .long x1_54)]) hx hb dX9_digest_162 rfl hl (by decide) rfl (fun ls hl => ?_)
        obtain ⟨n_55, hw⟩ := hw
        refine t_X9_digest_163 X hK hN (fun x1_55 hw ls H locs hl hP hD hS => ?_) n_55 _ _ hw ls _ _ (lv_sub hl [1, 2, 0] rfl) hP hD hS
        refine lv_iconst (v := (0 : Int32)) hx hb dX9_digest_193 (by decide) ?_
        refine lv_istore_n (lv' := [(3, .int (0 : Int32)), (0, .ref (q 0)), (1, .long x1_55)]) hx hb dX9_digest_194 rfl hl (by decide) rfl (fun ls hl => ?_)
        obtain ⟨n_56, hw⟩ := hw
        refine t_X9_digest_195 X hK hN (fun x1_56 hw ls H locs hl hP hD hS => ?_) n_56 _ _ hw ls _ _ (lv_sub hl [1, 2, 0] rfl) hP hD hS
        refine lv_lload_n hx hb dX9_digest_217 rfl (lv_at hl 0 rfl) ?_
        exact rw_l hx hb hr hlocks (fun t ht => ⟨yseen_54, yall_54, yasked_54, yones_54, ysum_54, ywideSize_54, ysumSize_54, yflickers_54, yready_54, hw, by rw [ht]; exact hP⟩) hS dX9_digest_218
    · have hw := hw.2 c_48
      refine lv_aload_n hx hb dX9_digest_99 rfl (lv_at hl 0 rfl) ?_
      refine lv_lload_n hx hb dX9_digest_100 rfl (lv_at hl 1 rfl) ?_
      refine ro_l (va_runV (As := [.long x1_47]) (rest := []) ⟨hx, hb, hml, hown, hts⟩ (c_X9_mixedCode l hw) (kRX9_254 (h := 4) hts (Nat.le_trans (Nat.le_of_ble_eq_true rfl) hRf) (Nat.le_trans (Nat.le_of_ble_eq_true rfl) hRl)) (preX9 hK hN hP) rfl rfl hl.1 rfl (lv_room (Nat.le_of_ble_eq_true rfl)) dX9_digest_101 ⟨Nat.zero_le _, Nat.zero_le _⟩) (fun r_57 hw => ?_)
      refine lv_lstore_n (lv' := [(1, .long r_57), (0, .ref (q 0))]) hx hb dX9_digest_104 rfl hl (by decide) rfl (fun ls hl => ?_)
      refine lv_iconst (v := (0 : Int32)) hx hb dX9_digest_105 (by decide) ?_
      refine lv_istore_n (lv' := [(3, .int (0 : Int32)), (1, .long r_57), (0, .ref (q 0))]) hx hb dX9_digest_106 rfl hl (by decide) rfl (fun ls hl => ?_)
      obtain ⟨n_58, hw⟩ := hw
      refine t_X9_digest_107 X hK hN (fun x1_58 hw ls H locs hl hP hD hS => ?_) n_58 _ _ hw ls _ _ (lv_sub hl [2, 1, 0] rfl) hP hD hS
      refine lv_aload_n hx hb dX9_digest_128 rfl (lv_at hl 0 rfl) ?_
      refine ro_i (va_runV (As := []) (rest := []) ⟨hx, hb, hml, hown, hts⟩ (c_X9_isGood l hw) (kRX9_261 (h := 0) hts (Nat.le_trans (Nat.le_of_ble_eq_true rfl) hRf) (Nat.le_trans (Nat.le_of_ble_eq_true rfl) hRl)) (preX9 hK hN hP) rfl rfl hl.1 rfl (lv_room (Nat.le_of_ble_eq_true rfl)) dX9_digest_129 ⟨Nat.zero_le _, Nat.zero_le _⟩) (fun r_59 hw => ?_)
      refine lv_if_eq (tgt := 161) hx hb dX9_digest_132 (by decide) (fun c_60 => ?_) (fun c_60 => ?_)
      · have hw := hw.1 c_60
        refine lv_iconst (v := (0 : Int32)) hx hb dX9_digest_161 (by decide) ?_
        refine lv_istore_n (lv' := [(3, .int (0 : Int32)), (0, .ref (q 0)), (1, .long x1_58)]) hx hb dX9_digest_162 rfl hl (by decide) rfl (fun ls hl => ?_)
        obtain ⟨n_61, hw⟩ := hw
        refine t_X9_digest_163 X hK hN (fun x1_61 hw ls H locs hl hP hD hS => ?_) n_61 _ _ hw ls _ _ (lv_sub hl [1, 2, 0] rfl) hP hD hS
        refine lv_iconst (v := (0 : Int32)) hx hb dX9_digest_193 (by decide) ?_
        refine lv_istore_n (lv' := [(3, .int (0 : Int32)), (0, .ref (q 0)), (1, .long x1_61)]) hx hb dX9_digest_194 rfl hl (by decide) rfl (fun ls hl => ?_)
        obtain ⟨n_62, hw⟩ := hw
        refine t_X9_digest_195 X hK hN (fun x1_62 hw ls H locs hl hP hD hS => ?_) n_62 _ _ hw ls _ _ (lv_sub hl [1, 2, 0] rfl) hP hD hS
        refine lv_lload_n hx hb dX9_digest_217 rfl (lv_at hl 0 rfl) ?_
        exact rw_l hx hb hr hlocks (fun t ht => ⟨Cu_seen, Cu_all, Lo_asked, Lo_ones, Lo_sum, Lo_wideSize, Lo_sumSize, Lo_flickers, Lo_ready, hw, by rw [ht]; exact hP⟩) hS dX9_digest_218
      · have hw := hw.2 c_60
        refine lv_iconst (v := (0 : Int32)) hx hb dX9_digest_135 (by decide) ?_
        refine lv_istore_n (lv' := [(3, .int (0 : Int32)), (0, .ref (q 0)), (1, .long x1_58)]) hx hb dX9_digest_136 rfl hl (by decide) rfl (fun ls hl => ?_)
        obtain ⟨n_63, hw⟩ := hw
        refine t_X9_digest_137 X hK hN (fun x1_63 yseen_63 yall_63 yasked_63 yones_63 ysum_63 ywideSize_63 ysumSize_63 yflickers_63 yready_63 hw ls H locs hl hP hD hS => ?_) n_63 _ _ _ _ _ _ _ _ _ _ _ hw ls _ _ (lv_sub hl [1, 2, 0] rfl) hP hD hS
        refine lv_iconst (v := (0 : Int32)) hx hb dX9_digest_161 (by decide) ?_
        refine lv_istore_n (lv' := [(3, .int (0 : Int32)), (0, .ref (q 0)), (1, .long x1_63)]) hx hb dX9_digest_162 rfl hl (by decide) rfl (fun ls hl => ?_)
        obtain ⟨n_64, hw⟩ := hw
        refine t_X9_digest_163 X hK hN (fun x1_64 hw ls H locs hl hP hD hS => ?_) n_64 _ _ hw ls _ _ (lv_sub hl [1, 2, 0] rfl) hP hD hS
        refine lv_iconst (v := (0 : Int32)) hx hb dX9_digest_193 (by decide) ?_
        refine lv_istore_n (lv' := [(3, .int (0 : Int32)), (0, .ref (q 0)), (1, .long x1_64)]) hx hb dX9_digest_194 rfl hl (by decide) rfl (fun ls hl => ?_)
        obtain ⟨n_65, hw⟩ := hw
        refine t_X9_digest_195 X hK hN (fun x1_65 hw ls H locs hl hP hD hS => ?_) n_65 _ _ hw ls _ _ (lv_sub hl [1, 2, 0] rfl) hP hD hS
        refine lv_lload_n hx hb dX9_digest_217 rfl (lv_at hl 0 rfl) ?_
        exact rw_l hx hb hr hlocks (fun t ht => ⟨yseen_63, yall_63, yasked_63, yones_63, ysum_63, ywideSize_63, ysumSize_63, yflickers_63, yready_63, hw, by rw [ht]; exact hP⟩) hS dX9_digest_218
