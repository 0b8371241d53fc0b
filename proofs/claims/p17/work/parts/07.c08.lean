abbrev Z_X9_clear (D : va_G) (q : Nat → Nat) (cA : Nat → ClassId) (Fc_tablesRead : Int32) (Pg_letters : Nat → Int32) (Pg_size : Int32) (Pg_fault : Int32) (Pg_rows : Int32) (Pg_inRow : Int32) (Pg_width : Int32) (Fl_entries : Nat → Int32) (Fl_states : Int32) (Fl_columns : Int32) (Fl_moves : Int32) (Fl_stables : Int32) (Fl_amiss : Int32) (Fl_normal : Int32) (Pt_lessers : Nat → Int32) (Pt_greaters : Nat → Int32) (Pt_size : Int32) (Lc_signals : Nat → Int32) (Lc_kept : Nat → Int64) (Lc_keptFrom : Nat → Int64) (Lc_candidates : Int32) (Lc_size : Int32) (Sc_signals : Nat → Int32) (Cu_seen : Nat → Int32) (Cu_inThrees : Nat → Int32) (Cu_all : Int32) (Lo_asked : Nat → Nat → Int32) (Lo_ones : Nat → Nat → Int32) (Lo_sum : Nat → Nat → Int32) (Lo_wideSize : Nat → Int32) (Lo_sumSize : Nat → Int32) (Lo_flickers : Nat → Int32) (Wa_at : Int32) (Wa_turns : Int32) (Wa_changes : Int32) (post : Int32 → Int32 → (Nat → Int32) → Int32 → (Nat → Int32) → Int32 → (Nat → Int32) → Prop) : Int32 → State → Prop := fun r t => ∃ (y_Fc_unkept : Int32) (y_Sc_codes : Nat → Int32) (y_Sc_size : Int32) (y_Ai_codes : Nat → Int32) (y_Ai_bits : Int32) (y_Lo_ready : Nat → Int32), post r y_Fc_unkept y_Sc_codes y_Sc_size y_Ai_codes y_Ai_bits y_Lo_ready ∧ va_P D vwCl (wC q cA y_Fc_unkept Fc_tablesRead Pg_letters Pg_size Pg_fault Pg_rows Pg_inRow Pg_width Fl_entries Fl_states Fl_columns Fl_moves Fl_stables Fl_amiss Fl_normal Pt_lessers Pt_greaters Pt_size Lc_signals Lc_kept Lc_keptFrom Lc_candidates Lc_size Sc_signals y_Sc_codes y_Sc_size y_Ai_codes y_Ai_bits Cu_seen Cu_inThrees Cu_all Lo_asked Lo_ones Lo_sum Lo_wideSize Lo_sumSize Lo_flickers y_Lo_ready Wa_at Wa_turns Wa_changes) t.heap
set_option maxHeartbeats 4000000 in
set_option maxRecDepth 100000 in
theorem c_X9_clear (l : Launch) {D : va_G} {q : Nat → Nat} {cA : Nat → ClassId} {Fc_unkept : Int32} {Fc_tablesRead : Int32} {Pg_letters : Nat → Int32} {Pg_size : Int32} {Pg_fault : Int32} {Pg_rows : Int32} {Pg_inRow : Int32} {Pg_width : Int32} {Fl_entries : Nat → Int32} {Fl_states : Int32} {Fl_columns : Int32} {Fl_moves : Int32} {Fl_stables : Int32} {Fl_amiss : Int32} {Fl_normal : Int32} {Pt_lessers : Nat → Int32} {Pt_greaters : Nat → Int32} {Pt_size : Int32} {Lc_signals : Nat → Int32} {Lc_kept : Nat → Int64} {Lc_keptFrom : Nat → Int64} {Lc_candidates : Int32} {Lc_size : Int32} {Sc_signals : Nat → Int32} {Sc_codes : Nat → Int32} {Sc_size : Int32} {Ai_codes : Nat → Int32} {Ai_bits : Int32} {Cu_seen : Nat → Int32} {Cu_inThrees : Nat → Int32} {Cu_all : Int32} {Lo_asked : Nat → Nat → Int32} {Lo_ones : Nat → Nat → Int32} {Lo_sum : Nat → Nat → Int32} {Lo_wideSize : Nat → Int32} {Lo_sumSize : Nat → Int32} {Lo_flickers : Nat → Int32} {Lo_ready : Nat → Int32} {Wa_at : Int32} {Wa_turns : Int32} {Wa_changes : Int32} {A : Nat → Prop} {post : Int32 → Int32 → (Nat → Int32) → Int32 → (Nat → Int32) → Int32 → (Nat → Int32) → Prop}  (hw : wp_X9_clear post Fc_unkept Fl_entries Fl_states Fl_columns Fl_normal Pt_lessers Pt_greaters Pt_size Sc_signals Sc_codes Sc_size Ai_codes Ai_bits Lo_ready ) : Met l yX9_clear (Cond.code yX9_clear cX9_clear 2 (some .int) :: wsL_law) (rmH 5) (va_Pc [.ref (q 0)] (fun U => va_P D vwCl (wC q cA Fc_unkept Fc_tablesRead Pg_letters Pg_size Pg_fault Pg_rows Pg_inRow Pg_width Fl_entries Fl_states Fl_columns Fl_moves Fl_stables Fl_amiss Fl_normal Pt_lessers Pt_greaters Pt_size Lc_signals Lc_kept Lc_keptFrom Lc_candidates Lc_size Sc_signals Sc_codes Sc_size Ai_codes Ai_bits Cu_seen Cu_inThrees Cu_all Lo_asked Lo_ones Lo_sum Lo_wideSize Lo_sumSize Lo_flickers Lo_ready Wa_at Wa_turns Wa_changes) U.heap ∧ va_K D vwCl (tyC cA) U ∧ nwC U ∧ va_D A (wC q cA Fc_unkept Fc_tablesRead Pg_letters Pg_size Pg_fault Pg_rows Pg_inRow Pg_width Fl_entries Fl_states Fl_columns Fl_moves Fl_stables Fl_amiss Fl_normal Pt_lessers Pt_greaters Pt_size Lc_signals Lc_kept Lc_keptFrom Lc_candidates Lc_size Sc_signals Sc_codes Sc_size Ai_codes Ai_bits Cu_seen Cu_inThrees Cu_all Lo_asked Lo_ones Lo_sum Lo_wideSize Lo_sumSize Lo_flickers Lo_ready Wa_at Wa_turns Wa_changes))) (qWi (Z_X9_clear D q cA Fc_tablesRead Pg_letters Pg_size Pg_fault Pg_rows Pg_inRow Pg_width Fl_entries Fl_states Fl_columns Fl_moves Fl_stables Fl_amiss Fl_normal Pt_lessers Pt_greaters Pt_size Lc_signals Lc_kept Lc_keptFrom Lc_candidates Lc_size Sc_signals Cu_seen Cu_inThrees Cu_all Lo_asked Lo_ones Lo_sum Lo_wideSize Lo_sumSize Lo_flickers Wa_at Wa_turns Wa_changes post) A) 0 0 A := by
  refine Met.ofW (cc := cX9_clear) (maxL := 2) (ret := (some .int)) (by decide) rfl ?_
  intro p e s m args below meth c s₁ B hml hv
  obtain ⟨rfl, hP, hK, hN, hD⟩ := hv
  have X : kC p (headSpec (Cond.code yX9_clear cX9_clear 2 (some .int) :: wsL_law) (rmH 5)).room s m _ meth c cX9_clear RX9 2 (some .int) 5 := ⟨B.exec, B.bytes, hml, findClass_of_methodNamed B.named, fun w h => atoms_spec (ws := Cond.code yX9_clear cX9_clear 2 (some .int) :: wsL_law) B.pre w (List.mem_cons_of_mem _ h), B.returns, B.notSynchronized, Nat.le_refl _, Nat.le_refl _⟩
  obtain ⟨hx, hb, hml, hown, hts, hr, hlocks, hRf, hRl⟩ := id X
  have hS : va_S A s.heap s.heap [] := va_S.rf
  have hl := lv_entry ([.ref (q 0)]) (n := 2) (Nat.le_of_ble_eq_true rfl)
  rw [lg_entry_eq]
  generalize (lg_sl ([.ref (q 0)]) ++ List.replicate (2 - (lg_sl ([.ref (q 0)])).length) Slot.unset).toArray = ls at hl ⊢
  have hl : lv_has ls 2 [(0, .ref (q 0))] := hl
  refine lv_aload_n hx hb dX9_clear_0 rfl (lv_at hl 0 rfl) ?_
  refine gRX9_19 hx hb hown hts hK hP dX9_clear_1 ?_
  refine gRX9_110 hx hb hown hts hK hN hP dX9_clear_4 ?_
  refine lv_if_ne (tgt := 14) hx hb dX9_clear_7 (by decide) (fun c_1 => ?_) (fun c_1 => ?_)
  · have hw := hw.2 c_1
    refine lv_aload_n hx hb dX9_clear_14 rfl (lv_at hl 0 rfl) ?_
    refine gRX9_40 hx hb hown hts hK hP dX9_clear_15 ?_
    refine gRX9_175 hx hb hown hts hK hN hP dX9_clear_18 ?_
    refine lv_istore_n (lv' := [(1, .int Sc_size), (0, .ref (q 0))]) hx hb dX9_clear_21 rfl hl (by decide) rfl (fun ls hl => ?_)
    refine lv_aload_n hx hb dX9_clear_22 rfl (lv_at hl 1 rfl) ?_
    refine gRX9_40 hx hb hown hts hK hP dX9_clear_23 ?_
    refine wr_v (va_runV (As := []) (rest := []) ⟨hx, hb, hml, hown, hts⟩ (c_X7_empty l hw) (kRX9_176 (h := 0) hts (Nat.le_trans (Nat.le_of_ble_eq_true rfl) hRf) (Nat.le_trans (Nat.le_of_ble_eq_true rfl) hRl)) (preX7w hK hN hP hD) rfl rfl hl.1 rfl (lv_room (Nat.le_of_ble_eq_true rfl)) dX9_clear_26 ⟨Nat.zero_le _, Nat.zero_le _⟩) hS (fun t H locs ht hw hS => ?_)
    obtain ⟨ycodes_2, ysize_2, hw, hP⟩ := hw
    rw [ht] at hP
    have hP : va_P D vwCl (wC q cA Fc_unkept Fc_tablesRead Pg_letters Pg_size Pg_fault Pg_rows Pg_inRow Pg_width Fl_entries Fl_states Fl_columns Fl_moves Fl_stables Fl_amiss Fl_normal Pt_lessers Pt_greaters Pt_size Lc_signals Lc_kept Lc_keptFrom Lc_candidates Lc_size Sc_signals ycodes_2 ysize_2 Ai_codes Ai_bits Cu_seen Cu_inThrees Cu_all Lo_asked Lo_ones Lo_sum Lo_wideSize Lo_sumSize Lo_flickers Lo_ready Wa_at Wa_turns Wa_changes) H := hP
    have hD : va_D A (wC q cA Fc_unkept Fc_tablesRead Pg_letters Pg_size Pg_fault Pg_rows Pg_inRow Pg_width Fl_entries Fl_states Fl_columns Fl_moves Fl_stables Fl_amiss Fl_normal Pt_lessers Pt_greaters Pt_size Lc_signals Lc_kept Lc_keptFrom Lc_candidates Lc_size Sc_signals ycodes_2 ysize_2 Ai_codes Ai_bits Cu_seen Cu_inThrees Cu_all Lo_asked Lo_ones Lo_sum Lo_wideSize Lo_sumSize Lo_flickers Lo_ready Wa_at Wa_turns Wa_changes) := dC hD
    refine lv_aload_n hx hb dX9_clear_29 rfl (lv_at hl 1 rfl) ?_
    refine wr_v (va_runV (As := []) (rest := []) ⟨hx, hb, hml, hown, hts⟩ (c_X9_settle l hw) (kRX9_129 (h := 4) hts (Nat.le_trans (Nat.le_of_ble_eq_true rfl) hRf) (Nat.le_trans (Nat.le_of_ble_eq_true rfl) hRl)) (preX9w hK hN hP hD) rfl rfl hl.1 rfl (lv_room (Nat.le_of_ble_eq_true rfl)) dX9_clear_30 ⟨Nat.zero_le _, Nat.zero_le _⟩) hS (fun t H locs ht hw hS => ?_)
    obtain ⟨yunkept_3, ycodes_3, ybits_3, yready_3, hw, hP⟩ := hw
    rw [ht] at hP
    have hP : va_P D vwCl (wC q cA yunkept_3 Fc_tablesRead Pg_letters Pg_size Pg_fault Pg_rows Pg_inRow Pg_width Fl_entries Fl_states Fl_columns Fl_moves Fl_stables Fl_amiss Fl_normal Pt_lessers Pt_greaters Pt_size Lc_signals Lc_kept Lc_keptFrom Lc_candidates Lc_size Sc_signals ycodes_2 ysize_2 ycodes_3 ybits_3 Cu_seen Cu_inThrees Cu_all Lo_asked Lo_ones Lo_sum Lo_wideSize Lo_sumSize Lo_flickers yready_3 Wa_at Wa_turns Wa_changes) H := hP
    have hD : va_D A (wC q cA yunkept_3 Fc_tablesRead Pg_letters Pg_size Pg_fault Pg_rows Pg_inRow Pg_width Fl_entries Fl_states Fl_columns Fl_moves Fl_stables Fl_amiss Fl_normal Pt_lessers Pt_greaters Pt_size Lc_signals Lc_kept Lc_keptFrom Lc_candidates Lc_size Sc_signals ycodes_2 ysize_2 ycodes_3 ybits_3 Cu_seen Cu_inThrees Cu_all Lo_asked Lo_ones Lo_sum Lo_wideSize Lo_sumSize Lo_flickers yready_3 Wa_at Wa_turns Wa_changes) := dC hD
    refine lv_iload_n hx hb dX9_clear_33 rfl (lv_at hl 0 rfl) ?_
    exact rw_i hx hb hr hlocks (fun t ht => ⟨yunkept_3, ycodes_2, ysize_2, ycodes_3, ybits_3, yready_3, hw, by rw [ht]; exact hP⟩) hS dX9_clear_34
  · have hw := hw.1 c_1
    refine lv_sipush (v := ((-1003) : Int32)) hx hb dX9_clear_10 (by decide +kernel) ?_
    exact rw_i hx hb hr hlocks (fun t ht => ⟨Fc_unkept, Sc_codes, Sc_size, Ai_codes, Ai_bits, Lo_ready, hw, by rw [ht]; exact hP⟩) hS dX9_clear_13
abbrev Z_X10_clear (D : va_G) (q : Nat → Nat) (cA : Nat → ClassId) (i_pageLength : Int32) (a_page : Nat → Int32) (i_states : Int32) (i_columns : Int32) (a_entries : Nat → Int32) (a_signalAt : Nat → Int32) (i_walksAt : Int32) (i_turned : Int32) (i_changed : Int32) (i_read : Int32) (i_newRows : Int32) (i_newEntries : Int32) (i_newColumns : Int32) (i_greatest : Int32) (a_newAt : Nat → Int32) (i_partings : Int32) (a_lowSet : Nat → Int32) (a_highSet : Nat → Int32) (i_leastMany : Int32) (a_leastAt : Nat → Int32) (a_tried : Nat → Int32) (a_keptLow : Nat → Int64) (a_keptHigh : Nat → Int64) (a_wants : Nat → Int32) (i_wide : Int32) (a_wideAsked : Nat → Int32) (a_wideOnes : Nat → Int32) (i_sum : Int32) (i_flickers : Int32) (a_sumAt : Nat → Int32) (j_h : Int64) (post : Int32 → Int32 → Int32 → Prop) : Int32 → State → Prop := fun r t => ∃ (y_i_signals : Int32) (y_i_laid : Int32), post r y_i_signals y_i_laid ∧ va_P D vwCl (wM q cA i_pageLength a_page i_states i_columns a_entries y_i_signals a_signalAt i_walksAt i_turned i_changed i_read i_newRows i_newEntries i_newColumns i_greatest a_newAt i_partings a_lowSet a_highSet i_leastMany a_leastAt a_tried a_keptLow a_keptHigh y_i_laid a_wants i_wide a_wideAsked a_wideOnes i_sum i_flickers a_sumAt j_h) t.heap
set_option maxHeartbeats 4000000 in
set_option maxRecDepth 100000 in
theorem c_X10_clear (l : Launch) {D : va_G} {q : Nat → Nat} {cA : Nat → ClassId} {i_pageLength : Int32} {a_page : Nat → Int32} {i_states : Int32} {i_columns : Int32} {a_entries : Nat → Int32} {i_signals : Int32} {a_signalAt : Nat → Int32} {i_walksAt : Int32} {i_turned : Int32} {i_changed : Int32} {i_read : Int32} {i_newRows : Int32} {i_newEntries : Int32} {i_newColumns : Int32} {i_greatest : Int32} {a_newAt : Nat → Int32} {i_partings : Int32} {a_lowSet : Nat → Int32} {a_highSet : Nat → Int32} {i_leastMany : Int32} {a_leastAt : Nat → Int32} {a_tried : Nat → Int32} {a_keptLow : Nat → Int64} {a_keptHigh : Nat → Int64} {i_laid : Int32} {a_wants : Nat → Int32} {i_wide : Int32} {a_wideAsked : Nat → Int32} {a_wideOnes : Nat → Int32} {i_sum : Int32} {i_flickers : Int32} {a_sumAt : Nat → Int32} {j_h : Int64} {A : Nat → Prop} {post : Int32 → Int32 → Int32 → Prop}  (hw : wp_X10_clear post i_states i_columns a_entries i_signals i_laid ) : Met l yX10_clear (Cond.code yX10_clear cX10_clear 2 (some .int) :: wsL_law) (rmH 3) (va_Pc [.ref (q 0)] (fun U => va_P D vwCl (wM q cA i_pageLength a_page i_states i_columns a_entries i_signals a_signalAt i_walksAt i_turned i_changed i_read i_newRows i_newEntries i_newColumns i_greatest a_newAt i_partings a_lowSet a_highSet i_leastMany a_leastAt a_tried a_keptLow a_keptHigh i_laid a_wants i_wide a_wideAsked a_wideOnes i_sum i_flickers a_sumAt j_h) U.heap ∧ va_K D vwCl (tyM cA) U ∧ va_D A (wM q cA i_pageLength a_page i_states i_columns a_entries i_signals a_signalAt i_walksAt i_turned i_changed i_read i_newRows i_newEntries i_newColumns i_greatest a_newAt i_partings a_lowSet a_highSet i_leastMany a_leastAt a_tried a_keptLow a_keptHigh i_laid a_wants i_wide a_wideAsked a_wideOnes i_sum i_flickers a_sumAt j_h))) (qWi (Z_X10_clear D q cA i_pageLength a_page i_states i_columns a_entries a_signalAt i_walksAt i_turned i_changed i_read i_newRows i_newEntries i_newColumns i_greatest a_newAt i_partings a_lowSet a_highSet i_leastMany a_leastAt a_tried a_keptLow a_keptHigh a_wants i_wide a_wideAsked a_wideOnes i_sum i_flickers a_sumAt j_h post) A) 0 0 A := by
  refine Met.ofW (cc := cX10_clear) (maxL := 2) (ret := (some .int)) (by decide) rfl ?_
  intro p e s m args below meth c s₁ B hml hv
  obtain ⟨rfl, hP, hK, hD⟩ := hv
  have X : kC p (headSpec (Cond.code yX10_clear cX10_clear 2 (some .int) :: wsL_law) (rmH 3)).room s m _ meth c cX10_clear RX10 2 (some .int) 3 := ⟨B.exec, B.bytes, hml, findClass_of_methodNamed B.named, fun w h => atoms_spec (ws := Cond.code yX10_clear cX10_clear 2 (some .int) :: wsL_law) B.pre w (List.mem_cons_of_mem _ h), B.returns, B.notSynchronized, Nat.le_refl _, Nat.le_refl _⟩
  obtain ⟨hx, hb, hml, hown, hts, hr, hlocks, hRf, hRl⟩ := id X
  have hS : va_S A s.heap s.heap [] := va_S.rf
  have hl := lv_entry ([.ref (q 0)]) (n := 2) (Nat.le_of_ble_eq_true rfl)
  rw [lg_entry_eq]
  generalize (lg_sl ([.ref (q 0)]) ++ List.replicate (2 - (lg_sl ([.ref (q 0)])).length) Slot.unset).toArray = ls at hl ⊢
  have hl : lv_has ls 2 [(0, .ref (q 0))] := hl
  refine lv_aload_n hx hb dX10_clear_0 rfl (lv_at hl 0 rfl) ?_
  refine ro_i (va_runV (As := []) (rest := []) ⟨hx, hb, hml, hown, hts⟩ (c_X10_isNormal l hw) (kRX10_125 (h := 2) hts (Nat.le_trans (Nat.le_of_ble_eq_true rfl) hRf) (Nat.le_trans (Nat.le_of_ble_eq_true rfl) hRl)) (preM hK hP) rfl rfl hl.1 rfl (lv_room (Nat.le_of_ble_eq_true rfl)) dX10_clear_1 ⟨Nat.zero_le _, Nat.zero_le _⟩) (fun r_1 hw => ?_)
  refine lv_if_ne (tgt := 11) hx hb dX10_clear_4 (by decide) (fun c_2 => ?_) (fun c_2 => ?_)
  · have hw := hw.2 c_2
    refine lv_aload_n hx hb dX10_clear_11 rfl (lv_at hl 0 rfl) ?_
    refine gRX10_99 hx hb hown hts hK hP dX10_clear_12 ?_
    refine lv_istore_n (lv' := [(1, .int i_signals), (0, .ref (q 0))]) hx hb dX10_clear_15 rfl hl (by decide) rfl (fun ls hl => ?_)
    refine lv_aload_n hx hb dX10_clear_16 rfl (lv_at hl 1 rfl) ?_
    refine lv_iconst (v := (0 : Int32)) hx hb dX10_clear_17 (by decide) ?_
    refine pRX10_99 hx hb hown hts hK hP hD hS dX10_clear_18 (fun H locs hP hD hS => ?_)
    refine lv_aload_n hx hb dX10_clear_21 rfl (lv_at hl 1 rfl) ?_
    refine wr_v (va_runV (As := []) (rest := []) ⟨hx, hb, hml, hown, hts⟩ (c_X10_altered l hw) (kRX10_111 (h := 0) hts (Nat.le_trans (Nat.le_of_ble_eq_true rfl) hRf) (Nat.le_trans (Nat.le_of_ble_eq_true rfl) hRl)) (preMw hK hP hD) rfl rfl hl.1 rfl (lv_room (Nat.le_of_ble_eq_true rfl)) dX10_clear_22 ⟨Nat.zero_le _, Nat.zero_le _⟩) hS (fun t H locs ht hw hS => ?_)
    obtain ⟨ylaid_3, hw, hP⟩ := hw
    rw [ht] at hP
    have hP : va_P D vwCl (wM q cA i_pageLength a_page i_states i_columns a_entries (0 : Int32) a_signalAt i_walksAt i_turned i_changed i_read i_newRows i_newEntries i_newColumns i_greatest a_newAt i_partings a_lowSet a_highSet i_leastMany a_leastAt a_tried a_keptLow a_keptHigh ylaid_3 a_wants i_wide a_wideAsked a_wideOnes i_sum i_flickers a_sumAt j_h) H := hP
    have hD : va_D A (wM q cA i_pageLength a_page i_states i_columns a_entries (0 : Int32) a_signalAt i_walksAt i_turned i_changed i_read i_newRows i_newEntries i_newColumns i_greatest a_newAt i_partings a_lowSet a_highSet i_leastMany a_leastAt a_tried a_keptLow a_keptHigh ylaid_3 a_wants i_wide a_wideAsked a_wideOnes i_sum i_flickers a_sumAt j_h) := dM hD
    refine lv_iload_n hx hb dX10_clear_25 rfl (lv_at hl 0 rfl) ?_
    exact rw_i hx hb hr hlocks (fun t ht => ⟨(0 : Int32), ylaid_3, hw, by rw [ht]; exact hP⟩) hS dX10_clear_26
  · have hw := hw.1 c_2
    refine lv_sipush (v := ((-1003) : Int32)) hx hb dX10_clear_7 (by decide +kernel) ?_
    exact rw_i hx hb hr hlocks (fun t ht => ⟨i_signals, i_laid, hw, by rw [ht]; exact hP⟩) hS dX10_clear_10
set_option maxHeartbeats 4000000 in
set_option maxRecDepth 100000 in
theorem c_X9_code (l : Launch) {D : va_G} {q : Nat → Nat} {cA : Nat → ClassId} {Fc_unkept : Int32} {Fc_tablesRead : Int32} {Pg_letters : Nat → Int32} {Pg_size : Int32} {Pg_fault : Int32} {Pg_rows : Int32} {Pg_inRow : Int32} {Pg_width : Int32} {Fl_entries : Nat → Int32} {Fl_states : Int32} {Fl_columns : Int32} {Fl_moves : Int32} {Fl_stables : Int32} {Fl_amiss : Int32} {Fl_normal : Int32} {Pt_lessers : Nat → Int32} {Pt_greaters : Nat → Int32} {Pt_size : Int32} {Lc_signals : Nat → Int32} {Lc_kept : Nat → Int64} {Lc_keptFrom : Nat → Int64} {Lc_candidates : Int32} {Lc_size : Int32} {Sc_signals : Nat → Int32} {Sc_codes : Nat → Int32} {Sc_size : Int32} {Ai_codes : Nat → Int32} {Ai_bits : Int32} {Cu_seen : Nat → Int32} {Cu_inThrees : Nat → Int32} {Cu_all : Int32} {Lo_asked : Nat → Nat → Int32} {Lo_ones : Nat → Nat → Int32} {Lo_sum : Nat → Nat → Int32} {Lo_wideSize : Nat → Int32} {Lo_sumSize : Nat → Int32} {Lo_flickers : Nat → Int32} {Lo_ready : Nat → Int32} {Wa_at : Int32} {Wa_turns : Int32} {Wa_changes : Int32} {post : Int32 → Prop} {x1 : Int32} (hw : wp_X9_code post Fl_states Fl_normal Sc_codes x1) : Met l yX9_code (Cond.code yX9_code cX9_code 2 (some .int) :: wsL_law) (rmH 1) (va_Pc [.ref (q 0), .int x1] (fun U => va_P D vwCl (wC q cA Fc_unkept Fc_tablesRead Pg_letters Pg_size Pg_fault Pg_rows Pg_inRow Pg_width Fl_entries Fl_states Fl_columns Fl_moves Fl_stables Fl_amiss Fl_normal Pt_lessers Pt_greaters Pt_size Lc_signals Lc_kept Lc_keptFrom Lc_candidates Lc_size Sc_signals Sc_codes Sc_size Ai_codes Ai_bits Cu_seen Cu_inThrees Cu_all Lo_asked Lo_ones Lo_sum Lo_wideSize Lo_sumSize Lo_flickers Lo_ready Wa_at Wa_turns Wa_changes) U.heap ∧ va_K D vwCl (tyC cA) U ∧ nwC U)) (qRi post) 0 0 (fun _ => False) := by
  refine Met.ofW (cc := cX9_code) (maxL := 2) (ret := (some .int)) (by decide) rfl ?_
  intro p e s m args below meth c s₁ B hml hv
  obtain ⟨rfl, hP, hK, hN⟩ := hv
  have X : kC p (headSpec (Cond.code yX9_code cX9_code 2 (some .int) :: wsL_law) (rmH 1)).room s m _ meth c cX9_code RX9 2 (some .int) 1 := ⟨B.exec, B.bytes, hml, findClass_of_methodNamed B.named, fun w h => atoms_spec (ws := Cond.code yX9_code cX9_code 2 (some .int) :: wsL_law) B.pre w (List.mem_cons_of_mem _ h), B.returns, B.notSynchronized, Nat.le_refl _, Nat.le_refl _⟩
  obtain ⟨hx, hb, hml, hown, hts, hr, hlocks, hRf, hRl⟩ := id X
  have hl := lv_entry ([.ref (q 0), .int x1]) (n := 2) (Nat.le_of_ble_eq_true rfl)
  rw [lg_entry_eq]
  generalize (lg_sl ([.ref (q 0), .int x1]) ++ List.replicate (2 - (lg_sl ([.ref (q 0), .int x1])).length) Slot.unset).toArray = ls at hl ⊢
  have hl : lv_has ls 2 [(0, .ref (q 0)), (1, .int x1)] := hl
  refine lv_aload_n hx hb dX9_code_0 rfl (lv_at hl 0 rfl) ?_
  refine gRX9_19 hx hb hown hts hK hP dX9_code_1 ?_
  refine lv_iload_n hx hb dX9_code_4 rfl (lv_at hl 1 rfl) ?_
  refine ro_i (va_runV (As := [.int x1]) (rest := []) ⟨hx, hb, hml, hown, hts⟩ (c_X2_hasState l hw) (kRX9_132 (h := 0) hts (Nat.le_trans (Nat.le_of_ble_eq_true rfl) hRf) (Nat.le_trans (Nat.le_of_ble_eq_true rfl) hRl)) (preX2 hK hN hP) rfl rfl hl.1 rfl (lv_room (Nat.le_of_ble_eq_true rfl)) dX9_code_5 ⟨Nat.zero_le _, Nat.zero_le _⟩) (fun r_1 hw => ?_)
  refine lv_if_ne (tgt := 15) hx hb dX9_code_8 (by decide) (fun c_2 => ?_) (fun c_2 => ?_)
  · have hw := hw.2 c_2
    refine lv_aload_n hx hb dX9_code_15 rfl (lv_at hl 0 rfl) ?_
    refine gRX9_19 hx hb hown hts hK hP dX9_code_16 ?_
    refine gRX9_110 hx hb hown hts hK hN hP dX9_code_19 ?_
    refine lv_if_eq (tgt := 36) hx hb dX9_code_22 (by decide) (fun c_3 => ?_) (fun c_3 => ?_)
    · have hw := hw.1 c_3
      refine lv_sipush (v := ((-1003) : Int32)) hx hb dX9_code_36 (by decide +kernel) ?_
      exact rt_i hx hb hr hlocks hw dX9_code_39
    · have hw := hw.2 c_3
      refine lv_aload_n hx hb dX9_code_25 rfl (lv_at hl 0 rfl) ?_
      refine gRX9_40 hx hb hown hts hK hP dX9_code_26 ?_
      refine lv_iload_n hx hb dX9_code_29 rfl (lv_at hl 1 rfl) ?_
      refine ro_i (va_runV (As := [.int x1]) (rest := []) ⟨hx, hb, hml, hown, hts⟩ (c_X7_codeOf l hw) (kRX9_177 (h := 0) hts (Nat.le_trans (Nat.le_of_ble_eq_true rfl) hRf) (Nat.le_trans (Nat.le_of_ble_eq_true rfl) hRl)) (preX7 hK hN hP) rfl rfl hl.1 rfl (lv_room (Nat.le_of_ble_eq_true rfl)) dX9_code_30 ⟨Nat.zero_le _, Nat.zero_le _⟩) (fun r_4 hw => ?_)
      refine lv_goto (tgt := 39) hx hb dX9_code_33 (by decide) ?_
      exact rt_i hx hb hr hlocks hw dX9_code_39
  · have hw := hw.1 c_2
    refine lv_sipush (v := ((-1001) : Int32)) hx hb dX9_code_11 (by decide +kernel) ?_
    exact rt_i hx hb hr hlocks hw dX9_code_14
set_option maxHeartbeats 4000000 in
set_option maxRecDepth 100000 in
theorem t_X10_codeOf_4 {p : Program} {l : Launch} {e : Env} {R : Room} {s : State} {m : MethodId} {args : Array Value} {below : List Frame} {meth : Method} {c : Code} {D : va_G} {q : Nat → Nat} {cA : Nat → ClassId} {i_pageLength : Int32} {a_page : Nat → Int32} {i_states : Int32} {i_columns : Int32} {a_entries : Nat → Int32} {i_signals : Int32} {a_signalAt : Nat → Int32} {i_walksAt : Int32} {i_turned : Int32} {i_changed : Int32} {i_read : Int32} {i_newRows : Int32} {i_newEntries : Int32} {i_newColumns : Int32} {i_greatest : Int32} {a_newAt : Nat → Int32} {i_partings : Int32} {a_lowSet : Nat → Int32} {a_highSet : Nat → Int32} {i_leastMany : Int32} {a_leastAt : Nat → Int32} {a_tried : Nat → Int32} {a_keptLow : Nat → Int64} {a_keptHigh : Nat → Int64} {i_laid : Int32} {a_wants : Nat → Int32} {i_wide : Int32} {a_wideAsked : Nat → Int32} {a_wideOnes : Nat → Int32} {i_sum : Int32} {i_flickers : Int32} {a_sumAt : Nat → Int32} {j_h : Int64} {post : Int32 → Prop} {KE : Int32 → Prop} {x1 : Int32} (X : kC p R s m args meth c cX10_codeOf RX10 4 (some .int) 0) (hK : va_K D vwCl (tyM cA) s) (hP : va_P D vwCl (wM q cA i_pageLength a_page i_states i_columns a_entries i_signals a_signalAt i_walksAt i_turned i_changed i_read i_newRows i_newEntries i_newColumns i_greatest a_newAt i_partings a_lowSet a_highSet i_leastMany a_leastAt a_tried a_keptLow a_keptHigh i_laid a_wants i_wide a_wideAsked a_wideOnes i_sum i_flickers a_sumAt j_h) s.heap) (hE : ∀ (x2 : Int32), KE x2 → ∀ (ls : Array Slot), lv_has ls 4 [(2, .int x2)] → W p l e R s m args below meth c s.heap [] 0 0 (MQ below (qRi post) args s 0 0 (fun _ => False)) (F0 m 33 ls [])) : ∀ (n : Nat) (x2 : Int32) (x3 : Int32), w_X10_codeOf_4 KE i_signals a_signalAt x1 n x2 x3 → ∀ (ls : Array Slot), lv_has ls 4 [(0, .ref (q 0)), (1, .int x1), (2, .int x2), (3, .int x3)] → W p l e R s m args below meth c s.heap [] 0 0 (MQ below (qRi post) args s 0 0 (fun _ => False)) (F0 m 4 ls []) := by
  obtain ⟨hx, hb, hml, hown, hts, hr, hlocks, hRf, hRl⟩ := id X
  intro n
  induction n with
  | zero => intro x2 x3 hw; exact (show False from hw).elim
  | succ n ih =>
    intro x2 x3 hw ls hl
    refine lv_iload_n hx hb dX10_codeOf_4 rfl (lv_at hl 3 rfl) ?_
    refine lv_aload_n hx hb dX10_codeOf_5 rfl (lv_at hl 0 rfl) ?_
    refine gRX10_99 hx hb hown hts hK hP dX10_codeOf_6 ?_
    refine lv_icmp_ge (tgt := 33) hx hb dX10_codeOf_9 (by decide) (fun c_1 => ?_) (fun c_1 => ?_)
    · have hw := hw.1 c_1
      exact hE _ hw ls (lv_sub hl [2] rfl)
    · have hw := hw.2 c_1
      refine lv_iload_n hx hb dX10_codeOf_12 rfl (lv_at hl 2 rfl) ?_
      refine lv_aload_n hx hb dX10_codeOf_13 rfl (lv_at hl 0 rfl) ?_
      refine gRX10_16 hx hb hown hts hK hP dX10_codeOf_14 ?_
      refine lv_iload_n hx hb dX10_codeOf_17 rfl (lv_at hl 3 rfl) ?_
      have h_2 := hw.1
      have hw := hw.2
      refine ld_a_signalAt hx hb hK hP h_2 dX10_codeOf_18 ?_
      refine lv_iload_n hx hb dX10_codeOf_19 rfl (lv_at hl 1 rfl) ?_
      refine lv_ishr hx hb dX10_codeOf_20 ?_
      refine lv_iconst (v := (1 : Int32)) hx hb dX10_codeOf_21 (by decide) ?_
      refine lv_iand hx hb dX10_codeOf_22 ?_
      refine lv_iload_n hx hb dX10_codeOf_23 rfl (lv_at hl 3 rfl) ?_
      refine lv_ishl hx hb dX10_codeOf_24 ?_
      refine lv_ior hx hb dX10_codeOf_25 ?_
      refine lv_topi (fun x2_3 e_3 => ?_)
      have hw := hw x2_3 e_3
      refine lv_istore_n (lv' := [(2, .int x2_3), (0, .ref (q 0)), (1, .int x1), (3, .int x3)]) hx hb dX10_codeOf_26 rfl hl (by decide) rfl (fun ls hl => ?_)
      obtain ⟨x3_4, e_4⟩ : ∃ z : Int32, z = x3 + (1 : Int32) := ⟨_, rfl⟩
      have hw := hw x3_4 e_4
      refine lv_iinc (v := x3_4) (lv' := [(3, .int x3_4), (2, .int x2_3), (0, .ref (q 0)), (1, .int x1)]) hx hb dX10_codeOf_27 hl (k := 3) rfl (by rw [e_4]; rfl) (by decide) rfl (fun ls hl => ?_)
      refine lv_goto (tgt := 4) hx hb dX10_codeOf_30 (by decide) ?_
      exact ih _ _ hw ls (lv_sub hl [2, 3, 1, 0] rfl)
set_option maxHeartbeats 4000000 in
set_option maxRecDepth 100000 in
theorem c_X10_codeOf (l : Launch) {D : va_G} {q : Nat → Nat} {cA : Nat → ClassId} {i_pageLength : Int32} {a_page : Nat → Int32} {i_states : Int32} {i_columns : Int32} {a_entries : Nat → Int32} {i_signals : Int32} {a_signalAt : Nat → Int32} {i_walksAt : Int32} {i_turned : Int32} {i_changed : Int32} {i_read : Int32} {i_newRows : Int32} {i_newEntries : Int32} {i_newColumns : Int32} {i_greatest : Int32} {a_newAt : Nat → Int32} {i_partings : Int32} {a_lowSet : Nat → Int32} {a_highSet : Nat → Int32} {i_leastMany : Int32} {a_leastAt : Nat → Int32} {a_tried : Nat → Int32} {a_keptLow : Nat → Int64} {a_keptHigh : Nat → Int64} {i_laid : Int32} {a_wants : Nat → Int32} {i_wide : Int32} {a_wideAsked : Nat → Int32} {a_wideOnes : Nat → Int32} {i_sum : Int32} {i_flickers : Int32} {a_sumAt : Nat → Int32} {j_h : Int64} {post : Int32 → Prop} {x1 : Int32} (hw : wp_X10_codeOf post i_signals a_signalAt x1) : Met l yX10_codeOf (Cond.code yX10_codeOf cX10_codeOf 4 (some .int) :: wsL_law) (rmH 0) (va_Pc [.ref (q 0), .int x1] (fun U => va_P D vwCl (wM q cA i_pageLength a_page i_states i_columns a_entries i_signals a_signalAt i_walksAt i_turned i_changed i_read i_newRows i_newEntries i_newColumns i_greatest a_newAt i_partings a_lowSet a_highSet i_leastMany a_leastAt a_tried a_keptLow a_keptHigh i_laid a_wants i_wide a_wideAsked a_wideOnes i_sum i_flickers a_sumAt j_h) U.heap ∧ va_K D vwCl (tyM cA) U)) (qRi post) 0 0 (fun _ => False) := by
  refine Met.ofW (cc := cX10_codeOf) (maxL := 4) (ret := (some .int)) (by decide) rfl ?_
  intro p e s m args below meth c s₁ B hml hv
  obtain ⟨rfl, hP, hK⟩ := hv
  have X : kC p (headSpec (Cond.code yX10_codeOf cX10_codeOf 4 (some .int) :: wsL_law) (rmH 0)).room s m _ meth c cX10_codeOf RX10 4 (some .int) 0 := ⟨B.exec, B.bytes, hml, findClass_of_methodNamed B.named, fun w h => atoms_spec (ws := Cond.code yX10_codeOf cX10_codeOf 4 (some .int) :: wsL_law) B.pre w (List.mem_cons_of_mem _ h), B.returns, B.notSynchronized, Nat.le_refl _, Nat.le_refl _⟩
  obtain ⟨hx, hb, hml, hown, hts, hr, hlocks, hRf, hRl⟩ := id X
  have hl := lv_entry ([.ref (q 0), .int x1]) (n := 4) (Nat.le_of_ble_eq_true rfl)
  rw [lg_entry_eq]
  generalize (lg_sl ([.ref (q 0), .int x1]) ++ List.replicate (4 - (lg_sl ([.ref (q 0), .int x1])).length) Slot.unset).toArray = ls at hl ⊢
  have hl : lv_has ls 4 [(0, .ref (q 0)), (1, .int x1)] := hl
  refine lv_iconst (v := (0 : Int32)) hx hb dX10_codeOf_0 (by decide) ?_
  refine lv_istore_n (lv' := [(2, .int (0 : Int32)), (0, .ref (q 0)), (1, .int x1)]) hx hb dX10_codeOf_1 rfl hl (by decide) rfl (fun ls hl => ?_)
  refine lv_iconst (v := (0 : Int32)) hx hb dX10_codeOf_2 (by decide) ?_
  refine lv_istore_n (lv' := [(3, .int (0 : Int32)), (2, .int (0 : Int32)), (0, .ref (q 0)), (1, .int x1)]) hx hb dX10_codeOf_3 rfl hl (by decide) rfl (fun ls hl => ?_)
  obtain ⟨n_5, hw⟩ := hw
  refine t_X10_codeOf_4 X hK hP (fun x2_5 hw ls hl => ?_) n_5 _ _ hw ls (lv_sub hl [2, 3, 1, 0] rfl)
  refine lv_iload_n hx hb dX10_codeOf_33 rfl (lv_at hl 0 rfl) ?_
  exact rt_i hx hb hr hlocks hw dX10_codeOf_34
set_option maxHeartbeats 4000000 in
set_option maxRecDepth 100000 in
theorem c_X10_code (l : Launch) {D : va_G} {q : Nat → Nat} {cA : Nat → ClassId} {i_pageLength : Int32} {a_page : Nat → Int32} {i_states : Int32} {i_columns : Int32} {a_entries : Nat → Int32} {i_signals : Int32} {a_signalAt : Nat → Int32} {i_walksAt : Int32} {i_turned : Int32} {i_changed : Int32} {i_read : Int32} {i_newRows : Int32} {i_newEntries : Int32} {i_newColumns : Int32} {i_greatest : Int32} {a_newAt : Nat → Int32} {i_partings : Int32} {a_lowSet : Nat → Int32} {a_highSet : Nat → Int32} {i_leastMany : Int32} {a_leastAt : Nat → Int32} {a_tried : Nat → Int32} {a_keptLow : Nat → Int64} {a_keptHigh : Nat → Int64} {i_laid : Int32} {a_wants : Nat → Int32} {i_wide : Int32} {a_wideAsked : Nat → Int32} {a_wideOnes : Nat → Int32} {i_sum : Int32} {i_flickers : Int32} {a_sumAt : Nat → Int32} {j_h : Int64} {post : Int32 → Prop} {x1 : Int32} (hw : wp_X10_code post i_states i_columns a_entries i_signals a_signalAt x1) : Met l yX10_code (Cond.code yX10_code cX10_code 2 (some .int) :: wsL_law) (rmH 3) (va_Pc [.ref (q 0), .int x1] (fun U => va_P D vwCl (wM q cA i_pageLength a_page i_states i_columns a_entries i_signals a_signalAt i_walksAt i_turned i_changed i_read i_newRows i_newEntries i_newColumns i_greatest a_newAt i_partings a_lowSet a_highSet i_leastMany a_leastAt a_tried a_keptLow a_keptHigh i_laid a_wants i_wide a_wideAsked a_wideOnes i_sum i_flickers a_sumAt j_h) U.heap ∧ va_K D vwCl (tyM cA) U)) (qRi post) 0 0 (fun _ => False) := by
  refine Met.ofW (cc := cX10_code) (maxL := 2) (ret := (some .int)) (by decide) rfl ?_
  intro p e s m args below meth c s₁ B hml hv
  obtain ⟨rfl, hP, hK⟩ := hv
  have X : kC p (headSpec (Cond.code yX10_code cX10_code 2 (some .int) :: wsL_law) (rmH 3)).room s m _ meth c cX10_code RX10 2 (some .int) 3 := ⟨B.exec, B.bytes, hml, findClass_of_methodNamed B.named, fun w h => atoms_spec (ws := Cond.code yX10_code cX10_code 2 (some .int) :: wsL_law) B.pre w (List.mem_cons_of_mem _ h), B.returns, B.notSynchronized, Nat.le_refl _, Nat.le_refl _⟩
  obtain ⟨hx, hb, hml, hown, hts, hr, hlocks, hRf, hRl⟩ := id X
  have hl := lv_entry ([.ref (q 0), .int x1]) (n := 2) (Nat.le_of_ble_eq_true rfl)
  rw [lg_entry_eq]
  generalize (lg_sl ([.ref (q 0), .int x1]) ++ List.replicate (2 - (lg_sl ([.ref (q 0), .int x1])).length) Slot.unset).toArray = ls at hl ⊢
  have hl : lv_has ls 2 [(0, .ref (q 0)), (1, .int x1)] := hl
  refine lv_iload_n hx hb dX10_code_0 rfl (lv_at hl 1 rfl) ?_
  refine lv_iconst (v := (0 : Int32)) hx hb dX10_code_1 (by decide) ?_
  refine lv_aload_n hx hb dX10_code_2 rfl (lv_at hl 0 rfl) ?_
  refine gRX10_87 hx hb hown hts hK hP dX10_code_3 ?_
  refine lv_iconst (v := (1 : Int32)) hx hb dX10_code_6 (by decide) ?_
  refine lv_isub hx hb dX10_code_7 ?_
  refine ro_i (va_runS (As := [.int x1, .int (0 : Int32), .int (i_states - (1 : Int32))]) (rest := []) ⟨hx, hb, hml, hown, hts⟩ (c_X10_within l hw) (kRX10_60 (h := 0) hts (Nat.le_trans (Nat.le_of_ble_eq_true rfl) hRf) (Nat.le_trans (Nat.le_of_ble_eq_true rfl) hRl)) pre_0 rfl rfl hl.1 rfl (lv_room (Nat.le_of_ble_eq_true rfl)) dX10_code_8 ⟨Nat.zero_le _, Nat.zero_le _⟩) (fun r_1 hw => ?_)
  refine lv_if_ne (tgt := 18) hx hb dX10_code_11 (by decide) (fun c_2 => ?_) (fun c_2 => ?_)
  · have hw := hw.2 c_2
    refine lv_aload_n hx hb dX10_code_18 rfl (lv_at hl 0 rfl) ?_
    refine ro_i (va_runV (As := []) (rest := []) ⟨hx, hb, hml, hown, hts⟩ (c_X10_isNormal l hw) (kRX10_125 (h := 2) hts (Nat.le_trans (Nat.le_of_ble_eq_true rfl) hRf) (Nat.le_trans (Nat.le_of_ble_eq_true rfl) hRl)) (preM hK hP) rfl rfl hl.1 rfl (lv_room (Nat.le_of_ble_eq_true rfl)) dX10_code_19 ⟨Nat.zero_le _, Nat.zero_le _⟩) (fun r_3 hw => ?_)
    refine lv_if_eq (tgt := 33) hx hb dX10_code_22 (by decide) (fun c_4 => ?_) (fun c_4 => ?_)
    · have hw := hw.1 c_4
      refine lv_sipush (v := ((-1003) : Int32)) hx hb dX10_code_33 (by decide +kernel) ?_
      exact rt_i hx hb hr hlocks hw dX10_code_36
    · have hw := hw.2 c_4
      refine lv_aload_n hx hb dX10_code_25 rfl (lv_at hl 0 rfl) ?_
      refine lv_iload_n hx hb dX10_code_26 rfl (lv_at hl 1 rfl) ?_
      refine ro_i (va_runV (As := [.int x1]) (rest := []) ⟨hx, hb, hml, hown, hts⟩ (c_X10_codeOf l hw) (kRX10_178 (h := 0) hts (Nat.le_trans (Nat.le_of_ble_eq_true rfl) hRf) (Nat.le_trans (Nat.le_of_ble_eq_true rfl) hRl)) (preM hK hP) rfl rfl hl.1 rfl (lv_room (Nat.le_of_ble_eq_true rfl)) dX10_code_27 ⟨Nat.zero_le _, Nat.zero_le _⟩) (fun r_5 hw => ?_)
      refine lv_goto (tgt := 36) hx hb dX10_code_30 (by decide) ?_
      exact rt_i hx hb hr hlocks hw dX10_code_36
  · have hw := hw.1 c_2
    refine lv_sipush (v := ((-1001) : Int32)) hx hb dX10_code_14 (by decide +kernel) ?_
    exact rt_i hx hb hr hlocks hw dX10_code_17
set_option maxHeartbeats 4000000 in
set_option maxRecDepth 100000 in
theorem c_X7_waysMeet (l : Launch) {D : va_G} {q : Nat → Nat} {cA : Nat → ClassId} {Fc_unkept : Int32} {Fc_tablesRead : Int32} {Pg_letters : Nat → Int32} {Pg_size : Int32} {Pg_fault : Int32} {Pg_rows : Int32} {Pg_inRow : Int32} {Pg_width : Int32} {Fl_entries : Nat → Int32} {Fl_states : Int32} {Fl_columns : Int32} {Fl_moves : Int32} {Fl_stables : Int32} {Fl_amiss : Int32} {Fl_normal : Int32} {Pt_lessers : Nat → Int32} {Pt_greaters : Nat → Int32} {Pt_size : Int32} {Lc_signals : Nat → Int32} {Lc_kept : Nat → Int64} {Lc_keptFrom : Nat → Int64} {Lc_candidates : Int32} {Lc_size : Int32} {Sc_signals : Nat → Int32} {Sc_codes : Nat → Int32} {Sc_size : Int32} {Ai_codes : Nat → Int32} {Ai_bits : Int32} {Cu_seen : Nat → Int32} {Cu_inThrees : Nat → Int32} {Cu_all : Int32} {Lo_asked : Nat → Nat → Int32} {Lo_ones : Nat → Nat → Int32} {Lo_sum : Nat → Nat → Int32} {Lo_wideSize : Nat → Int32} {Lo_sumSize : Nat → Int32} {Lo_flickers : Nat → Int32} {Lo_ready : Nat → Int32} {Wa_at : Int32} {Wa_turns : Int32} {Wa_changes : Int32} {post : Int32 → Prop} {x1 : Int32} {x2 : Int32} {x3 : Int32} {x4 : Int32} (hw : wp_X7_waysMeet post Sc_codes x1 x2 x3 x4) : Met l yX7_waysMeet (Cond.code yX7_waysMeet cX7_waysMeet 6 (some .boolean) :: wsL_law) (rmH 1) (va_Pc [.ref (q 12), .int x1, .int x2, .int x3, .int x4] (fun U => va_P D vwCl (wC q cA Fc_unkept Fc_tablesRead Pg_letters Pg_size Pg_fault Pg_rows Pg_inRow Pg_width Fl_entries Fl_states Fl_columns Fl_moves Fl_stables Fl_amiss Fl_normal Pt_lessers Pt_greaters Pt_size Lc_signals Lc_kept Lc_keptFrom Lc_candidates Lc_size Sc_signals Sc_codes Sc_size Ai_codes Ai_bits Cu_seen Cu_inThrees Cu_all Lo_asked Lo_ones Lo_sum Lo_wideSize Lo_sumSize Lo_flickers Lo_ready Wa_at Wa_turns Wa_changes) U.heap ∧ va_K D vwCl (tyC cA) U ∧ nwC U)) (qRi post) 0 0 (fun _ => False) := by
  refine Met.ofW (cc := cX7_waysMeet) (maxL := 6) (ret := (some .boolean)) (by decide) rfl ?_
  intro p e s m args below meth c s₁ B hml hv
  obtain ⟨rfl, hP, hK, hN⟩ := hv
  have X : kC p (headSpec (Cond.code yX7_waysMeet cX7_waysMeet 6 (some .boolean) :: wsL_law) (rmH 1)).room s m _ meth c cX7_waysMeet RX7 6 (some .boolean) 1 := ⟨B.exec, B.bytes, hml, findClass_of_methodNamed B.named, fun w h => atoms_spec (ws := Cond.code yX7_waysMeet cX7_waysMeet 6 (some .boolean) :: wsL_law) B.pre w (List.mem_cons_of_mem _ h), B.returns, B.notSynchronized, Nat.le_refl _, Nat.le_refl _⟩
  obtain ⟨hx, hb, hml, hown, hts, hr, hlocks, hRf, hRl⟩ := id X
  have hl := lv_entry ([.ref (q 12), .int x1, .int x2, .int x3, .int x4]) (n := 6) (Nat.le_of_ble_eq_true rfl)
  rw [lg_entry_eq]
  generalize (lg_sl ([.ref (q 12), .int x1, .int x2, .int x3, .int x4]) ++ List.replicate (6 - (lg_sl ([.ref (q 12), .int x1, .int x2, .int x3, .int x4])).length) Slot.unset).toArray = ls at hl ⊢
  have hl : lv_has ls 6 [(0, .ref (q 12)), (1, .int x1), (2, .int x2), (3, .int x3), (4, .int x4)] := hl
  refine lv_aload_n hx hb dX7_waysMeet_0 rfl (lv_at hl 0 rfl) ?_
  refine lv_iload_n hx hb dX7_waysMeet_1 rfl (lv_at hl 1 rfl) ?_
  refine ro_i (va_runV (As := [.int x1]) (rest := []) ⟨hx, hb, hml, hown, hts⟩ (c_X7_codeOf l hw) (kRX7_33 (h := 0) hts (Nat.le_trans (Nat.le_of_ble_eq_true rfl) hRf) (Nat.le_trans (Nat.le_of_ble_eq_true rfl) hRl)) (preX7 hK hN hP) rfl rfl hl.1 rfl (lv_room (Nat.le_of_ble_eq_true rfl)) dX7_waysMeet_2 ⟨Nat.zero_le _, Nat.zero_le _⟩) (fun r_1 hw => ?_)
  refine lv_aload_n hx hb dX7_waysMeet_5 rfl (lv_at hl 0 rfl) ?_
  refine lv_iload_n hx hb dX7_waysMeet_6 rfl (lv_at hl 2 rfl) ?_
  refine ro_i (va_runV (As := [.int x2]) (rest := [.int r_1]) ⟨hx, hb, hml, hown, hts⟩ (c_X7_codeOf l hw) (kRX7_33 (h := 0) hts (Nat.le_trans (Nat.le_of_ble_eq_true rfl) hRf) (Nat.le_trans (Nat.le_of_ble_eq_true rfl) hRl)) (preX7 hK hN hP) rfl rfl hl.1 rfl (lv_room (Nat.le_of_ble_eq_true rfl)) dX7_waysMeet_7 ⟨Nat.zero_le _, Nat.zero_le _⟩) (fun r_2 hw => ?_)
  refine lv_ixor hx hb dX7_waysMeet_10 ?_
  refine lv_aload_n hx hb dX7_waysMeet_11 rfl (lv_at hl 0 rfl) ?_
  refine lv_iload_n hx hb dX7_waysMeet_12 rfl (lv_at hl 3 rfl) ?_
  refine ro_i (va_runV (As := [.int x3]) (rest := [.int (r_1 ^^^ r_2)]) ⟨hx, hb, hml, hown, hts⟩ (c_X7_codeOf l hw) (kRX7_33 (h := 0) hts (Nat.le_trans (Nat.le_of_ble_eq_true rfl) hRf) (Nat.le_trans (Nat.le_of_ble_eq_true rfl) hRl)) (preX7 hK hN hP) rfl rfl hl.1 rfl (lv_room (Nat.le_of_ble_eq_true rfl)) dX7_waysMeet_13 ⟨Nat.zero_le _, Nat.zero_le _⟩) (fun r_3 hw => ?_)
  refine lv_aload_n hx hb dX7_waysMeet_16 rfl (lv_at hl 0 rfl) ?_
  refine lv_iload hx hb dX7_waysMeet_17 (lv_at hl 4 rfl) ?_
  refine ro_i (va_runV (As := [.int x4]) (rest := [.int r_3, .int (r_1 ^^^ r_2)]) ⟨hx, hb, hml, hown, hts⟩ (c_X7_codeOf l hw) (kRX7_33 (h := 0) hts (Nat.le_trans (Nat.le_of_ble_eq_true rfl) hRf) (Nat.le_trans (Nat.le_of_ble_eq_true rfl) hRl)) (preX7 hK hN hP) rfl rfl hl.1 rfl (lv_room (Nat.le_of_ble_eq_true rfl)) dX7_waysMeet_19 ⟨Nat.zero_le _, Nat.zero_le _⟩) (fun r_4 hw => ?_)
  refine lv_ixor hx hb dX7_waysMeet_22 ?_
  refine lv_ior hx hb dX7_waysMeet_23 ?_
  refine lv_topi (fun x5_5 e_5 => ?_)
  have hw := hw x5_5 e_5
  refine lv_istore (lv' := [(5, .int x5_5), (0, .ref (q 12)), (1, .int x1), (2, .int x2), (3, .int x3), (4, .int x4)]) hx hb dX7_waysMeet_24 hl (by decide) rfl (fun ls hl => ?_)
  refine lv_aload_n hx hb dX7_waysMeet_26 rfl (lv_at hl 1 rfl) ?_
  refine lv_iload_n hx hb dX7_waysMeet_27 rfl (lv_at hl 2 rfl) ?_
  refine ro_i (va_runV (As := [.int x1]) (rest := []) ⟨hx, hb, hml, hown, hts⟩ (c_X7_codeOf l hw) (kRX7_33 (h := 0) hts (Nat.le_trans (Nat.le_of_ble_eq_true rfl) hRf) (Nat.le_trans (Nat.le_of_ble_eq_true rfl) hRl)) (preX7 hK hN hP) rfl rfl hl.1 rfl (lv_room (Nat.le_of_ble_eq_true rfl)) dX7_waysMeet_28 ⟨Nat.zero_le _, Nat.zero_le _⟩) (fun r_6 hw => ?_)
  refine lv_aload_n hx hb dX7_waysMeet_31 rfl (lv_at hl 1 rfl) ?_
  refine lv_iload_n hx hb dX7_waysMeet_32 rfl (lv_at hl 4 rfl) ?_
  refine ro_i (va_runV (As := [.int x3]) (rest := [.int r_6]) ⟨hx, hb, hml, hown, hts⟩ (c_X7_codeOf l hw) (kRX7_33 (h := 0) hts (Nat.le_trans (Nat.le_of_ble_eq_true rfl) hRf) (Nat.le_trans (Nat.le_of_ble_eq_true rfl) hRl)) (preX7 hK hN hP) rfl rfl hl.1 rfl (lv_room (Nat.le_of_ble_eq_true rfl)) dX7_waysMeet_33 ⟨Nat.zero_le _, Nat.zero_le _⟩) (fun r_7 hw => ?_)
  refine lv_ixor hx hb dX7_waysMeet_36 ?_
  refine lv_iload hx hb dX7_waysMeet_37 (lv_at hl 0 rfl) ?_
  refine lv_iconst (v := ((-1) : Int32)) hx hb dX7_waysMeet_39 (by decide) ?_
  refine lv_ixor hx hb dX7_waysMeet_40 ?_
  refine lv_iand hx hb dX7_waysMeet_41 ?_
  refine lv_if_ne (tgt := 49) hx hb dX7_waysMeet_42 (by decide) (fun c_8 => ?_) (fun c_8 => ?_)
  · have hw := hw.2 c_8
    refine lv_iconst (v := (0 : Int32)) hx hb dX7_waysMeet_49 (by decide) ?_
    exact rt_z hx hb hr hlocks rfl hw dX7_waysMeet_50
  · have hw := hw.1 c_8
    refine lv_iconst (v := (1 : Int32)) hx hb dX7_waysMeet_45 (by decide) ?_
    refine lv_goto (tgt := 50) hx hb dX7_waysMeet_46 (by decide) ?_
    exact rt_z hx hb hr hlocks rfl hw dX7_waysMeet_50
set_option maxHeartbeats 4000000 in
set_option maxRecDepth 100000 in
theorem t_X7_isWild_19 {p : Program} {l : Launch} {e : Env} {R : Room} {s : State} {m : MethodId} {args : Array Value} {below : List Frame} {meth : Method} {c : Code} {D : va_G} {q : Nat → Nat} {cA : Nat → ClassId} {Fc_unkept : Int32} {Fc_tablesRead : Int32} {Pg_letters : Nat → Int32} {Pg_size : Int32} {Pg_fault : Int32} {Pg_rows : Int32} {Pg_inRow : Int32} {Pg_width : Int32} {Fl_entries : Nat → Int32} {Fl_states : Int32} {Fl_columns : Int32} {Fl_moves : Int32} {Fl_stables : Int32} {Fl_amiss : Int32} {Fl_normal : Int32} {Pt_lessers : Nat → Int32} {Pt_greaters : Nat → Int32} {Pt_size : Int32} {Lc_signals : Nat → Int32} {Lc_kept : Nat → Int64} {Lc_keptFrom : Nat → Int64} {Lc_candidates : Int32} {Lc_size : Int32} {Sc_signals : Nat → Int32} {Sc_codes : Nat → Int32} {Sc_size : Int32} {Ai_codes : Nat → Int32} {Ai_bits : Int32} {Cu_seen : Nat → Int32} {Cu_inThrees : Nat → Int32} {Cu_all : Int32} {Lo_asked : Nat → Nat → Int32} {Lo_ones : Nat → Nat → Int32} {Lo_sum : Nat → Nat → Int32} {Lo_wideSize : Nat → Int32} {Lo_sumSize : Nat → Int32} {Lo_flickers : Nat → Int32} {Lo_ready : Nat → Int32} {Wa_at : Int32} {Wa_turns : Int32} {Wa_changes : Int32} {post : Int32 → Prop} {KE : Prop} {x2 : Int32} {x3 : Int32} {x4 : Int32} (X : kC p R s m args meth c cX7_isWild RX7 7 (some .boolean) 2) (hK : va_K D vwCl (tyC cA) s) (hN : nwC s) (hP : va_P D vwCl (wC q cA Fc_unkept Fc_tablesRead Pg_letters Pg_size Pg_fault Pg_rows Pg_inRow Pg_width Fl_entries Fl_states Fl_columns Fl_moves Fl_stables Fl_amiss Fl_normal Pt_lessers Pt_greaters Pt_size Lc_signals Lc_kept Lc_keptFrom Lc_candidates Lc_size Sc_signals Sc_codes Sc_size Ai_codes Ai_bits Cu_seen Cu_inThrees Cu_all Lo_asked Lo_ones Lo_sum Lo_wideSize Lo_sumSize Lo_flickers Lo_ready Wa_at Wa_turns Wa_changes) s.heap) (hE : KE  → ∀ (ls : Array Slot), lv_has ls 7 [] → W p l e R s m args below meth c s.heap [] 0 0 (MQ below (qRi post) args s 0 0 (fun _ => False)) (F0 m 72 ls [])) : ∀ (n : Nat) (x5 : Int32), w_X7_isWild_19 post KE Fl_entries Fl_states Fl_columns Sc_codes x2 x3 x4 n x5 → ∀ (ls : Array Slot), lv_has ls 7 [(0, .ref (q 12)), (1, .ref (q 3)), (2, .int x2), (3, .int x3), (4, .int x4), (5, .int x5)] → W p l e R s m args below meth c s.heap [] 0 0 (MQ below (qRi post) args s 0 0 (fun _ => False)) (F0 m 19 ls []) := by
  obtain ⟨hx, hb, hml, hown, hts, hr, hlocks, hRf, hRl⟩ := id X
  intro n
  induction n with
  | zero => intro x5 hw; exact (show False from hw).elim
  | succ n ih =>
    intro x5 hw ls hl
    refine lv_iload hx hb dX7_isWild_19 (lv_at hl 5 rfl) ?_
    refine lv_aload_n hx hb dX7_isWild_21 rfl (lv_at hl 1 rfl) ?_
    refine gRX7_53 hx hb hown hts hK hN hP dX7_isWild_22 ?_
    refine lv_icmp_ge (tgt := 72) hx hb dX7_isWild_25 (by decide) (fun c_3 => ?_) (fun c_3 => ?_)
    · have hw := hw.1 c_3
      exact hE hw ls (lv_sub hl [] rfl)
    · have hw := hw.2 c_3
      refine lv_aload_n hx hb dX7_isWild_28 rfl (lv_at hl 1 rfl) ?_
      refine lv_iload hx hb dX7_isWild_29 (lv_at hl 5 rfl) ?_
      refine lv_iload_n hx hb dX7_isWild_31 rfl (lv_at hl 3 rfl) ?_
      refine ro_i (va_runV (As := [.int x5, .int x3]) (rest := []) ⟨hx, hb, hml, hown, hts⟩ (c_X2_next l hw) (kRX7_65 (h := 1) hts (Nat.le_trans (Nat.le_of_ble_eq_true rfl) hRf) (Nat.le_trans (Nat.le_of_ble_eq_true rfl) hRl)) (preX2 hK hN hP) rfl rfl hl.1 rfl (lv_room (Nat.le_of_ble_eq_true rfl)) dX7_isWild_32 ⟨Nat.zero_le _, Nat.zero_le _⟩) (fun r_4 hw => ?_)
      refine lv_istore (lv' := [(6, .int r_4), (0, .ref (q 12)), (1, .ref (q 3)), (2, .int x2), (3, .int x3), (4, .int x4), (5, .int x5)]) hx hb dX7_isWild_35 hl (by decide) rfl (fun ls hl => ?_)
      refine lv_iload hx hb dX7_isWild_37 (lv_at hl 0 rfl) ?_
      refine lv_iconst (v := ((-1) : Int32)) hx hb dX7_isWild_39 (by decide) ?_
      refine lv_icmp_eq (tgt := 66) hx hb dX7_isWild_40 (by decide) (fun c_5 => ?_) (fun c_5 => ?_)
      · have hw := hw.1 c_5
        obtain ⟨x5_6, e_6⟩ : ∃ z : Int32, z = x5 + (1 : Int32) := ⟨_, rfl⟩
        have hw := hw x5_6 e_6
        refine lv_iinc (v := x5_6) (lv' := [(5, .int x5_6), (6, .int r_4), (0, .ref (q 12)), (1, .ref (q 3)), (2, .int x2), (3, .int x3), (4, .int x4)]) hx hb dX7_isWild_66 hl (k := 6) rfl (by rw [e_6]; rfl) (by decide) rfl (fun ls hl => ?_)
        refine lv_goto (tgt := 19) hx hb dX7_isWild_69 (by decide) ?_
        exact ih _ hw ls (lv_sub hl [2, 3, 4, 5, 6, 0] rfl)
      · have hw := hw.2 c_5
        refine lv_iload hx hb dX7_isWild_43 (lv_at hl 0 rfl) ?_
        refine lv_iload hx hb dX7_isWild_45 (lv_at hl 5 rfl) ?_
        refine lv_icmp_eq (tgt := 66) hx hb dX7_isWild_47 (by decide) (fun c_7 => ?_) (fun c_7 => ?_)
        · have hw := hw.1 c_7
          obtain ⟨x5_8, e_8⟩ : ∃ z : Int32, z = x5 + (1 : Int32) := ⟨_, rfl⟩
          have hw := hw x5_8 e_8
          refine lv_iinc (v := x5_8) (lv' := [(5, .int x5_8), (6, .int r_4), (0, .ref (q 12)), (1, .ref (q 3)), (2, .int x2), (3, .int x3), (4, .int x4)]) hx hb dX7_isWild_66 hl (k := 6) rfl (by rw [e_8]; rfl) (by decide) rfl (fun ls hl => ?_)
          refine lv_goto (tgt := 19) hx hb dX7_isWild_69 (by decide) ?_
          exact ih _ hw ls (lv_sub hl [2, 3, 4, 5, 6, 0] rfl)
        · have hw := hw.2 c_7
          refine lv_aload_n hx hb dX7_isWild_50 rfl (lv_at hl 1 rfl) ?_
          refine lv_iload_n hx hb dX7_isWild_51 rfl (lv_at hl 3 rfl) ?_
          refine lv_iload hx hb dX7_isWild_52 (lv_at hl 5 rfl) ?_
          refine lv_iload hx hb dX7_isWild_54 (lv_at hl 6 rfl) ?_
          refine lv_iload hx hb dX7_isWild_56 (lv_at hl 0 rfl) ?_
          refine ro_i (va_runV (As := [.int x2, .int x4, .int x5, .int r_4]) (rest := []) ⟨hx, hb, hml, hown, hts⟩ (c_X7_waysMeet l hw) (kRX7_69 (h := 1) hts (Nat.le_trans (Nat.le_of_ble_eq_true rfl) hRf) (Nat.le_trans (Nat.le_of_ble_eq_true rfl) hRl)) (preX7 hK hN hP) rfl rfl hl.1 rfl (lv_room (Nat.le_of_ble_eq_true rfl)) dX7_isWild_58 ⟨Nat.zero_le _, Nat.zero_le _⟩) (fun r_9 hw => ?_)
          refine lv_if_eq (tgt := 66) hx hb dX7_isWild_61 (by decide) (fun c_10 => ?_) (fun c_10 => ?_)
          · have hw := hw.1 c_10
            obtain ⟨x5_11, e_11⟩ : ∃ z : Int32, z = x5 + (1 : Int32) := ⟨_, rfl⟩
            have hw := hw x5_11 e_11
            refine lv_iinc (v := x5_11) (lv' := [(5, .int x5_11), (6, .int r_4), (0, .ref (q 12)), (1, .ref (q 3)), (2, .int x2), (3, .int x3), (4, .int x4)]) hx hb dX7_isWild_66 hl (k := 6) rfl (by rw [e_11]; rfl) (by decide) rfl (fun ls hl => ?_)
            refine lv_goto (tgt := 19) hx hb dX7_isWild_69 (by decide) ?_
            exact ih _ hw ls (lv_sub hl [2, 3, 4, 5, 6, 0] rfl)
          · have hw := hw.2 c_10
            refine lv_iconst (v := (1 : Int32)) hx hb dX7_isWild_64 (by decide) ?_
            exact rt_z hx hb hr hlocks rfl hw dX7_isWild_65
set_option maxHeartbeats 4000000 in
set_option maxRecDepth 100000 in
theorem c_X7_isWild (l : Launch) {D : va_G} {q : Nat → Nat} {cA : Nat → ClassId} {Fc_unkept : Int32} {Fc_tablesRead : Int32} {Pg_letters : Nat → Int32} {Pg_size : Int32} {Pg_fault : Int32} {Pg_rows : Int32} {Pg_inRow : Int32} {Pg_width : Int32} {Fl_entries : Nat → Int32} {Fl_states : Int32} {Fl_columns : Int32} {Fl_moves : Int32} {Fl_stables : Int32} {Fl_amiss : Int32} {Fl_normal : Int32} {Pt_lessers : Nat → Int32} {Pt_greaters : Nat → Int32} {Pt_size : Int32} {Lc_signals : Nat → Int32} {Lc_kept : Nat → Int64} {Lc_keptFrom : Nat → Int64} {Lc_candidates : Int32} {Lc_size : Int32} {Sc_signals : Nat → Int32} {Sc_codes : Nat → Int32} {Sc_size : Int32} {Ai_codes : Nat → Int32} {Ai_bits : Int32} {Cu_seen : Nat → Int32} {Cu_inThrees : Nat → Int32} {Cu_all : Int32} {Lo_asked : Nat → Nat → Int32} {Lo_ones : Nat → Nat → Int32} {Lo_sum : Nat → Nat → Int32} {Lo_wideSize : Nat → Int32} {Lo_sumSize : Nat → Int32} {Lo_flickers : Nat → Int32} {Lo_ready : Nat → Int32} {Wa_at : Int32} {Wa_turns : Int32} {Wa_changes : Int32} {post : Int32 → Prop} {x2 : Int32} {x3 : Int32} (hw : wp_X7_isWild post Fl_entries Fl_states Fl_columns Sc_codes x2 x3) : Met l yX7_isWild (Cond.code yX7_isWild cX7_isWild 7 (some .boolean) :: wsL_law) (rmH 2) (va_Pc [.ref (q 12), .ref (q 3), .int x2, .int x3] (fun U => va_P D vwCl (wC q cA Fc_unkept Fc_tablesRead Pg_letters Pg_size Pg_fault Pg_rows Pg_inRow Pg_width Fl_entries Fl_states Fl_columns Fl_moves Fl_stables Fl_amiss Fl_normal Pt_lessers Pt_greaters Pt_size Lc_signals Lc_kept Lc_keptFrom Lc_candidates Lc_size Sc_signals Sc_codes Sc_size Ai_codes Ai_bits Cu_seen Cu_inThrees Cu_all Lo_asked Lo_ones Lo_sum Lo_wideSize Lo_sumSize Lo_flickers Lo_ready Wa_at Wa_turns Wa_changes) U.heap ∧ va_K D vwCl (tyC cA) U ∧ nwC U)) (qRi post) 0 0 (fun _ => False) := by
  refine Met.ofW (cc := cX7_isWild) (maxL := 7) (ret := (some .boolean)) (by decide) rfl ?_
  intro p e s m args below meth c s₁ B hml hv
  obtain ⟨rfl, hP, hK, hN⟩ := hv
  have X : kC p (headSpec (Cond.code yX7_isWild cX7_isWild 7 (some .boolean) :: wsL_law) (rmH 2)).room s m _ meth c cX7_isWild RX7 7 (some .boolean) 2 := ⟨B.exec, B.bytes, hml, findClass_of_methodNamed B.named, fun w h => atoms_spec (ws := Cond.code yX7_isWild cX7_isWild 7 (some .boolean) :: wsL_law) B.pre w (List.mem_cons_of_mem _ h), B.returns, B.notSynchronized, Nat.le_refl _, Nat.le_refl _⟩
  obtain ⟨hx, hb, hml, hown, hts, hr, hlocks, hRf, hRl⟩ := id X
  have hl := lv_entry ([.ref (q 12), .ref (q 3), .int x2, .int x3]) (n := 7) (Nat.le_of_ble_eq_true rfl)
  rw [lg_entry_eq]
  generalize (lg_sl ([.ref (q 12), .ref (q 3), .int x2, .int x3]) ++ List.replicate (7 - (lg_sl ([.ref (q 12), .ref (q 3), .int x2, .int x3])).length) Slot.unset).toArray = ls at hl ⊢
  have hl : lv_has ls 7 [(0, .ref (q 12)), (1, .ref (q 3)), (2, .int x2), (3, .int x3)] := hl
  refine lv_aload_n hx hb dX7_isWild_0 rfl (lv_at hl 1 rfl) ?_
  refine lv_iload_n hx hb dX7_isWild_1 rfl (lv_at hl 2 rfl) ?_
  refine lv_iload_n hx hb dX7_isWild_2 rfl (lv_at hl 3 rfl) ?_
  refine ro_i (va_runV (As := [.int x2, .int x3]) (rest := []) ⟨hx, hb, hml, hown, hts⟩ (c_X2_next l hw) (kRX7_65 (h := 1) hts (Nat.le_trans (Nat.le_of_ble_eq_true rfl) hRf) (Nat.le_trans (Nat.le_of_ble_eq_true rfl) hRl)) (preX2 hK hN hP) rfl rfl hl.1 rfl (lv_room (Nat.le_of_ble_eq_true rfl)) dX7_isWild_3 ⟨Nat.zero_le _, Nat.zero_le _⟩) (fun r_1 hw => ?_)
  refine lv_istore (lv' := [(4, .int r_1), (0, .ref (q 12)), (1, .ref (q 3)), (2, .int x2), (3, .int x3)]) hx hb dX7_isWild_6 hl (by decide) rfl (fun ls hl => ?_)
  refine lv_iload hx hb dX7_isWild_8 (lv_at hl 0 rfl) ?_
  refine lv_iconst (v := ((-1) : Int32)) hx hb dX7_isWild_10 (by decide) ?_
  refine lv_icmp_ne (tgt := 16) hx hb dX7_isWild_11 (by decide) (fun c_2 => ?_) (fun c_2 => ?_)
  · have hw := hw.2 c_2
    refine lv_iconst (v := (0 : Int32)) hx hb dX7_isWild_16 (by decide) ?_
    refine lv_istore (lv' := [(5, .int (0 : Int32)), (4, .int r_1), (0, .ref (q 12)), (1, .ref (q 3)), (2, .int x2), (3, .int x3)]) hx hb dX7_isWild_17 hl (by decide) rfl (fun ls hl => ?_)
    obtain ⟨n_12, hw⟩ := hw
    refine t_X7_isWild_19 X hK hN hP (fun  hw ls hl => ?_) n_12 _ hw ls (lv_sub hl [2, 3, 4, 5, 1, 0] rfl)
    refine lv_iconst (v := (0 : Int32)) hx hb dX7_isWild_72 (by decide) ?_
    exact rt_z hx hb hr hlocks rfl hw dX7_isWild_73
  · have hw := hw.1 c_2
    refine lv_iconst (v := (0 : Int32)) hx hb dX7_isWild_14 (by decide) ?_
    exact rt_z hx hb hr hlocks rfl hw dX7_isWild_15
set_option maxHeartbeats 4000000 in
set_option maxRecDepth 100000 in
theorem t_X7_firstWild_12 {p : Program} {l : Launch} {e : Env} {R : Room} {s : State} {m : MethodId} {args : Array Value} {below : List Frame} {meth : Method} {c : Code} {D : va_G} {q : Nat → Nat} {cA : Nat → ClassId} {Fc_unkept : Int32} {Fc_tablesRead : Int32} {Pg_letters : Nat → Int32} {Pg_size : Int32} {Pg_fault : Int32} {Pg_rows : Int32} {Pg_inRow : Int32} {Pg_width : Int32} {Fl_entries : Nat → Int32} {Fl_states : Int32} {Fl_columns : Int32} {Fl_moves : Int32} {Fl_stables : Int32} {Fl_amiss : Int32} {Fl_normal : Int32} {Pt_lessers : Nat → Int32} {Pt_greaters : Nat → Int32} {Pt_size : Int32} {Lc_signals : Nat → Int32} {Lc_kept : Nat → Int64} {Lc_keptFrom : Nat → Int64} {Lc_candidates : Int32} {Lc_size : Int32} {Sc_signals : Nat → Int32} {Sc_codes : Nat → Int32} {Sc_size : Int32} {Ai_codes : Nat → Int32} {Ai_bits : Int32} {Cu_seen : Nat → Int32} {Cu_inThrees : Nat → Int32} {Cu_all : Int32} {Lo_asked : Nat → Nat → Int32} {Lo_ones : Nat → Nat → Int32} {Lo_sum : Nat → Nat → Int32} {Lo_wideSize : Nat → Int32} {Lo_sumSize : Nat → Int32} {Lo_flickers : Nat → Int32} {Lo_ready : Nat → Int32} {Wa_at : Int32} {Wa_turns : Int32} {Wa_changes : Int32} {post : Int32 → Prop} {KE : Prop} {x2 : Int32} (X : kC p R s m args meth c cX7_firstWild RX7 4 (some .int) 3) (hK : va_K D vwCl (tyC cA) s) (hN : nwC s) (hP : va_P D vwCl (wC q cA Fc_unkept Fc_tablesRead Pg_letters Pg_size Pg_fault Pg_rows Pg_inRow Pg_width Fl_entries Fl_states Fl_columns Fl_moves Fl_stables Fl_amiss Fl_normal Pt_lessers Pt_greaters Pt_size Lc_signals Lc_kept Lc_keptFrom Lc_candidates Lc_size Sc_signals Sc_codes Sc_size Ai_codes Ai_bits Cu_seen Cu_inThrees Cu_all Lo_asked Lo_ones Lo_sum Lo_wideSize Lo_sumSize Lo_flickers Lo_ready Wa_at Wa_turns Wa_changes) s.heap) (hE : KE  → ∀ (ls : Array Slot), lv_has ls 4 [(0, .ref (q 12)), (1, .ref (q 3)), (2, .int x2)] → W p l e R s m args below meth c s.heap [] 0 0 (MQ below (qRi post) args s 0 0 (fun _ => False)) (F0 m 42 ls [])) : ∀ (n : Nat) (x3 : Int32), w_X7_firstWild_12 post KE Fl_entries Fl_states Fl_columns Sc_codes x2 n x3 → ∀ (ls : Array Slot), lv_has ls 4 [(0, .ref (q 12)), (1, .ref (q 3)), (2, .int x2), (3, .int x3)] → W p l e R s m args below meth c s.heap [] 0 0 (MQ below (qRi post) args s 0 0 (fun _ => False)) (F0 m 12 ls []) := by
  obtain ⟨hx, hb, hml, hown, hts, hr, hlocks, hRf, hRl⟩ := id X
  intro n
  induction n with
  | zero => intro x3 hw; exact (show False from hw).elim
  | succ n ih =>
    intro x3 hw ls hl
    refine lv_iload_n hx hb dX7_firstWild_12 rfl (lv_at hl 3 rfl) ?_
    refine lv_aload_n hx hb dX7_firstWild_13 rfl (lv_at hl 1 rfl) ?_
    refine gRX7_58 hx hb hown hts hK hN hP dX7_firstWild_14 ?_
    refine lv_icmp_ge (tgt := 42) hx hb dX7_firstWild_17 (by decide) (fun c_2 => ?_) (fun c_2 => ?_)
    · have hw := hw.1 c_2
      exact hE hw ls (lv_sub hl [0, 1, 2] rfl)
    · have hw := hw.2 c_2
      refine lv_aload_n hx hb dX7_firstWild_20 rfl (lv_at hl 0 rfl) ?_
      refine lv_aload_n hx hb dX7_firstWild_21 rfl (lv_at hl 1 rfl) ?_
      refine lv_iload_n hx hb dX7_firstWild_22 rfl (lv_at hl 2 rfl) ?_
      refine lv_iload_n hx hb dX7_firstWild_23 rfl (lv_at hl 3 rfl) ?_
      refine ro_i (va_runV (As := [.ref (q 3), .int x2, .int x3]) (rest := []) ⟨hx, hb, hml, hown, hts⟩ (c_X7_isWild l hw) (kRX7_61 (h := 2) hts (Nat.le_trans (Nat.le_of_ble_eq_true rfl) hRf) (Nat.le_trans (Nat.le_of_ble_eq_true rfl) hRl)) (preX7 hK hN hP) rfl rfl hl.1 rfl (lv_room (Nat.le_of_ble_eq_true rfl)) dX7_firstWild_24 ⟨Nat.zero_le _, Nat.zero_le _⟩) (fun r_3 hw => ?_)
      refine lv_if_eq (tgt := 36) hx hb dX7_firstWild_27 (by decide) (fun c_4 => ?_) (fun c_4 => ?_)
      · have hw := hw.1 c_4
        obtain ⟨x3_5, e_5⟩ : ∃ z : Int32, z = x3 + (1 : Int32) := ⟨_, rfl⟩
        have hw := hw x3_5 e_5
        refine lv_iinc (v := x3_5) (lv' := [(3, .int x3_5), (0, .ref (q 12)), (1, .ref (q 3)), (2, .int x2)]) hx hb dX7_firstWild_36 hl (k := 3) rfl (by rw [e_5]; rfl) (by decide) rfl (fun ls hl => ?_)
        refine lv_goto (tgt := 12) hx hb dX7_firstWild_39 (by decide) ?_
        exact ih _ hw ls (lv_sub hl [1, 2, 3, 0] rfl)
      · have hw := hw.2 c_4
        refine lv_iconst (v := (4 : Int32)) hx hb dX7_firstWild_30 (by decide) ?_
        refine lv_iload_n hx hb dX7_firstWild_31 rfl (lv_at hl 2 rfl) ?_
        refine lv_imul hx hb dX7_firstWild_32 ?_
        refine lv_iload_n hx hb dX7_firstWild_33 rfl (lv_at hl 3 rfl) ?_
        refine lv_iadd hx hb dX7_firstWild_34 ?_
        exact rt_i hx hb hr hlocks hw dX7_firstWild_35
set_option maxHeartbeats 4000000 in
set_option maxRecDepth 100000 in
theorem t_X7_firstWild_2 {p : Program} {l : Launch} {e : Env} {R : Room} {s : State} {m : MethodId} {args : Array Value} {below : List Frame} {meth : Method} {c : Code} {D : va_G} {q : Nat → Nat} {cA : Nat → ClassId} {Fc_unkept : Int32} {Fc_tablesRead : Int32} {Pg_letters : Nat → Int32} {Pg_size : Int32} {Pg_fault : Int32} {Pg_rows : Int32} {Pg_inRow : Int32} {Pg_width : Int32} {Fl_entries : Nat → Int32} {Fl_states : Int32} {Fl_columns : Int32} {Fl_moves : Int32} {Fl_stables : Int32} {Fl_amiss : Int32} {Fl_normal : Int32} {Pt_lessers : Nat → Int32} {Pt_greaters : Nat → Int32} {Pt_size : Int32} {Lc_signals : Nat → Int32} {Lc_kept : Nat → Int64} {Lc_keptFrom : Nat → Int64} {Lc_candidates : Int32} {Lc_size : Int32} {Sc_signals : Nat → Int32} {Sc_codes : Nat → Int32} {Sc_size : Int32} {Ai_codes : Nat → Int32} {Ai_bits : Int32} {Cu_seen : Nat → Int32} {Cu_inThrees : Nat → Int32} {Cu_all : Int32} {Lo_asked : Nat → Nat → Int32} {Lo_ones : Nat → Nat → Int32} {Lo_sum : Nat → Nat → Int32} {Lo_wideSize : Nat → Int32} {Lo_sumSize : Nat → Int32} {Lo_flickers : Nat → Int32} {Lo_ready : Nat → Int32} {Wa_at : Int32} {Wa_turns : Int32} {Wa_changes : Int32} {post : Int32 → Prop} {KE : Prop} (X : kC p R s m args meth c cX7_firstWild RX7 4 (some .int) 3) (hK : va_K D vwCl (tyC cA) s) (hN : nwC s) (hP : va_P D vwCl (wC q cA Fc_unkept Fc_tablesRead Pg_letters Pg_size Pg_fault Pg_rows Pg_inRow Pg_width Fl_entries Fl_states Fl_columns Fl_moves Fl_stables Fl_amiss Fl_normal Pt_lessers Pt_greaters Pt_size Lc_signals Lc_kept Lc_keptFrom Lc_candidates Lc_size Sc_signals Sc_codes Sc_size Ai_codes Ai_bits Cu_seen Cu_inThrees Cu_all Lo_asked Lo_ones Lo_sum Lo_wideSize Lo_sumSize Lo_flickers Lo_ready Wa_at Wa_turns Wa_changes) s.heap) (hE : KE  → ∀ (ls : Array Slot), lv_has ls 4 [] → W p l e R s m args below meth c s.heap [] 0 0 (MQ below (qRi post) args s 0 0 (fun _ => False)) (F0 m 48 ls [])) : ∀ (n : Nat) (x2 : Int32), w_X7_firstWild_2 post KE Fl_entries Fl_states Fl_columns Sc_codes n x2 → ∀ (ls : Array Slot), lv_has ls 4 [(0, .ref (q 12)), (1, .ref (q 3)), (2, .int x2)] → W p l e R s m args below meth c s.heap [] 0 0 (MQ below (qRi post) args s 0 0 (fun _ => False)) (F0 m 2 ls []) := by
  obtain ⟨hx, hb, hml, hown, hts, hr, hlocks, hRf, hRl⟩ := id X
  intro n
  induction n with
  | zero => intro x2 hw; exact (show False from hw).elim
  | succ n ih =>
    intro x2 hw ls hl
    refine lv_iload_n hx hb dX7_firstWild_2 rfl (lv_at hl 2 rfl) ?_
    refine lv_aload_n hx hb dX7_firstWild_3 rfl (lv_at hl 1 rfl) ?_
    refine gRX7_53 hx hb hown hts hK hN hP dX7_firstWild_4 ?_
    refine lv_icmp_ge (tgt := 48) hx hb dX7_firstWild_7 (by decide) (fun c_1 => ?_) (fun c_1 => ?_)
    · have hw := hw.1 c_1
      exact hE hw ls (lv_sub hl [] rfl)
    · have hw := hw.2 c_1
      refine lv_iconst (v := (0 : Int32)) hx hb dX7_firstWild_10 (by decide) ?_
      refine lv_istore_n (lv' := [(3, .int (0 : Int32)), (0, .ref (q 12)), (1, .ref (q 3)), (2, .int x2)]) hx hb dX7_firstWild_11 rfl hl (by decide) rfl (fun ls hl => ?_)
      obtain ⟨n_6, hw⟩ := hw
      refine t_X7_firstWild_12 X hK hN hP (fun  hw ls hl => ?_) n_6 _ hw ls (lv_sub hl [1, 2, 3, 0] rfl)
      obtain ⟨x2_7, e_7⟩ : ∃ z : Int32, z = x2 + (1 : Int32) := ⟨_, rfl⟩
      have hw := hw x2_7 e_7
      refine lv_iinc (v := x2_7) (lv' := [(2, .int x2_7), (0, .ref (q 12)), (1, .ref (q 3))]) hx hb dX7_firstWild_42 hl (k := 2) rfl (by rw [e_7]; rfl) (by decide) rfl (fun ls hl => ?_)
      refine lv_goto (tgt := 2) hx hb dX7_firstWild_45 (by decide) ?_
      exact ih _ hw ls (lv_sub hl [1, 2, 0] rfl)
set_option maxHeartbeats 4000000 in
set_option maxRecDepth 100000 in
theorem c_X7_firstWild (l : Launch) {D : va_G} {q : Nat → Nat} {cA : Nat → ClassId} {Fc_unkept : Int32} {Fc_tablesRead : Int32} {Pg_letters : Nat → Int32} {Pg_size : Int32} {Pg_fault : Int32} {Pg_rows : Int32} {Pg_inRow : Int32} {Pg_width : Int32} {Fl_entries : Nat → Int32} {Fl_states : Int32} {Fl_columns : Int32} {Fl_moves : Int32} {Fl_stables : Int32} {Fl_amiss : Int32} {Fl_normal : Int32} {Pt_lessers : Nat → Int32} {Pt_greaters : Nat → Int32} {Pt_size : Int32} {Lc_signals : Nat → Int32} {Lc_kept : Nat → Int64} {Lc_keptFrom : Nat → Int64} {Lc_candidates : Int32} {Lc_size : Int32} {Sc_signals : Nat → Int32} {Sc_codes : Nat → Int32} {Sc_size : Int32} {Ai_codes : Nat → Int32} {Ai_bits : Int32} {Cu_seen : Nat → Int32} {Cu_inThrees : Nat → Int32} {Cu_all : Int32} {Lo_asked : Nat → Nat → Int32} {Lo_ones : Nat → Nat → Int32} {Lo_sum : Nat → Nat → Int32} {Lo_wideSize : Nat → Int32} {Lo_sumSize : Nat → Int32} {Lo_flickers : Nat → Int32} {Lo_ready : Nat → Int32} {Wa_at : Int32} {Wa_turns : Int32} {Wa_changes : Int32} {post : Int32 → Prop}  (hw : wp_X7_firstWild post Fl_entries Fl_states Fl_columns Sc_codes ) : Met l yX7_firstWild (Cond.code yX7_firstWild cX7_firstWild 4 (some .int) :: wsL_law) (rmH 3) (va_Pc [.ref (q 12), .ref (q 3)] (fun U => va_P D vwCl (wC q cA Fc_unkept Fc_tablesRead Pg_letters Pg_size Pg_fault Pg_rows Pg_inRow Pg_width Fl_entries Fl_states Fl_columns Fl_moves Fl_stables Fl_amiss Fl_normal Pt_lessers Pt_greaters Pt_size Lc_signals Lc_kept Lc_keptFrom Lc_candidates Lc_size Sc_signals Sc_codes Sc_size Ai_codes Ai_bits Cu_seen Cu_inThrees Cu_all Lo_asked Lo_ones Lo_sum Lo_wideSize Lo_sumSize Lo_flickers Lo_ready Wa_at Wa_turns Wa_changes) U.heap ∧ va_K D vwCl (tyC cA) U ∧ nwC U)) (qRi post) 0 0 (fun _ => False) := by
  refine Met.ofW (cc := cX7_firstWild) (maxL := 4) (ret := (some .int)) (by decide) rfl ?_
  intro p e s m args below meth c s₁ B hml hv
  obtain ⟨rfl, hP, hK, hN⟩ := hv
  have X : kC p (headSpec (Cond.code yX7_firstWild cX7_firstWild 4 (some .int) :: wsL_law) (rmH 3)).room s m _ meth c cX7_firstWild RX7 4 (some .int) 3 := ⟨B.exec, B.bytes, hml, findClass_of_methodNamed B.named, fun w h => atoms_spec (ws := Cond.code yX7_firstWild cX7_firstWild 4 (some .int) :: wsL_law) B.pre w (List.mem_cons_of_mem _ h), B.returns, B.notSynchronized, Nat.le_refl _, Nat.le_refl _⟩
  obtain ⟨hx, hb, hml, hown, hts, hr, hlocks, hRf, hRl⟩ := id X
  have hl := lv_entry ([.ref (q 12), .ref (q 3)]) (n := 4) (Nat.le_of_ble_eq_true rfl)
  rw [lg_entry_eq]
  generalize (lg_sl ([.ref (q 12), .ref (q 3)]) ++ List.replicate (4 - (lg_sl ([.ref (q 12), .ref (q 3)])).length) Slot.unset).toArray = ls at hl ⊢
  have hl : lv_has ls 4 [(0, .ref (q 12)), (1, .ref (q 3))] := hl
  refine lv_iconst (v := (0 : Int32)) hx hb dX7_firstWild_0 (by decide) ?_
  refine lv_istore_n (lv' := [(2, .int (0 : Int32)), (0, .ref (q 12)), (1, .ref (q 3))]) hx hb dX7_firstWild_1 rfl hl (by decide) rfl (fun ls hl => ?_)
  obtain ⟨n_8, hw⟩ := hw
  refine t_X7_firstWild_2 X hK hN hP (fun  hw ls hl => ?_) n_8 _ hw ls (lv_sub hl [1, 2, 0] rfl)
  refine lv_iconst (v := ((-1) : Int32)) hx hb dX7_firstWild_48 (by decide) ?_
  exact rt_i hx hb hr hlocks hw dX7_firstWild_49
set_option maxHeartbeats 4000000 in
set_option maxRecDepth 100000 in
theorem t_X7_countWild_15 {p : Program} {l : Launch} {e : Env} {R : Room} {s : State} {m : MethodId} {args : Array Value} {below : List Frame} {meth : Method} {c : Code} {D : va_G} {q : Nat → Nat} {cA : Nat → ClassId} {Fc_unkept : Int32} {Fc_tablesRead : Int32} {Pg_letters : Nat → Int32} {Pg_size : Int32} {Pg_fault : Int32} {Pg_rows : Int32} {Pg_inRow : Int32} {Pg_width : Int32} {Fl_entries : Nat → Int32} {Fl_states : Int32} {Fl_columns : Int32} {Fl_moves : Int32} {Fl_stables : Int32} {Fl_amiss : Int32} {Fl_normal : Int32} {Pt_lessers : Nat → Int32} {Pt_greaters : Nat → Int32} {Pt_size : Int32} {Lc_signals : Nat → Int32} {Lc_kept : Nat → Int64} {Lc_keptFrom : Nat → Int64} {Lc_candidates : Int32} {Lc_size : Int32} {Sc_signals : Nat → Int32} {Sc_codes : Nat → Int32} {Sc_size : Int32} {Ai_codes : Nat → Int32} {Ai_bits : Int32} {Cu_seen : Nat → Int32} {Cu_inThrees : Nat → Int32} {Cu_all : Int32} {Lo_asked : Nat → Nat → Int32} {Lo_ones : Nat → Nat → Int32} {Lo_sum : Nat → Nat → Int32} {Lo_wideSize : Nat → Int32} {Lo_sumSize : Nat → Int32} {Lo_flickers : Nat → Int32} {Lo_ready : Nat → Int32} {Wa_at : Int32} {Wa_turns : Int32} {Wa_changes : Int32} {post : Int32 → Prop} {KE : Int32 → Prop} {x3 : Int32} (X : kC p R s m args meth c cX7_countWild RX7 5 (some .int) 3) (hK : va_K D vwCl (tyC cA) s) (hN : nwC s) (hP : va_P D vwCl (wC q cA Fc_unkept Fc_tablesRead Pg_letters Pg_size Pg_fault Pg_rows Pg_inRow Pg_width Fl_entries Fl_states Fl_columns Fl_moves Fl_stables Fl_amiss Fl_normal Pt_lessers Pt_greaters Pt_size Lc_signals Lc_kept Lc_keptFrom Lc_candidates Lc_size Sc_signals Sc_codes Sc_size Ai_codes Ai_bits Cu_seen Cu_inThrees Cu_all Lo_asked Lo_ones Lo_sum Lo_wideSize Lo_sumSize Lo_flickers Lo_ready Wa_at Wa_turns Wa_changes) s.heap) (hE : ∀ (x2 : Int32), KE x2 → ∀ (ls : Array Slot), lv_has ls 5 [(0, .ref (q 12)), (1, .ref (q 3)), (2, .int x2), (3, .int x3)] → W p l e R s m args below meth c s.heap [] 0 0 (MQ below (qRi post) args s 0 0 (fun _ => False)) (F0 m 44 ls [])) : ∀ (n : Nat) (x2 : Int32) (x4 : Int32), w_X7_countWild_15 KE Fl_entries Fl_states Fl_columns Sc_codes x3 n x2 x4 → ∀ (ls : Array Slot), lv_has ls 5 [(0, .ref (q 12)), (1, .ref (q 3)), (2, .int x2), (3, .int x3), (4, .int x4)] → W p l e R s m args below meth c s.heap [] 0 0 (MQ below (qRi post) args s 0 0 (fun _ => False)) (F0 m 15 ls []) := by
  obtain ⟨hx, hb, hml, hown, hts, hr, hlocks, hRf, hRl⟩ := id X
  intro n
  induction n with
  | zero => intro x2 x4 hw; exact (show False from hw).elim
  | succ n ih =>
    intro x2 x4 hw ls hl
    refine lv_iload hx hb dX7_countWild_15 (lv_at hl 4 rfl) ?_
    refine lv_aload_n hx hb dX7_countWild_17 rfl (lv_at hl 1 rfl) ?_
    refine gRX7_58 hx hb hown hts hK hN hP dX7_countWild_18 ?_
    refine lv_icmp_ge (tgt := 44) hx hb dX7_countWild_21 (by decide) (fun c_2 => ?_) (fun c_2 => ?_)
    · have hw := hw.1 c_2
      exact hE _ hw ls (lv_sub hl [0, 1, 2, 3] rfl)
    · have hw := hw.2 c_2
      refine lv_aload_n hx hb dX7_countWild_24 rfl (lv_at hl 0 rfl) ?_
      refine lv_aload_n hx hb dX7_countWild_25 rfl (lv_at hl 1 rfl) ?_
      refine lv_iload_n hx hb dX7_countWild_26 rfl (lv_at hl 3 rfl) ?_
      refine lv_iload hx hb dX7_countWild_27 (lv_at hl 4 rfl) ?_
      refine ro_i (va_runV (As := [.ref (q 3), .int x3, .int x4]) (rest := []) ⟨hx, hb, hml, hown, hts⟩ (c_X7_isWild l hw) (kRX7_61 (h := 2) hts (Nat.le_trans (Nat.le_of_ble_eq_true rfl) hRf) (Nat.le_trans (Nat.le_of_ble_eq_true rfl) hRl)) (preX7 hK hN hP) rfl rfl hl.1 rfl (lv_room (Nat.le_of_ble_eq_true rfl)) dX7_countWild_29 ⟨Nat.zero_le _, Nat.zero_le _⟩) (fun r_3 hw => ?_)
      refine lv_if_eq (tgt := 38) hx hb dX7_countWild_32 (by decide) (fun c_4 => ?_) (fun c_4 => ?_)
      · have hw := hw.1 c_4
        obtain ⟨x4_5, e_5⟩ : ∃ z : Int32, z = x4 + (1 : Int32) := ⟨_, rfl⟩
        have hw := hw x4_5 e_5
        refine lv_iinc (v := x4_5) (lv' := [(4, .int x4_5), (0, .ref (q 12)), (1, .ref (q 3)), (2, .int x2), (3, .int x3)]) hx hb dX7_countWild_38 hl (k := 4) rfl (by rw [e_5]; rfl) (by decide) rfl (fun ls hl => ?_)
        refine lv_goto (tgt := 15) hx hb dX7_countWild_41 (by decide) ?_
        exact ih _ _ hw ls (lv_sub hl [1, 2, 3, 4, 0] rfl)
      · have hw := hw.2 c_4
        obtain ⟨x2_6, e_6⟩ : ∃ z : Int32, z = x2 + (1 : Int32) := ⟨_, rfl⟩
        have hw := hw x2_6 e_6
        refine lv_iinc (v := x2_6) (lv' := [(2, .int x2_6), (0, .ref (q 12)), (1, .ref (q 3)), (3, .int x3), (4, .int x4)]) hx hb dX7_countWild_35 hl (k := 2) rfl (by rw [e_6]; rfl) (by decide) rfl (fun ls hl => ?_)
        obtain ⟨x4_7, e_7⟩ : ∃ z : Int32, z = x4 + (1 : Int32) := ⟨_, rfl⟩
        have hw := hw x4_7 e_7
        refine lv_iinc (v := x4_7) (lv' := [(4, .int x4_7), (2, .int x2_6), (0, .ref (q 12)), (1, .ref (q 3)), (3, .int x3)]) hx hb dX7_countWild_38 hl (k := 4) rfl (by rw [e_7]; rfl) (by decide) rfl (fun ls hl => ?_)
        refine lv_goto (tgt := 15) hx hb dX7_countWild_41 (by decide) ?_
        exact ih _ _ hw ls (lv_sub hl [2, 3, 1, 4, 0] rfl)
set_option maxHeartbeats 4000000 in
set_option maxRecDepth 100000 in
theorem t_X7_countWild_4 {p : Program} {l : Launch} {e : Env} {R : Room} {s : State} {m : MethodId} {args : Array Value} {below : List Frame} {meth : Method} {c : Code} {D : va_G} {q : Nat → Nat} {cA : Nat → ClassId} {Fc_unkept : Int32} {Fc_tablesRead : Int32} {Pg_letters : Nat → Int32} {Pg_size : Int32} {Pg_fault : Int32} {Pg_rows : Int32} {Pg_inRow : Int32} {Pg_width : Int32} {Fl_entries : Nat → Int32} {Fl_states : Int32} {Fl_columns : Int32} {Fl_moves : Int32} {Fl_stables : Int32} {Fl_amiss : Int32} {Fl_normal : Int32} {Pt_lessers : Nat → Int32} {Pt_greaters : Nat → Int32} {Pt_size : Int32} {Lc_signals : Nat → Int32} {Lc_kept : Nat → Int64} {Lc_keptFrom : Nat → Int64} {Lc_candidates : Int32} {Lc_size : Int32} {Sc_signals : Nat → Int32} {Sc_codes : Nat → Int32} {Sc_size : Int32} {Ai_codes : Nat → Int32} {Ai_bits : Int32} {Cu_seen : Nat → Int32} {Cu_inThrees : Nat → Int32} {Cu_all : Int32} {Lo_asked : Nat → Nat → Int32} {Lo_ones : Nat → Nat → Int32} {Lo_sum : Nat → Nat → Int32} {Lo_wideSize : Nat → Int32} {Lo_sumSize : Nat → Int32} {Lo_flickers : Nat → Int32} {Lo_ready : Nat → Int32} {Wa_at : Int32} {Wa_turns : Int32} {Wa_changes : Int32} {post : Int32 → Prop} {KE : Int32 → Prop} (X : kC p R s m args meth c cX7_countWild RX7 5 (some .int) 3) (hK : va_K D vwCl (tyC cA) s) (hN : nwC s) (hP : va_P D vwCl (wC q cA Fc_unkept Fc_tablesRead Pg_letters Pg_size Pg_fault Pg_rows Pg_inRow Pg_width Fl_entries Fl_states Fl_columns Fl_moves Fl_stables Fl_amiss Fl_normal Pt_lessers Pt_greaters Pt_size Lc_signals Lc_kept Lc_keptFrom Lc_candidates Lc_size Sc_signals Sc_codes Sc_size Ai_codes Ai_bits Cu_seen Cu_inThrees Cu_all Lo_asked Lo_ones Lo_sum Lo_wideSize Lo_sumSize Lo_flickers Lo_ready Wa_at Wa_turns Wa_changes) s.heap) (hE : ∀ (x2 : Int32), KE x2 → ∀ (ls : Array Slot), lv_has ls 5 [(2, .int x2)] → W p l e R s m args below meth c s.heap [] 0 0 (MQ below (qRi post) args s 0 0 (fun _ => False)) (F0 m 50 ls [])) : ∀ (n : Nat) (x2 : Int32) (x3 : Int32), w_X7_countWild_4 KE Fl_entries Fl_states Fl_columns Sc_codes n x2 x3 → ∀ (ls : Array Slot), lv_has ls 5 [(0, .ref (q 12)), (1, .ref (q 3)), (2, .int x2), (3, .int x3)] → W p l e R s m args below meth c s.heap [] 0 0 (MQ below (qRi post) args s 0 0 (fun _ => False)) (F0 m 4 ls []) := by
  obtain ⟨hx, hb, hml, hown, hts, hr, hlocks, hRf, hRl⟩ := id X
  intro n
  induction n with
  | zero => intro x2 x3 hw; exact (show False from hw).elim
  | succ n ih =>
    intro x2 x3 hw ls hl
    refine lv_iload_n hx hb dX7_countWild_4 rfl (lv_at hl 3 rfl) ?_
    refine lv_aload_n hx hb dX7_countWild_5 rfl (lv_at hl 1 rfl) ?_
    refine gRX7_53 hx hb hown hts hK hN hP dX7_countWild_6 ?_
    refine lv_icmp_ge (tgt := 50) hx hb dX7_countWild_9 (by decide) (fun c_1 => ?_) (fun c_1 => ?_)
    · have hw := hw.1 c_1
      exact hE _ hw ls (lv_sub hl [2] rfl)
    · have hw := hw.2 c_1
      refine lv_iconst (v := (0 : Int32)) hx hb dX7_countWild_12 (by decide) ?_
      refine lv_istore (lv' := [(4, .int (0 : Int32)), (0, .ref (q 12)), (1, .ref (q 3)), (2, .int x2), (3, .int x3)]) hx hb dX7_countWild_13 hl (by decide) rfl (fun ls hl => ?_)
      obtain ⟨n_8, hw⟩ := hw
      refine t_X7_countWild_15 X hK hN hP (fun x2_8 hw ls hl => ?_) n_8 _ _ hw ls (lv_sub hl [1, 2, 3, 4, 0] rfl)
      obtain ⟨x3_9, e_9⟩ : ∃ z : Int32, z = x3 + (1 : Int32) := ⟨_, rfl⟩
      have hw := hw x3_9 e_9
      refine lv_iinc (v := x3_9) (lv' := [(3, .int x3_9), (0, .ref (q 12)), (1, .ref (q 3)), (2, .int x2_8)]) hx hb dX7_countWild_44 hl (k := 3) rfl (by rw [e_9]; rfl) (by decide) rfl (fun ls hl => ?_)
      refine lv_goto (tgt := 4) hx hb dX7_countWild_47 (by decide) ?_
      exact ih _ _ hw ls (lv_sub hl [1, 2, 3, 0] rfl)
set_option maxHeartbeats 4000000 in
set_option maxRecDepth 100000 in
theorem c_X7_countWild (l : Launch) {D : va_G} {q : Nat → Nat} {cA : Nat → ClassId} {Fc_unkept : Int32} {Fc_tablesRead : Int32} {Pg_letters : Nat → Int32} {Pg_size : Int32} {Pg_fault : Int32} {Pg_rows : Int32} {Pg_inRow : Int32} {Pg_width : Int32} {Fl_entries : Nat → Int32} {Fl_states : Int32} {Fl_columns : Int32} {Fl_moves : Int32} {Fl_stables : Int32} {Fl_amiss : Int32} {Fl_normal : Int32} {Pt_lessers : Nat → Int32} {Pt_greaters : Nat → Int32} {Pt_size : Int32} {Lc_signals : Nat → Int32} {Lc_kept : Nat → Int64} {Lc_keptFrom : Nat → Int64} {Lc_candidates : Int32} {Lc_size : Int32} {Sc_signals : Nat → Int32} {Sc_codes : Nat → Int32} {Sc_size : Int32} {Ai_codes : Nat → Int32} {Ai_bits : Int32} {Cu_seen : Nat → Int32} {Cu_inThrees : Nat → Int32} {Cu_all : Int32} {Lo_asked : Nat → Nat → Int32} {Lo_ones : Nat → Nat → Int32} {Lo_sum : Nat → Nat → Int32} {Lo_wideSize : Nat → Int32} {Lo_sumSize : Nat → Int32} {Lo_flickers : Nat → Int32} {Lo_ready : Nat → Int32} {Wa_at : Int32} {Wa_turns : Int32} {Wa_changes : Int32} {post : Int32 → Prop}  (hw : wp_X7_countWild post Fl_entries Fl_states Fl_columns Sc_codes ) : Met l yX7_countWild (Cond.code yX7_countWild cX7_countWild 5 (some .int) :: wsL_law) (rmH 3) (va_Pc [.ref (q 12), .ref (q 3)] (fun U => va_P D vwCl (wC q cA Fc_unkept Fc_tablesRead Pg_letters Pg_size Pg_fault Pg_rows Pg_inRow Pg_width Fl_entries Fl_states Fl_columns Fl_moves Fl_stables Fl_amiss Fl_normal Pt_lessers Pt_greaters Pt_size Lc_signals Lc_kept Lc_keptFrom Lc_candidates Lc_size Sc_signals Sc_codes Sc_size Ai_codes Ai_bits Cu_seen Cu_inThrees Cu_all Lo_asked Lo_ones Lo_sum Lo_wideSize Lo_sumSize Lo_flickers Lo_ready Wa_at Wa_turns Wa_changes) U.heap ∧ va_K D vwCl (tyC cA) U ∧ nwC U)) (qRi post) 0 0 (fun _ => False) := by
  refine Met.ofW (cc := cX7_countWild) (maxL := 5) (ret := (some .int)) (by decide) rfl ?_
  intro p e s m args below meth c s₁ B hml hv
  obtain ⟨rfl, hP, hK, hN⟩ := hv
  have X : kC p (headSpec (Cond.code yX7_countWild cX7_countWild 5 (some .int) :: wsL_law) (rmH 3)).room s m _ meth c cX7_countWild RX7 5 (some .int) 3 := ⟨B.exec, B.bytes, hml, findClass_of_methodNamed B.named, fun w h => atoms_spec (ws := Cond.code yX7_countWild cX7_countWild 5 (some .int) :: wsL_law) B.pre w (List.mem_cons_of_mem _ h), B.returns, B.notSynchronized, Nat.le_refl _, Nat.le_refl _⟩
  obtain ⟨hx, hb, hml, hown, hts, hr, hlocks, hRf, hRl⟩ := id X
  have hl := lv_entry ([.ref (q 12), .ref (q 3)]) (n := 5) (Nat.le_of_ble_eq_true rfl)
  rw [lg_entry_eq]
  generalize (lg_sl ([.ref (q 12), .ref (q 3)]) ++ List.replicate (5 - (lg_sl ([.ref (q 12), .ref (q 3)])).length) Slot.unset).toArray = ls at hl ⊢
  have hl : lv_has ls 5 [(0, .ref (q 12)), (1, .ref (q 3))] := hl
  refine lv_iconst (v := (0 : Int32)) hx hb dX7_countWild_0 (by decide) ?_
  refine lv_istore_n (lv' := [(2, .int (0 : Int32)), (0, .ref (q 12)), (1, .ref (q 3))]) hx hb dX7_countWild_1 rfl hl (by decide) rfl (fun ls hl => ?_)
  refine lv_iconst (v := (0 : Int32)) hx hb dX7_countWild_2 (by decide) ?_
  refine lv_istore_n (lv' := [(3, .int (0 : Int32)), (2, .int (0 : Int32)), (0, .ref (q 12)), (1, .ref (q 3))]) hx hb dX7_countWild_3 rfl hl (by decide) rfl (fun ls hl => ?_)
  obtain ⟨n_10, hw⟩ := hw
  refine t_X7_countWild_4 X hK hN hP (fun x2_10 hw ls hl => ?_) n_10 _ _ hw ls (lv_sub hl [2, 3, 1, 0] rfl)
  refine lv_iload_n hx hb dX7_countWild_50 rfl (lv_at hl 0 rfl) ?_
  exact rt_i hx hb hr hlocks hw dX7_countWild_51
set_option maxHeartbeats 4000000 in
set_option maxRecDepth 100000 in
theorem c_J6_bitCount (l : Launch)  {post : Int32 → Prop} {x0 : Int32} (hw : wp_J6_bitCount post  x0) : Met l yJ6_bitCount_0f7a4 (Cond.code yJ6_bitCount_0f7a4 cJ6_bitCount_0f7a4 1 (some .int) :: wsL_law) (rmH 0) (va_Pc [.int x0] (fun _ => True)) (qRi post) 0 0 (fun _ => False) := by
  refine Met.ofW (cc := cJ6_bitCount_0f7a4) (maxL := 1) (ret := (some .int)) (by decide) rfl ?_
  intro p e s m args below meth c s₁ B hml hv
  obtain ⟨rfl, -⟩ := hv
  have X : kC p (headSpec (Cond.code yJ6_bitCount_0f7a4 cJ6_bitCount_0f7a4 1 (some .int) :: wsL_law) (rmH 0)).room s m _ meth c cJ6_bitCount_0f7a4 RJ6 1 (some .int) 0 := ⟨B.exec, B.bytes, hml, findClass_of_methodNamed B.named, fun w h => atoms_spec (ws := Cond.code yJ6_bitCount_0f7a4 cJ6_bitCount_0f7a4 1 (some .int) :: wsL_law) B.pre w (List.mem_cons_of_mem _ h), B.returns, B.notSynchronized, Nat.le_refl _, Nat.le_refl _⟩
  obtain ⟨hx, hb, hml, hown, hts, hr, hlocks, hRf, hRl⟩ := id X
  have hl := lv_entry ([.int x0]) (n := 1) (Nat.le_of_ble_eq_true rfl)
  rw [lg_entry_eq]
  generalize (lg_sl ([.int x0]) ++ List.replicate (1 - (lg_sl ([.int x0])).length) Slot.unset).toArray = ls at hl ⊢
  have hl : lv_has ls 1 [(0, .int x0)] := hl
  refine lv_iload_n hx hb dJ6_bitCount_0f7a4_0 rfl (lv_at hl 0 rfl) ?_
  refine lv_iload_n hx hb dJ6_bitCount_0f7a4_1 rfl (lv_at hl 0 rfl) ?_
  refine lv_iconst (v := (1 : Int32)) hx hb dJ6_bitCount_0f7a4_2 (by decide) ?_
  refine lv_iushr hx hb dJ6_bitCount_0f7a4_3 rfl ?_
  refine lv_ldcw (v := (1431655765 : Int32)) hx hb hown (hts _ (inr24 _ (List.mem_of_getElem? (i := 5) rfl))) dJ6_bitCount_0f7a4_4 ?_
  refine lv_iand hx hb dJ6_bitCount_0f7a4_7 ?_
  refine lv_isub hx hb dJ6_bitCount_0f7a4_8 ?_
  refine lv_topi (fun x0_1 e_1 => ?_)
  have hw := hw x0_1 e_1
  refine lv_istore_n (lv' := [(0, .int x0_1)]) hx hb dJ6_bitCount_0f7a4_9 rfl hl (by decide) rfl (fun ls hl => ?_)
  refine lv_iload_n hx hb dJ6_bitCount_0f7a4_10 rfl (lv_at hl 0 rfl) ?_
  refine lv_ldcw (v := (858993459 : Int32)) hx hb hown (hts _ (inr24 _ (List.mem_of_getElem? (i := 6) rfl))) dJ6_bitCount_0f7a4_11 ?_
  refine lv_iand hx hb dJ6_bitCount_0f7a4_14 ?_
  refine lv_iload_n hx hb dJ6_bitCount_0f7a4_15 rfl (lv_at hl 0 rfl) ?_
  refine lv_iconst (v := (2 : Int32)) hx hb dJ6_bitCount_0f7a4_16 (by decide) ?_
  refine lv_iushr hx hb dJ6_bitCount_0f7a4_17 rfl ?_
  refine lv_ldcw (v := (858993459 : Int32)) hx hb hown (hts _ (inr24 _ (List.mem_of_getElem? (i := 6) rfl))) dJ6_bitCount_0f7a4_18 ?_
  refine lv_iand hx hb dJ6_bitCount_0f7a4_21 ?_
  refine lv_iadd hx hb dJ6_bitCount_0f7a4_22 ?_
  refine lv_topi (fun x0_2 e_2 => ?_)
  have hw := hw x0_2 e_2
  refine lv_istore_n (lv' := [(0, .int x0_2)]) hx hb dJ6_bitCount_0f7a4_23 rfl hl (by decide) rfl (fun ls hl => ?_)
  refine lv_iload_n hx hb dJ6_bitCount_0f7a4_24 rfl (lv_at hl 0 rfl) ?_
  refine lv_iload_n hx hb dJ6_bitCount_0f7a4_25 rfl (lv_at hl 0 rfl) ?_
  refine lv_iconst (v := (4 : Int32)) hx hb dJ6_bitCount_0f7a4_26 (by decide) ?_
  refine lv_iushr hx hb dJ6_bitCount_0f7a4_27 rfl ?_
  refine lv_iadd hx hb dJ6_bitCount_0f7a4_28 ?_
  refine lv_ldcw (v := (252645135 : Int32)) hx hb hown (hts _ (inr24 _ (List.mem_of_getElem? (i := 7) rfl))) dJ6_bitCount_0f7a4_29 ?_
  refine lv_iand hx hb dJ6_bitCount_0f7a4_32 ?_
  refine lv_topi (fun x0_3 e_3 => ?_)
  have hw := hw x0_3 e_3
  refine lv_istore_n (lv' := [(0, .int x0_3)]) hx hb dJ6_bitCount_0f7a4_33 rfl hl (by decide) rfl (fun ls hl => ?_)
  refine lv_iload_n hx hb dJ6_bitCount_0f7a4_34 rfl (lv_at hl 0 rfl) ?_
  refine lv_iload_n hx hb dJ6_bitCount_0f7a4_35 rfl (lv_at hl 0 rfl) ?_
  refine lv_bipush (v := (8 : Int32)) hx hb dJ6_bitCount_0f7a4_36 (by decide +kernel) ?_
  refine lv_iushr hx hb dJ6_bitCount_0f7a4_38 rfl ?_
  refine lv_iadd hx hb dJ6_bitCount_0f7a4_39 ?_
  refine lv_topi (fun x0_4 e_4 => ?_)
  have hw := hw x0_4 e_4
  refine lv_istore_n (lv' := [(0, .int x0_4)]) hx hb dJ6_bitCount_0f7a4_40 rfl hl (by decide) rfl (fun ls hl => ?_)
  refine lv_iload_n hx hb dJ6_bitCount_0f7a4_41 rfl (lv_at hl 0 rfl) ?_
  refine lv_iload_n hx hb dJ6_bitCount_0f7a4_42 rfl (lv_at hl 0 rfl) ?_
  refine lv_bipush (v := (16 : Int32)) hx hb dJ6_bitCount_0f7a4_43 (by decide +kernel) ?_
  refine lv_iushr hx hb dJ6_bitCount_0f7a4_45 rfl ?_
  refine lv_iadd hx hb dJ6_bitCount_0f7a4_46 ?_
  refine lv_topi (fun x0_5 e_5 => ?_)
  have hw := hw x0_5 e_5
  refine lv_istore_n (lv' := [(0, .int x0_5)]) hx hb dJ6_bitCount_0f7a4_47 rfl hl (by decide) rfl (fun ls hl => ?_)
  refine lv_iload_n hx hb dJ6_bitCount_0f7a4_48 rfl (lv_at hl 0 rfl) ?_
  refine lv_bipush (v := (63 : Int32)) hx hb dJ6_bitCount_0f7a4_49 (by decide +kernel) ?_
  refine lv_iand hx hb dJ6_bitCount_0f7a4_51 ?_
  exact rt_i hx hb hr hlocks hw dJ6_bitCount_0f7a4_52
set_option maxHeartbeats 4000000 in
set_option maxRecDepth 100000 in
theorem c_X7_changesBetween (l : Launch) {D : va_G} {q : Nat → Nat} {cA : Nat → ClassId} {Fc_unkept : Int32} {Fc_tablesRead : Int32} {Pg_letters : Nat → Int32} {Pg_size : Int32} {Pg_fault : Int32} {Pg_rows : Int32} {Pg_inRow : Int32} {Pg_width : Int32} {Fl_entries : Nat → Int32} {Fl_states : Int32} {Fl_columns : Int32} {Fl_moves : Int32} {Fl_stables : Int32} {Fl_amiss : Int32} {Fl_normal : Int32} {Pt_lessers : Nat → Int32} {Pt_greaters : Nat → Int32} {Pt_size : Int32} {Lc_signals : Nat → Int32} {Lc_kept : Nat → Int64} {Lc_keptFrom : Nat → Int64} {Lc_candidates : Int32} {Lc_size : Int32} {Sc_signals : Nat → Int32} {Sc_codes : Nat → Int32} {Sc_size : Int32} {Ai_codes : Nat → Int32} {Ai_bits : Int32} {Cu_seen : Nat → Int32} {Cu_inThrees : Nat → Int32} {Cu_all : Int32} {Lo_asked : Nat → Nat → Int32} {Lo_ones : Nat → Nat → Int32} {Lo_sum : Nat → Nat → Int32} {Lo_wideSize : Nat → Int32} {Lo_sumSize : Nat → Int32} {Lo_flickers : Nat → Int32} {Lo_ready : Nat → Int32} {Wa_at : Int32} {Wa_turns : Int32} {Wa_changes : Int32} {post : Int32 → Prop} {x1 : Int32} {x2 : Int32} (hw : wp_X7_changesBetween post Sc_codes x1 x2) : Met l yX7_changesBetween (Cond.code yX7_changesBetween cX7_changesBetween 3 (some .int) :: wsL_law) (rmH 1) (va_Pc [.ref (q 12), .int x1, .int x2] (fun U => va_P D vwCl (wC q cA Fc_unkept Fc_tablesRead Pg_letters Pg_size Pg_fault Pg_rows Pg_inRow Pg_width Fl_entries Fl_states Fl_columns Fl_moves Fl_stables Fl_amiss Fl_normal Pt_lessers Pt_greaters Pt_size Lc_signals Lc_kept Lc_keptFrom Lc_candidates Lc_size Sc_signals Sc_codes Sc_size Ai_codes Ai_bits Cu_seen Cu_inThrees Cu_all Lo_asked Lo_ones Lo_sum Lo_wideSize Lo_sumSize Lo_flickers Lo_ready Wa_at Wa_turns Wa_changes) U.heap ∧ va_K D vwCl (tyC cA) U ∧ nwC U)) (qRi post) 0 0 (fun _ => False) := by
  refine Met.ofW (cc := cX7_changesBetween) (maxL := 3) (ret := (some .int)) (by decide) rfl ?_
  intro p e s m args below meth c s₁ B hml hv
  obtain ⟨rfl, hP, hK, hN⟩ := hv
  have X : kC p (headSpec (Cond.code yX7_changesBetween cX7_changesBetween 3 (some .int) :: wsL_law) (rmH 1)).room s m _ meth c cX7_changesBetween RX7 3 (some .int) 1 := ⟨B.exec, B.bytes, hml, findClass_of_methodNamed B.named, fun w h => atoms_spec (ws := Cond.code yX7_changesBetween cX7_changesBetween 3 (some .int) :: wsL_law) B.pre w (List.mem_cons_of_mem _ h), B.returns, B.notSynchronized, Nat.le_refl _, Nat.le_refl _⟩
  obtain ⟨hx, hb, hml, hown, hts, hr, hlocks, hRf, hRl⟩ := id X
  have hl := lv_entry ([.ref (q 12), .int x1, .int x2]) (n := 3) (Nat.le_of_ble_eq_true rfl)
  rw [lg_entry_eq]
  generalize (lg_sl ([.ref (q 12), .int x1, .int x2]) ++ List.replicate (3 - (lg_sl ([.ref (q 12), .int x1, .int x2])).length) Slot.unset).toArray = ls at hl ⊢
  have hl : lv_has ls 3 [(0, .ref (q 12)), (1, .int x1), (2, .int x2)] := hl
  refine lv_aload_n hx hb dX7_changesBetween_0 rfl (lv_at hl 0 rfl) ?_
  refine lv_iload_n hx hb dX7_changesBetween_1 rfl (lv_at hl 1 rfl) ?_
  refine ro_i (va_runV (As := [.int x1]) (rest := []) ⟨hx, hb, hml, hown, hts⟩ (c_X7_codeOf l hw) (kRX7_33 (h := 0) hts (Nat.le_trans (Nat.le_of_ble_eq_true rfl) hRf) (Nat.le_trans (Nat.le_of_ble_eq_true rfl) hRl)) (preX7 hK hN hP) rfl rfl hl.1 rfl (lv_room (Nat.le_of_ble_eq_true rfl)) dX7_changesBetween_2 ⟨Nat.zero_le _, Nat.zero_le _⟩) (fun r_1 hw => ?_)
  refine lv_aload_n hx hb dX7_changesBetween_5 rfl (lv_at hl 0 rfl) ?_
  refine lv_iload_n hx hb dX7_changesBetween_6 rfl (lv_at hl 2 rfl) ?_
  refine ro_i (va_runV (As := [.int x2]) (rest := [.int r_1]) ⟨hx, hb, hml, hown, hts⟩ (c_X7_codeOf l hw) (kRX7_33 (h := 0) hts (Nat.le_trans (Nat.le_of_ble_eq_true rfl) hRf) (Nat.le_trans (Nat.le_of_ble_eq_true rfl) hRl)) (preX7 hK hN hP) rfl rfl hl.1 rfl (lv_room (Nat.le_of_ble_eq_true rfl)) dX7_changesBetween_7 ⟨Nat.zero_le _, Nat.zero_le _⟩) (fun r_2 hw => ?_)
  refine lv_ixor hx hb dX7_changesBetween_10 ?_
  refine ro_i (va_runS (As := [.int (r_1 ^^^ r_2)]) (rest := []) ⟨hx, hb, hml, hown, hts⟩ (c_J6_bitCount l hw) (kRX7_37 (h := 0) hts (Nat.le_trans (Nat.le_of_ble_eq_true rfl) hRf) (Nat.le_trans (Nat.le_of_ble_eq_true rfl) hRl)) pre_0 rfl rfl hl.1 rfl (lv_room (Nat.le_of_ble_eq_true rfl)) dX7_changesBetween_11 ⟨Nat.zero_le _, Nat.zero_le _⟩) (fun r_3 hw => ?_)
  exact rt_i hx hb hr hlocks hw dX7_changesBetween_14
set_option maxHeartbeats 4000000 in
set_option maxRecDepth 100000 in
theorem t_X7_mostChanges_15 {p : Program} {l : Launch} {e : Env} {R : Room} {s : State} {m : MethodId} {args : Array Value} {below : List Frame} {meth : Method} {c : Code} {D : va_G} {q : Nat → Nat} {cA : Nat → ClassId} {Fc_unkept : Int32} {Fc_tablesRead : Int32} {Pg_letters : Nat → Int32} {Pg_size : Int32} {Pg_fault : Int32} {Pg_rows : Int32} {Pg_inRow : Int32} {Pg_width : Int32} {Fl_entries : Nat → Int32} {Fl_states : Int32} {Fl_columns : Int32} {Fl_moves : Int32} {Fl_stables : Int32} {Fl_amiss : Int32} {Fl_normal : Int32} {Pt_lessers : Nat → Int32} {Pt_greaters : Nat → Int32} {Pt_size : Int32} {Lc_signals : Nat → Int32} {Lc_kept : Nat → Int64} {Lc_keptFrom : Nat → Int64} {Lc_candidates : Int32} {Lc_size : Int32} {Sc_signals : Nat → Int32} {Sc_codes : Nat → Int32} {Sc_size : Int32} {Ai_codes : Nat → Int32} {Ai_bits : Int32} {Cu_seen : Nat → Int32} {Cu_inThrees : Nat → Int32} {Cu_all : Int32} {Lo_asked : Nat → Nat → Int32} {Lo_ones : Nat → Nat → Int32} {Lo_sum : Nat → Nat → Int32} {Lo_wideSize : Nat → Int32} {Lo_sumSize : Nat → Int32} {Lo_flickers : Nat → Int32} {Lo_ready : Nat → Int32} {Wa_at : Int32} {Wa_turns : Int32} {Wa_changes : Int32} {post : Int32 → Prop} {KE : Int32 → Prop} {x3 : Int32} (X : kC p R s m args meth c cX7_mostChanges RX7 6 (some .int) 2) (hK : va_K D vwCl (tyC cA) s) (hN : nwC s) (hP : va_P D vwCl (wC q cA Fc_unkept Fc_tablesRead Pg_letters Pg_size Pg_fault Pg_rows Pg_inRow Pg_width Fl_entries Fl_states Fl_columns Fl_moves Fl_stables Fl_amiss Fl_normal Pt_lessers Pt_greaters Pt_size Lc_signals Lc_kept Lc_keptFrom Lc_candidates Lc_size Sc_signals Sc_codes Sc_size Ai_codes Ai_bits Cu_seen Cu_inThrees Cu_all Lo_asked Lo_ones Lo_sum Lo_wideSize Lo_sumSize Lo_flickers Lo_ready Wa_at Wa_turns Wa_changes) s.heap) (hE : ∀ (x2 : Int32), KE x2 → ∀ (ls : Array Slot), lv_has ls 6 [(0, .ref (q 12)), (1, .ref (q 3)), (2, .int x2), (3, .int x3)] → W p l e R s m args below meth c s.heap [] 0 0 (MQ below (qRi post) args s 0 0 (fun _ => False)) (F0 m 57 ls [])) : ∀ (n : Nat) (x2 : Int32) (x4 : Int32), w_X7_mostChanges_15 KE Fl_entries Fl_states Fl_columns Sc_codes x3 n x2 x4 → ∀ (ls : Array Slot), lv_has ls 6 [(0, .ref (q 12)), (1, .ref (q 3)), (2, .int x2), (3, .int x3), (4, .int x4)] → W p l e R s m args below meth c s.heap [] 0 0 (MQ below (qRi post) args s 0 0 (fun _ => False)) (F0 m 15 ls []) := by
  obtain ⟨hx, hb, hml, hown, hts, hr, hlocks, hRf, hRl⟩ := id X
  intro n
  induction n with
  | zero => intro x2 x4 hw; exact (show False from hw).elim
  | succ n ih =>
    intro x2 x4 hw ls hl
    refine lv_iload hx hb dX7_mostChanges_15 (lv_at hl 4 rfl) ?_
    refine lv_aload_n hx hb dX7_mostChanges_17 rfl (lv_at hl 1 rfl) ?_
    refine gRX7_58 hx hb hown hts hK hN hP dX7_mostChanges_18 ?_
    refine lv_icmp_ge (tgt := 57) hx hb dX7_mostChanges_21 (by decide) (fun c_2 => ?_) (fun c_2 => ?_)
    · have hw := hw.1 c_2
      exact hE _ hw ls (lv_sub hl [0, 1, 2, 3] rfl)
    · have hw := hw.2 c_2
      refine lv_aload_n hx hb dX7_mostChanges_24 rfl (lv_at hl 1 rfl) ?_
      refine lv_iload_n hx hb dX7_mostChanges_25 rfl (lv_at hl 3 rfl) ?_
      refine lv_iload hx hb dX7_mostChanges_26 (lv_at hl 4 rfl) ?_
      refine ro_i (va_runV (As := [.int x3, .int x4]) (rest := []) ⟨hx, hb, hml, hown, hts⟩ (c_X2_next l hw) (kRX7_65 (h := 1) hts (Nat.le_trans (Nat.le_of_ble_eq_true rfl) hRf) (Nat.le_trans (Nat.le_of_ble_eq_true rfl) hRl)) (preX2 hK hN hP) rfl rfl hl.1 rfl (lv_room (Nat.le_of_ble_eq_true rfl)) dX7_mostChanges_28 ⟨Nat.zero_le _, Nat.zero_le _⟩) (fun r_3 hw => ?_)
      refine lv_istore (lv' := [(5, .int r_3), (0, .ref (q 12)), (1, .ref (q 3)), (2, .int x2), (3, .int x3), (4, .int x4)]) hx hb dX7_mostChanges_31 hl (by decide) rfl (fun ls hl => ?_)
      refine lv_iload hx hb dX7_mostChanges_33 (lv_at hl 0 rfl) ?_
      refine lv_iconst (v := ((-1) : Int32)) hx hb dX7_mostChanges_35 (by decide) ?_
      refine lv_icmp_eq (tgt := 51) hx hb dX7_mostChanges_36 (by decide) (fun c_4 => ?_) (fun c_4 => ?_)
      · have hw := hw.1 c_4
        obtain ⟨x4_5, e_5⟩ : ∃ z : Int32, z = x4 + (1 : Int32) := ⟨_, rfl⟩
        have hw := hw x4_5 e_5
        refine lv_iinc (v := x4_5) (lv' := [(4, .int x4_5), (5, .int r_3), (0, .ref (q 12)), (1, .ref (q 3)), (2, .int x2), (3, .int x3)]) hx hb dX7_mostChanges_51 hl (k := 5) rfl (by rw [e_5]; rfl) (by decide) rfl (fun ls hl => ?_)
        refine lv_goto (tgt := 15) hx hb dX7_mostChanges_54 (by decide) ?_
        exact ih _ _ hw ls (lv_sub hl [2, 3, 4, 5, 0] rfl)
      · have hw := hw.2 c_4
        refine lv_iload_n hx hb dX7_mostChanges_39 rfl (lv_at hl 3 rfl) ?_
        refine lv_aload_n hx hb dX7_mostChanges_40 rfl (lv_at hl 1 rfl) ?_
        refine lv_iload_n hx hb dX7_mostChanges_41 rfl (lv_at hl 4 rfl) ?_
        refine lv_iload hx hb dX7_mostChanges_42 (lv_at hl 0 rfl) ?_
        refine ro_i (va_runV (As := [.int x3, .int r_3]) (rest := [.int x2]) ⟨hx, hb, hml, hown, hts⟩ (c_X7_changesBetween l hw) (kRX7_73 (h := 1) hts (Nat.le_trans (Nat.le_of_ble_eq_true rfl) hRf) (Nat.le_trans (Nat.le_of_ble_eq_true rfl) hRl)) (preX7 hK hN hP) rfl rfl hl.1 rfl (lv_room (Nat.le_of_ble_eq_true rfl)) dX7_mostChanges_44 ⟨Nat.zero_le _, Nat.zero_le _⟩) (fun r_6 hw => ?_)
        refine va_mmax hx hb (hml.trans hl.1.symm) hown (hts _ (inr23 _ (List.mem_of_getElem? (i := 20) rfl))) (hts _ (inr12 _ (List.mem_of_getElem? (i := 2) rfl))) (hts _ (inr11 _ (List.mem_of_getElem? (i := 23) rfl))) (hts _ (inr12 _ (List.mem_of_getElem? (i := 3) rfl))) (Nat.le_trans (Nat.le_of_ble_eq_true rfl) hRf) (Nat.le_trans (Nat.le_of_ble_eq_true rfl) hRl) (Nat.zero_le _) (Nat.zero_le _) dX7_mostChanges_47 ?_
        refine lv_topi (fun x2_7 e_7 => ?_)
        have hw := hw x2_7 e_7
        refine lv_istore_n (lv' := [(2, .int x2_7), (5, .int r_3), (0, .ref (q 12)), (1, .ref (q 3)), (3, .int x3), (4, .int x4)]) hx hb dX7_mostChanges_50 rfl hl (by decide) rfl (fun ls hl => ?_)
        obtain ⟨x4_8, e_8⟩ : ∃ z : Int32, z = x4 + (1 : Int32) := ⟨_, rfl⟩
        have hw := hw x4_8 e_8
        refine lv_iinc (v := x4_8) (lv' := [(4, .int x4_8), (2, .int x2_7), (5, .int r_3), (0, .ref (q 12)), (1, .ref (q 3)), (3, .int x3)]) hx hb dX7_mostChanges_51 hl (k := 5) rfl (by rw [e_8]; rfl) (by decide) rfl (fun ls hl => ?_)
        refine lv_goto (tgt := 15) hx hb dX7_mostChanges_54 (by decide) ?_
        exact ih _ _ hw ls (lv_sub hl [3, 4, 1, 5, 0] rfl)
set_option maxHeartbeats 4000000 in
set_option maxRecDepth 100000 in
theorem t_X7_mostChanges_4 {p : Program} {l : Launch} {e : Env} {R : Room} {s : State} {m : MethodId} {args : Array Value} {below : List Frame} {meth : Method} {c : Code} {D : va_G} {q : Nat → Nat} {cA : Nat → ClassId} {Fc_unkept : Int32} {Fc_tablesRead : Int32} {Pg_letters : Nat → Int32} {Pg_size : Int32} {Pg_fault : Int32} {Pg_rows : Int32} {Pg_inRow : Int32} {Pg_width : Int32} {Fl_entries : Nat → Int32} {Fl_states : Int32} {Fl_columns : Int32} {Fl_moves : Int32} {Fl_stables : Int32} {Fl_amiss : Int32} {Fl_normal : Int32} {Pt_lessers : Nat → Int32} {Pt_greaters : Nat → Int32} {Pt_size : Int32} {Lc_signals : Nat → Int32} {Lc_kept : Nat → Int64} {Lc_keptFrom : Nat → Int64} {Lc_candidates : Int32} {Lc_size : Int32} {Sc_signals : Nat → Int32} {Sc_codes : Nat → Int32} {Sc_size : Int32} {Ai_codes : Nat → Int32} {Ai_bits : Int32} {Cu_seen : Nat → Int32} {Cu_inThrees : Nat → Int32} {Cu_all : Int32} {Lo_asked : Nat → Nat → Int32} {Lo_ones : Nat → Nat → Int32} {Lo_sum : Nat → Nat → Int32} {Lo_wideSize : Nat → Int32} {Lo_sumSize : Nat → Int32} {Lo_flickers : Nat → Int32} {Lo_ready : Nat → Int32} {Wa_at : Int32} {Wa_turns : Int32} {Wa_changes : Int32} {post : Int32 → Prop} {KE : Int32 → Prop} (X : kC p R s m args meth c cX7_mostChanges RX7 6 (some .int) 2) (hK : va_K D vwCl (tyC cA) s) (hN : nwC s) (hP : va_P D vwCl (wC q cA Fc_unkept Fc_tablesRead Pg_letters Pg_size Pg_fault Pg_rows Pg_inRow Pg_width Fl_entries Fl_states Fl_columns Fl_moves Fl_stables Fl_amiss Fl_normal Pt_lessers Pt_greaters Pt_size Lc_signals Lc_kept Lc_keptFrom Lc_candidates Lc_size Sc_signals Sc_codes Sc_size Ai_codes Ai_bits Cu_seen Cu_inThrees Cu_all Lo_asked Lo_ones Lo_sum Lo_wideSize Lo_sumSize Lo_flickers Lo_ready Wa_at Wa_turns Wa_changes) s.heap) (hE : ∀ (x2 : Int32), KE x2 → ∀ (ls : Array Slot), lv_has ls 6 [(2, .int x2)] → W p l e R s m args below meth c s.heap [] 0 0 (MQ below (qRi post) args s 0 0 (fun _ => False)) (F0 m 63 ls [])) : ∀ (n : Nat) (x2 : Int32) (x3 : Int32), w_X7_mostChanges_4 KE Fl_entries Fl_states Fl_columns Sc_codes n x2 x3 → ∀ (ls : Array Slot), lv_has ls 6 [(0, .ref (q 12)), (1, .ref (q 3)), (2, .int x2), (3, .int x3)] → W p l e R s m args below meth c s.heap [] 0 0 (MQ below (qRi post) args s 0 0 (fun _ => False)) (F0 m 4 ls []) := by
  obtain ⟨hx, hb, hml, hown, hts, hr, hlocks, hRf, hRl⟩ := id X
  intro n
  induction n with
  | zero => intro x2 x3 hw; exact (show False from hw).elim
  | succ n ih =>
    intro x2 x3 hw ls hl
    refine lv_iload_n hx hb dX7_mostChanges_4 rfl (lv_at hl 3 rfl) ?_
    refine lv_aload_n hx hb dX7_mostChanges_5 rfl (lv_at hl 1 rfl) ?_
    refine gRX7_53 hx hb hown hts hK hN hP dX7_mostChanges_6 ?_
    refine lv_icmp_ge (tgt := 63) hx hb dX7_mostChanges_9 (by decide) (fun c_1 => ?_) (fun c_1 => ?_)
    · have hw := hw.1 c_1
      exact hE _ hw ls (lv_sub hl [2] rfl)
    · have hw := hw.2 c_1
      refine lv_iconst (v := (0 : Int32)) hx hb dX7_mostChanges_12 (by decide) ?_
      refine lv_istore (lv' := [(4, .int (0 : Int32)), (0, .ref (q 12)), (1, .ref (q 3)), (2, .int x2), (3, .int x3)]) hx hb dX7_mostChanges_13 hl (by decide) rfl (fun ls hl => ?_)
      obtain ⟨n_9, hw⟩ := hw
      refine t_X7_mostChanges_15 X hK hN hP (fun x2_9 hw ls hl => ?_) n_9 _ _ hw ls (lv_sub hl [1, 2, 3, 4, 0] rfl)
      obtain ⟨x3_10, e_10⟩ : ∃ z : Int32, z = x3 + (1 : Int32) := ⟨_, rfl⟩
      have hw := hw x3_10 e_10
      refine lv_iinc (v := x3_10) (lv' := [(3, .int x3_10), (0, .ref (q 12)), (1, .ref (q 3)), (2, .int x2_9)]) hx hb dX7_mostChanges_57 hl (k := 3) rfl (by rw [e_10]; rfl) (by decide) rfl (fun ls hl => ?_)
      refine lv_goto (tgt := 4) hx hb dX7_mostChanges_60 (by decide) ?_
      exact ih _ _ hw ls (lv_sub hl [1, 2, 3, 0] rfl)
set_option maxHeartbeats 4000000 in
set_option maxRecDepth 100000 in
theorem c_X7_mostChanges (l : Launch) {D : va_G} {q : Nat → Nat} {cA : Nat → ClassId} {Fc_unkept : Int32} {Fc_tablesRead : Int32} {Pg_letters : Nat → Int32} {Pg_size : Int32} {Pg_fault : Int32} {Pg_rows : Int32} {Pg_inRow : Int32} {Pg_width : Int32} {Fl_entries : Nat → Int32} {Fl_states : Int32} {Fl_columns : Int32} {Fl_moves : Int32} {Fl_stables : Int32} {Fl_amiss : Int32} {Fl_normal : Int32} {Pt_lessers : Nat → Int32} {Pt_greaters : Nat → Int32} {Pt_size : Int32} {Lc_signals : Nat → Int32} {Lc_kept : Nat → Int64} {Lc_keptFrom : Nat → Int64} {Lc_candidates : Int32} {Lc_size : Int32} {Sc_signals : Nat → Int32} {Sc_codes : Nat → Int32} {Sc_size : Int32} {Ai_codes : Nat → Int32} {Ai_bits : Int32} {Cu_seen : Nat → Int32} {Cu_inThrees : Nat → Int32} {Cu_all : Int32} {Lo_asked : Nat → Nat → Int32} {Lo_ones : Nat → Nat → Int32} {Lo_sum : Nat → Nat → Int32} {Lo_wideSize : Nat → Int32} {Lo_sumSize : Nat → Int32} {Lo_flickers : Nat → Int32} {Lo_ready : Nat → Int32} {Wa_at : Int32} {Wa_turns : Int32} {Wa_changes : Int32} {post : Int32 → Prop}  (hw : wp_X7_mostChanges post Fl_entries Fl_states Fl_columns Sc_codes ) : Met l yX7_mostChanges (Cond.code yX7_mostChanges cX7_mostChanges 6 (some .int) :: wsL_law) (rmH 2) (va_Pc [.ref (q 12), .ref (q 3)] (fun U => va_P D vwCl (wC q cA Fc_unkept Fc_tablesRead Pg_letters Pg_size Pg_fault Pg_rows Pg_inRow Pg_width Fl_entries Fl_states Fl_columns Fl_moves Fl_stables Fl_amiss Fl_normal Pt_lessers Pt_greaters Pt_size Lc_signals Lc_kept Lc_keptFrom Lc_candidates Lc_size Sc_signals Sc_codes Sc_size Ai_codes Ai_bits Cu_seen Cu_inThrees Cu_all Lo_asked Lo_ones Lo_sum Lo_wideSize Lo_sumSize Lo_flickers Lo_ready Wa_at Wa_turns Wa_changes) U.heap ∧ va_K D vwCl (tyC cA) U ∧ nwC U)) (qRi post) 0 0 (fun _ => False) := by
  refine Met.ofW (cc := cX7_mostChanges) (maxL := 6) (ret := (some .int)) (by decide) rfl ?_
  intro p e s m args below meth c s₁ B hml hv
  obtain ⟨rfl, hP, hK, hN⟩ := hv
  have X : kC p (headSpec (Cond.code yX7_mostChanges cX7_mostChanges 6 (some .int) :: wsL_law) (rmH 2)).room s m _ meth c cX7_mostChanges RX7 6 (some .int) 2 := ⟨B.exec, B.bytes, hml, findClass_of_methodNamed B.named, fun w h => atoms_spec (ws := Cond.code yX7_mostChanges cX7_mostChanges 6 (some .int) :: wsL_law) B.pre w (List.mem_cons_of_mem _ h), B.returns, B.notSynchronized, Nat.le_refl _, Nat.le_refl _⟩
  obtain ⟨hx, hb, hml, hown, hts, hr, hlocks, hRf, hRl⟩ := id X
  have hl := lv_entry ([.ref (q 12), .ref (q 3)]) (n := 6) (Nat.le_of_ble_eq_true rfl)
  rw [lg_entry_eq]
  generalize (lg_sl ([.ref (q 12), .ref (q 3)]) ++ List.replicate (6 - (lg_sl ([.ref (q 12), .ref (q 3)])).length) Slot.unset).toArray = ls at hl ⊢
  have hl : lv_has ls 6 [(0, .ref (q 12)), (1, .ref (q 3))] := hl
  refine lv_iconst (v := (0 : Int32)) hx hb dX7_mostChanges_0 (by decide) ?_
  refine lv_istore_n (lv' := [(2, .int (0 : Int32)), (0, .ref (q 12)), (1, .ref (q 3))]) hx hb dX7_mostChanges_1 rfl hl (by decide) rfl (fun ls hl => ?_)
  refine lv_iconst (v := (0 : Int32)) hx hb dX7_mostChanges_2 (by decide) ?_
  refine lv_istore_n (lv' := [(3, .int (0 : Int32)), (2, .int (0 : Int32)), (0, .ref (q 12)), (1, .ref (q 3))]) hx hb dX7_mostChanges_3 rfl hl (by decide) rfl (fun ls hl => ?_)
  obtain ⟨n_11, hw⟩ := hw
  refine t_X7_mostChanges_4 X hK hN hP (fun x2_11 hw ls hl => ?_) n_11 _ _ hw ls (lv_sub hl [2, 3, 1, 0] rfl)
  refine lv_iload_n hx hb dX7_mostChanges_63 rfl (lv_at hl 0 rfl) ?_
  exact rt_i hx hb hr hlocks hw dX7_mostChanges_64
set_option maxHeartbeats 4000000 in
set_option maxRecDepth 100000 in
theorem c_X9_coded (l : Launch) {D : va_G} {q : Nat → Nat} {cA : Nat → ClassId} {Fc_unkept : Int32} {Fc_tablesRead : Int32} {Pg_letters : Nat → Int32} {Pg_size : Int32} {Pg_fault : Int32} {Pg_rows : Int32} {Pg_inRow : Int32} {Pg_width : Int32} {Fl_entries : Nat → Int32} {Fl_states : Int32} {Fl_columns : Int32} {Fl_moves : Int32} {Fl_stables : Int32} {Fl_amiss : Int32} {Fl_normal : Int32} {Pt_lessers : Nat → Int32} {Pt_greaters : Nat → Int32} {Pt_size : Int32} {Lc_signals : Nat → Int32} {Lc_kept : Nat → Int64} {Lc_keptFrom : Nat → Int64} {Lc_candidates : Int32} {Lc_size : Int32} {Sc_signals : Nat → Int32} {Sc_codes : Nat → Int32} {Sc_size : Int32} {Ai_codes : Nat → Int32} {Ai_bits : Int32} {Cu_seen : Nat → Int32} {Cu_inThrees : Nat → Int32} {Cu_all : Int32} {Lo_asked : Nat → Nat → Int32} {Lo_ones : Nat → Nat → Int32} {Lo_sum : Nat → Nat → Int32} {Lo_wideSize : Nat → Int32} {Lo_sumSize : Nat → Int32} {Lo_flickers : Nat → Int32} {Lo_ready : Nat → Int32} {Wa_at : Int32} {Wa_turns : Int32} {Wa_changes : Int32} {post : Int32 → Prop} {x1 : Int32} (hw : wp_X9_coded post Fc_unkept Fl_entries Fl_states Fl_columns Fl_normal Sc_codes Sc_size x1) : Met l yX9_coded (Cond.code yX9_coded cX9_coded 2 (some .int) :: wsL_law) (rmH 4) (va_Pc [.ref (q 0), .int x1] (fun U => va_P D vwCl (wC q cA Fc_unkept Fc_tablesRead Pg_letters Pg_size Pg_fault Pg_rows Pg_inRow Pg_width Fl_entries Fl_states Fl_columns Fl_moves Fl_stables Fl_amiss Fl_normal Pt_lessers Pt_greaters Pt_size Lc_signals Lc_kept Lc_keptFrom Lc_candidates Lc_size Sc_signals Sc_codes Sc_size Ai_codes Ai_bits Cu_seen Cu_inThrees Cu_all Lo_asked Lo_ones Lo_sum Lo_wideSize Lo_sumSize Lo_flickers Lo_ready Wa_at Wa_turns Wa_changes) U.heap ∧ va_K D vwCl (tyC cA) U ∧ nwC U)) (qRi post) 0 0 (fun _ => False) := by
  refine Met.ofW (cc := cX9_coded) (maxL := 2) (ret := (some .int)) (by decide) rfl ?_
  intro p e s m args below meth c s₁ B hml hv
  obtain ⟨rfl, hP, hK, hN⟩ := hv
  have X : kC p (headSpec (Cond.code yX9_coded cX9_coded 2 (some .int) :: wsL_law) (rmH 4)).room s m _ meth c cX9_coded RX9 2 (some .int) 4 := ⟨B.exec, B.bytes, hml, findClass_of_methodNamed B.named, fun w h => atoms_spec (ws := Cond.code yX9_coded cX9_coded 2 (some .int) :: wsL_law) B.pre w (List.mem_cons_of_mem _ h), B.returns, B.notSynchronized, Nat.le_refl _, Nat.le_refl _⟩
  obtain ⟨hx, hb, hml, hown, hts, hr, hlocks, hRf, hRl⟩ := id X
  have hl := lv_entry ([.ref (q 0), .int x1]) (n := 2) (Nat.le_of_ble_eq_true rfl)
  rw [lg_entry_eq]
  generalize (lg_sl ([.ref (q 0), .int x1]) ++ List.replicate (2 - (lg_sl ([.ref (q 0), .int x1])).length) Slot.unset).toArray = ls at hl ⊢
  have hl : lv_has ls 2 [(0, .ref (q 0)), (1, .int x1)] := hl
  refine lv_iload_n hx hb dX9_coded_0 rfl (lv_at hl 1 rfl) ?_
  refine lv_if_lt (tgt := 9) hx hb dX9_coded_1 (by decide) (fun c_1 => ?_) (fun c_1 => ?_)
  · have hw := hw.1 c_1
    refine lv_sipush (v := ((-1002) : Int32)) hx hb dX9_coded_9 (by decide +kernel) ?_
    exact rt_i hx hb hr hlocks hw dX9_coded_12
  · have hw := hw.2 c_1
    refine lv_iload_n hx hb dX9_coded_4 rfl (lv_at hl 1 rfl) ?_
    refine lv_iconst (v := (5 : Int32)) hx hb dX9_coded_5 (by decide) ?_
    refine lv_icmp_le (tgt := 13) hx hb dX9_coded_6 (by decide) (fun c_2 => ?_) (fun c_2 => ?_)
    · have hw := hw.1 c_2
      refine lv_aload_n hx hb dX9_coded_13 rfl (lv_at hl 0 rfl) ?_
      refine gRX9_19 hx hb hown hts hK hP dX9_coded_14 ?_
      refine gRX9_110 hx hb hown hts hK hN hP dX9_coded_17 ?_
      refine lv_if_ne (tgt := 27) hx hb dX9_coded_20 (by decide) (fun c_3 => ?_) (fun c_3 => ?_)
      · have hw := hw.2 c_3
        refine lv_iload_n hx hb dX9_coded_27 rfl (lv_at hl 1 rfl) ?_
        by_cases c_4 : x1 = (0 : Int32)
        · have hw := hw.1 c_4
          refine sw_in (k := (0 : Int32)) (off := 36) (tgt := 64) hx hb dX9_coded_28 c_4 (by decide) (by decide) (by decide) (by decide) ?_
          refine lv_aload_n hx hb dX9_coded_64 rfl (lv_at hl 0 rfl) ?_
          refine gRX9_40 hx hb hown hts hK hP dX9_coded_65 ?_
          refine gRX9_175 hx hb hown hts hK hN hP dX9_coded_68 ?_
          exact rt_i hx hb hr hlocks hw dX9_coded_71
        · have hw := hw.2 c_4
          by_cases c_5 : x1 = (1 : Int32)
          · have hw := hw.1 c_5
            refine sw_in (k := (1 : Int32)) (off := 44) (tgt := 72) hx hb dX9_coded_28 c_5 (by decide) (by decide) (by decide) (by decide) ?_
            refine lv_aload_n hx hb dX9_coded_72 rfl (lv_at hl 0 rfl) ?_
            refine gRX9_72 hx hb hown hts hK hP dX9_coded_73 ?_
            refine lv_if_ne (tgt := 83) hx hb dX9_coded_76 (by decide) (fun c_9 => ?_) (fun c_9 => ?_)
            · have hw := hw.2 c_9
              refine lv_iconst (v := (0 : Int32)) hx hb dX9_coded_83 (by decide) ?_
              exact rt_i hx hb hr hlocks hw dX9_coded_84
            · have hw := hw.1 c_9
              refine lv_iconst (v := (1 : Int32)) hx hb dX9_coded_79 (by decide) ?_
              refine lv_goto (tgt := 84) hx hb dX9_coded_80 (by decide) ?_
              exact rt_i hx hb hr hlocks hw dX9_coded_84
          · have hw := hw.2 c_5
            by_cases c_6 : x1 = (2 : Int32)
            · have hw := hw.1 c_6
              refine sw_in (k := (2 : Int32)) (off := 57) (tgt := 85) hx hb dX9_coded_28 c_6 (by decide) (by decide) (by decide) (by decide) ?_
              refine lv_aload_n hx hb dX9_coded_85 rfl (lv_at hl 0 rfl) ?_
              refine gRX9_72 hx hb hown hts hK hP dX9_coded_86 ?_
              exact rt_i hx hb hr hlocks hw dX9_coded_89
            · have hw := hw.2 c_6
              by_cases c_7 : x1 = (3 : Int32)
              · have hw := hw.1 c_7
                refine sw_in (k := (3 : Int32)) (off := 62) (tgt := 90) hx hb dX9_coded_28 c_7 (by decide) (by decide) (by decide) (by decide) ?_
                refine lv_aload_n hx hb dX9_coded_90 rfl (lv_at hl 0 rfl) ?_
                refine gRX9_40 hx hb hown hts hK hP dX9_coded_91 ?_
                refine lv_aload_n hx hb dX9_coded_94 rfl (lv_at hl 0 rfl) ?_
                refine gRX9_19 hx hb hown hts hK hP dX9_coded_95 ?_
                refine ro_i (va_runV (As := [.ref (q 3)]) (rest := []) ⟨hx, hb, hml, hown, hts⟩ (c_X7_countWild l hw) (kRX9_180 (h := 3) hts (Nat.le_trans (Nat.le_of_ble_eq_true rfl) hRf) (Nat.le_trans (Nat.le_of_ble_eq_true rfl) hRl)) (preX7 hK hN hP) rfl rfl hl.1 rfl (lv_room (Nat.le_of_ble_eq_true rfl)) dX9_coded_98 ⟨Nat.zero_le _, Nat.zero_le _⟩) (fun r_10 hw => ?_)
                exact rt_i hx hb hr hlocks hw dX9_coded_101
              · have hw := hw.2 c_7
                by_cases c_8 : x1 = (4 : Int32)
                · have hw := hw.1 c_8
                  refine sw_in (k := (4 : Int32)) (off := 74) (tgt := 102) hx hb dX9_coded_28 c_8 (by decide) (by decide) (by decide) (by decide) ?_
                  refine lv_aload_n hx hb dX9_coded_102 rfl (lv_at hl 0 rfl) ?_
                  refine gRX9_40 hx hb hown hts hK hP dX9_coded_103 ?_
                  refine lv_aload_n hx hb dX9_coded_106 rfl (lv_at hl 0 rfl) ?_
                  refine gRX9_19 hx hb hown hts hK hP dX9_coded_107 ?_
                  refine ro_i (va_runV (As := [.ref (q 3)]) (rest := []) ⟨hx, hb, hml, hown, hts⟩ (c_X7_firstWild l hw) (kRX9_184 (h := 3) hts (Nat.le_trans (Nat.le_of_ble_eq_true rfl) hRf) (Nat.le_trans (Nat.le_of_ble_eq_true rfl) hRl)) (preX7 hK hN hP) rfl rfl hl.1 rfl (lv_room (Nat.le_of_ble_eq_true rfl)) dX9_coded_110 ⟨Nat.zero_le _, Nat.zero_le _⟩) (fun r_11 hw => ?_)
                  exact rt_i hx hb hr hlocks hw dX9_coded_113
                · have hw := hw.2 c_8
                  refine lv_tableOut (tgt := 114) hx hb dX9_coded_28 (by have q0 := lv_neT c_4 (a := 0) (by decide); have q1 := lv_neT c_5 (a := 1) (by decide); have q2 := lv_neT c_6 (a := 2) (by decide); have q3 := lv_neT c_7 (a := 3) (by decide); have q4 := lv_neT c_8 (a := 4) (by decide); omega) (by decide) ?_
                  refine lv_aload_n hx hb dX9_coded_114 rfl (lv_at hl 0 rfl) ?_
                  refine gRX9_40 hx hb hown hts hK hP dX9_coded_115 ?_
                  refine lv_aload_n hx hb dX9_coded_118 rfl (lv_at hl 0 rfl) ?_
                  refine gRX9_19 hx hb hown hts hK hP dX9_coded_119 ?_
                  refine ro_i (va_runV (As := [.ref (q 3)]) (rest := []) ⟨hx, hb, hml, hown, hts⟩ (c_X7_mostChanges l hw) (kRX9_187 (h := 2) hts (Nat.le_trans (Nat.le_of_ble_eq_true rfl) hRf) (Nat.le_trans (Nat.le_of_ble_eq_true rfl) hRl)) (preX7 hK hN hP) rfl rfl hl.1 rfl (lv_room (Nat.le_of_ble_eq_true rfl)) dX9_coded_122 ⟨Nat.zero_le _, Nat.zero_le _⟩) (fun r_12 hw => ?_)
                  exact rt_i hx hb hr hlocks hw dX9_coded_125
      · have hw := hw.1 c_3
        refine lv_sipush (v := ((-1003) : Int32)) hx hb dX9_coded_23 (by decide +kernel) ?_
        exact rt_i hx hb hr hlocks hw dX9_coded_26
    · have hw := hw.2 c_2
      refine lv_sipush (v := ((-1002) : Int32)) hx hb dX9_coded_9 (by decide +kernel) ?_
      exact rt_i hx hb hr hlocks hw dX9_coded_12
set_option maxHeartbeats 4000000 in
set_option maxRecDepth 100000 in
theorem c_X10_isOnWay (l : Launch) {D : va_G} {q : Nat → Nat} {cA : Nat → ClassId} {i_pageLength : Int32} {a_page : Nat → Int32} {i_states : Int32} {i_columns : Int32} {a_entries : Nat → Int32} {i_signals : Int32} {a_signalAt : Nat → Int32} {i_walksAt : Int32} {i_turned : Int32} {i_changed : Int32} {i_read : Int32} {i_newRows : Int32} {i_newEntries : Int32} {i_newColumns : Int32} {i_greatest : Int32} {a_newAt : Nat → Int32} {i_partings : Int32} {a_lowSet : Nat → Int32} {a_highSet : Nat → Int32} {i_leastMany : Int32} {a_leastAt : Nat → Int32} {a_tried : Nat → Int32} {a_keptLow : Nat → Int64} {a_keptHigh : Nat → Int64} {i_laid : Int32} {a_wants : Nat → Int32} {i_wide : Int32} {a_wideAsked : Nat → Int32} {a_wideOnes : Nat → Int32} {i_sum : Int32} {i_flickers : Int32} {a_sumAt : Nat → Int32} {j_h : Int64} {post : Int32 → Prop} {x1 : Int32} {x2 : Int32} {x3 : Int32} (hw : wp_X10_isOnWay post a_entries i_signals a_signalAt x1 x2 x3) : Met l yX10_isOnWay (Cond.code yX10_isOnWay cX10_isOnWay 5 (some .boolean) :: wsL_law) (rmH 1) (va_Pc [.ref (q 0), .int x1, .int x2, .int x3] (fun U => va_P D vwCl (wM q cA i_pageLength a_page i_states i_columns a_entries i_signals a_signalAt i_walksAt i_turned i_changed i_read i_newRows i_newEntries i_newColumns i_greatest a_newAt i_partings a_lowSet a_highSet i_leastMany a_leastAt a_tried a_keptLow a_keptHigh i_laid a_wants i_wide a_wideAsked a_wideOnes i_sum i_flickers a_sumAt j_h) U.heap ∧ va_K D vwCl (tyM cA) U)) (qRi post) 0 0 (fun _ => False) := by
  refine Met.ofW (cc := cX10_isOnWay) (maxL := 5) (ret := (some .boolean)) (by decide) rfl ?_
  intro p e s m args below meth c s₁ B hml hv
  obtain ⟨rfl, hP, hK⟩ := hv
  have X : kC p (headSpec (Cond.code yX10_isOnWay cX10_isOnWay 5 (some .boolean) :: wsL_law) (rmH 1)).room s m _ meth c cX10_isOnWay RX10 5 (some .boolean) 1 := ⟨B.exec, B.bytes, hml, findClass_of_methodNamed B.named, fun w h => atoms_spec (ws := Cond.code yX10_isOnWay cX10_isOnWay 5 (some .boolean) :: wsL_law) B.pre w (List.mem_cons_of_mem _ h), B.returns, B.notSynchronized, Nat.le_refl _, Nat.le_refl _⟩
  obtain ⟨hx, hb, hml, hown, hts, hr, hlocks, hRf, hRl⟩ := id X
  have hl := lv_entry ([.ref (q 0), .int x1, .int x2, .int x3]) (n := 5) (Nat.le_of_ble_eq_true rfl)
  rw [lg_entry_eq]
  generalize (lg_sl ([.ref (q 0), .int x1, .int x2, .int x3]) ++ List.replicate (5 - (lg_sl ([.ref (q 0), .int x1, .int x2, .int x3])).length) Slot.unset).toArray = ls at hl ⊢
  have hl : lv_has ls 5 [(0, .ref (q 0)), (1, .int x1), (2, .int x2), (3, .int x3)] := hl
  refine lv_aload_n hx hb dX10_isOnWay_0 rfl (lv_at hl 0 rfl) ?_
  refine lv_iload_n hx hb dX10_isOnWay_1 rfl (lv_at hl 2 rfl) ?_
  refine lv_iload_n hx hb dX10_isOnWay_2 rfl (lv_at hl 3 rfl) ?_
  refine ro_i (va_runV (As := [.int x2, .int x3]) (rest := []) ⟨hx, hb, hml, hown, hts⟩ (c_X10_entryAt l hw) (kRX10_118 (h := 0) hts (Nat.le_trans (Nat.le_of_ble_eq_true rfl) hRf) (Nat.le_trans (Nat.le_of_ble_eq_true rfl) hRl)) (preM hK hP) rfl rfl hl.1 rfl (lv_room (Nat.le_of_ble_eq_true rfl)) dX10_isOnWay_3 ⟨Nat.zero_le _, Nat.zero_le _⟩) (fun r_1 hw => ?_)
  refine lv_istore (lv' := [(4, .int r_1), (0, .ref (q 0)), (1, .int x1), (2, .int x2), (3, .int x3)]) hx hb dX10_isOnWay_6 hl (by decide) rfl (fun ls hl => ?_)
  refine lv_iload hx hb dX10_isOnWay_8 (lv_at hl 0 rfl) ?_
  refine lv_iconst (v := ((-1) : Int32)) hx hb dX10_isOnWay_10 (by decide) ?_
  refine lv_icmp_eq (tgt := 43) hx hb dX10_isOnWay_11 (by decide) (fun c_2 => ?_) (fun c_2 => ?_)
  · have hw := hw.1 c_2
    refine lv_iconst (v := (0 : Int32)) hx hb dX10_isOnWay_43 (by decide) ?_
    exact rt_z hx hb hr hlocks rfl hw dX10_isOnWay_44
  · have hw := hw.2 c_2
    refine lv_iload_n hx hb dX10_isOnWay_14 rfl (lv_at hl 2 rfl) ?_
    refine lv_aload_n hx hb dX10_isOnWay_15 rfl (lv_at hl 1 rfl) ?_
    refine lv_iload_n hx hb dX10_isOnWay_16 rfl (lv_at hl 3 rfl) ?_
    refine ro_i (va_runV (As := [.int x2]) (rest := [.int x1]) ⟨hx, hb, hml, hown, hts⟩ (c_X10_codeOf l hw) (kRX10_178 (h := 0) hts (Nat.le_trans (Nat.le_of_ble_eq_true rfl) hRf) (Nat.le_trans (Nat.le_of_ble_eq_true rfl) hRl)) (preM hK hP) rfl rfl hl.1 rfl (lv_room (Nat.le_of_ble_eq_true rfl)) dX10_isOnWay_17 ⟨Nat.zero_le _, Nat.zero_le _⟩) (fun r_3 hw => ?_)
    refine lv_ixor hx hb dX10_isOnWay_20 ?_
    refine lv_aload_n hx hb dX10_isOnWay_21 rfl (lv_at hl 1 rfl) ?_
    refine lv_iload_n hx hb dX10_isOnWay_22 rfl (lv_at hl 3 rfl) ?_
    refine ro_i (va_runV (As := [.int x2]) (rest := [.int (x1 ^^^ r_3)]) ⟨hx, hb, hml, hown, hts⟩ (c_X10_codeOf l hw) (kRX10_178 (h := 0) hts (Nat.le_trans (Nat.le_of_ble_eq_true rfl) hRf) (Nat.le_trans (Nat.le_of_ble_eq_true rfl) hRl)) (preM hK hP) rfl rfl hl.1 rfl (lv_room (Nat.le_of_ble_eq_true rfl)) dX10_isOnWay_23 ⟨Nat.zero_le _, Nat.zero_le _⟩) (fun r_4 hw => ?_)
    refine lv_aload_n hx hb dX10_isOnWay_26 rfl (lv_at hl 1 rfl) ?_
    refine lv_iload hx hb dX10_isOnWay_27 (lv_at hl 0 rfl) ?_
    refine ro_i (va_runV (As := [.int r_1]) (rest := [.int r_4, .int (x1 ^^^ r_3)]) ⟨hx, hb, hml, hown, hts⟩ (c_X10_codeOf l hw) (kRX10_178 (h := 0) hts (Nat.le_trans (Nat.le_of_ble_eq_true rfl) hRf) (Nat.le_trans (Nat.le_of_ble_eq_true rfl) hRl)) (preM hK hP) rfl rfl hl.1 rfl (lv_room (Nat.le_of_ble_eq_true rfl)) dX10_isOnWay_29 ⟨Nat.zero_le _, Nat.zero_le _⟩) (fun r_5 hw => ?_)
    refine lv_ixor hx hb dX10_isOnWay_32 ?_
    refine lv_iconst (v := ((-1) : Int32)) hx hb dX10_isOnWay_33 (by decide) ?_
    refine lv_ixor hx hb dX10_isOnWay_34 ?_
    refine lv_iand hx hb dX10_isOnWay_35 ?_
    refine lv_if_ne (tgt := 43) hx hb dX10_isOnWay_36 (by decide) (fun c_6 => ?_) (fun c_6 => ?_)
    · have hw := hw.2 c_6
      refine lv_iconst (v := (0 : Int32)) hx hb dX10_isOnWay_43 (by decide) ?_
      exact rt_z hx hb hr hlocks rfl hw dX10_isOnWay_44
    · have hw := hw.1 c_6
      refine lv_iconst (v := (1 : Int32)) hx hb dX10_isOnWay_39 (by decide) ?_
      refine lv_goto (tgt := 44) hx hb dX10_isOnWay_40 (by decide) ?_
      exact rt_z hx hb hr hlocks rfl hw dX10_isOnWay_44
