set_option maxHeartbeats 4000000 in
set_option maxRecDepth 100000 in
theorem c_X9_entry (l : Launch) {D : va_G} {q : Nat → Nat} {cA : Nat → ClassId} {Fc_unkept : Int32} {Fc_tablesRead : Int32} {Pg_letters : Nat → Int32} {Pg_size : Int32} {Pg_fault : Int32} {Pg_rows : Int32} {Pg_inRow : Int32} {Pg_width : Int32} {Fl_entries : Nat → Int32} {Fl_states : Int32} {Fl_columns : Int32} {Fl_moves : Int32} {Fl_stables : Int32} {Fl_amiss : Int32} {Fl_normal : Int32} {Pt_lessers : Nat → Int32} {Pt_greaters : Nat → Int32} {Pt_size : Int32} {Lc_signals : Nat → Int32} {Lc_kept : Nat → Int64} {Lc_keptFrom : Nat → Int64} {Lc_candidates : Int32} {Lc_size : Int32} {Sc_signals : Nat → Int32} {Sc_codes : Nat → Int32} {Sc_size : Int32} {Ai_codes : Nat → Int32} {Ai_bits : Int32} {Cu_seen : Nat → Int32} {Cu_inThrees : Nat → Int32} {Cu_all : Int32} {Lo_asked : Nat → Nat → Int32} {Lo_ones : Nat → Nat → Int32} {Lo_sum : Nat → Nat → Int32} {Lo_wideSize : Nat → Int32} {Lo_sumSize : Nat → Int32} {Lo_flickers : Nat → Int32} {Lo_ready : Nat → Int32} {Wa_at : Int32} {Wa_turns : Int32} {Wa_changes : Int32} {post : Int32 → Prop} {x1 : Int32} {x2 : Int32} (hw : wp_X9_entry post Fl_entries Fl_states Fl_columns x1 x2) : Met l yX9_entry (Cond.code yX9_entry cX9_entry 3 (some .int) :: wsL_law) (rmH 2) (va_Pc [.ref (q 0), .int x1, .int x2] (fun U => va_P D vwCl (wC q cA Fc_unkept Fc_tablesRead Pg_letters Pg_size Pg_fault Pg_rows Pg_inRow Pg_width Fl_entries Fl_states Fl_columns Fl_moves Fl_stables Fl_amiss Fl_normal Pt_lessers Pt_greaters Pt_size Lc_signals Lc_kept Lc_keptFrom Lc_candidates Lc_size Sc_signals Sc_codes Sc_size Ai_codes Ai_bits Cu_seen Cu_inThrees Cu_all Lo_asked Lo_ones Lo_sum Lo_wideSize Lo_sumSize Lo_flickers Lo_ready Wa_at Wa_turns Wa_changes) U.heap ∧ va_K D vwCl (tyC cA) U ∧ nwC U)) (qRi post) 0 0 (fun _ => False) := by
  refine Met.ofW (cc := cX9_entry) (maxL := 3) (ret := (some .int)) (by decide) rfl ?_
  intro p e s m args below meth c s₁ B hml hv
  obtain ⟨rfl, hP, hK, hN⟩ := hv
  have X : kC p (headSpec (Cond.code yX9_entry cX9_entry 3 (some .int) :: wsL_law) (rmH 2)).room s m _ meth c cX9_entry RX9 3 (some .int) 2 := ⟨B.exec, B.bytes, hml, findClass_of_methodNamed B.named, fun w h => atoms_spec (ws := Cond.code yX9_entry cX9_entry 3 (some .int) :: wsL_law) B.pre w (List.mem_cons_of_mem _ h), B.returns, B.notSynchronized, Nat.le_refl _, Nat.le_refl _⟩
  obtain ⟨hx, hb, hml, hown, hts, hr, hlocks, hRf, hRl⟩ := id X
  have hl := lv_entry ([.ref (q 0), .int x1, .int x2]) (n := 3) (Nat.le_of_ble_eq_true rfl)
  rw [lg_entry_eq]
  generalize (lg_sl ([.ref (q 0), .int x1, .int x2]) ++ List.replicate (3 - (lg_sl ([.ref (q 0), .int x1, .int x2])).length) Slot.unset).toArray = ls at hl ⊢
  have hl : lv_has ls 3 [(0, .ref (q 0)), (1, .int x1), (2, .int x2)] := hl
  refine lv_aload_n hx hb dX9_entry_0 rfl (lv_at hl 0 rfl) ?_
  refine gRX9_19 hx hb hown hts hK hP dX9_entry_1 ?_
  refine lv_iload_n hx hb dX9_entry_4 rfl (lv_at hl 1 rfl) ?_
  refine ro_i (va_runV (As := [.int x1]) (rest := []) ⟨hx, hb, hml, hown, hts⟩ (c_X2_hasState l hw) (kRX9_132 (h := 0) hts (Nat.le_trans (Nat.le_of_ble_eq_true rfl) hRf) (Nat.le_trans (Nat.le_of_ble_eq_true rfl) hRl)) (preX2 hK hN hP) rfl rfl hl.1 rfl (lv_room (Nat.le_of_ble_eq_true rfl)) dX9_entry_5 ⟨Nat.zero_le _, Nat.zero_le _⟩) (fun r_1 hw => ?_)
  refine lv_if_eq (tgt := 22) hx hb dX9_entry_8 (by decide) (fun c_2 => ?_) (fun c_2 => ?_)
  · have hw := hw.1 c_2
    refine lv_sipush (v := ((-1001) : Int32)) hx hb dX9_entry_22 (by decide +kernel) ?_
    exact rt_i hx hb hr hlocks hw dX9_entry_25
  · have hw := hw.2 c_2
    refine lv_aload_n hx hb dX9_entry_11 rfl (lv_at hl 0 rfl) ?_
    refine gRX9_19 hx hb hown hts hK hP dX9_entry_12 ?_
    refine lv_iload_n hx hb dX9_entry_15 rfl (lv_at hl 2 rfl) ?_
    refine ro_i (va_runV (As := [.int x2]) (rest := []) ⟨hx, hb, hml, hown, hts⟩ (c_X2_hasColumn l hw) (kRX9_135 (h := 0) hts (Nat.le_trans (Nat.le_of_ble_eq_true rfl) hRf) (Nat.le_trans (Nat.le_of_ble_eq_true rfl) hRl)) (preX2 hK hN hP) rfl rfl hl.1 rfl (lv_room (Nat.le_of_ble_eq_true rfl)) dX9_entry_16 ⟨Nat.zero_le _, Nat.zero_le _⟩) (fun r_3 hw => ?_)
    refine lv_if_ne (tgt := 26) hx hb dX9_entry_19 (by decide) (fun c_4 => ?_) (fun c_4 => ?_)
    · have hw := hw.2 c_4
      refine lv_aload_n hx hb dX9_entry_26 rfl (lv_at hl 0 rfl) ?_
      refine gRX9_19 hx hb hown hts hK hP dX9_entry_27 ?_
      refine lv_iload_n hx hb dX9_entry_30 rfl (lv_at hl 1 rfl) ?_
      refine lv_iload_n hx hb dX9_entry_31 rfl (lv_at hl 2 rfl) ?_
      refine ro_i (va_runV (As := [.int x1, .int x2]) (rest := []) ⟨hx, hb, hml, hown, hts⟩ (c_X2_next l hw) (kRX9_138 (h := 1) hts (Nat.le_trans (Nat.le_of_ble_eq_true rfl) hRf) (Nat.le_trans (Nat.le_of_ble_eq_true rfl) hRl)) (preX2 hK hN hP) rfl rfl hl.1 rfl (lv_room (Nat.le_of_ble_eq_true rfl)) dX9_entry_32 ⟨Nat.zero_le _, Nat.zero_le _⟩) (fun r_5 hw => ?_)
      exact rt_i hx hb hr hlocks hw dX9_entry_35
    · have hw := hw.1 c_4
      refine lv_sipush (v := ((-1001) : Int32)) hx hb dX9_entry_22 (by decide +kernel) ?_
      exact rt_i hx hb hr hlocks hw dX9_entry_25
set_option maxHeartbeats 4000000 in
set_option maxRecDepth 100000 in
theorem c_X10_isEntry (l : Launch) {D : va_G} {q : Nat → Nat} {cA : Nat → ClassId} {i_pageLength : Int32} {a_page : Nat → Int32} {i_states : Int32} {i_columns : Int32} {a_entries : Nat → Int32} {i_signals : Int32} {a_signalAt : Nat → Int32} {i_walksAt : Int32} {i_turned : Int32} {i_changed : Int32} {i_read : Int32} {i_newRows : Int32} {i_newEntries : Int32} {i_newColumns : Int32} {i_greatest : Int32} {a_newAt : Nat → Int32} {i_partings : Int32} {a_lowSet : Nat → Int32} {a_highSet : Nat → Int32} {i_leastMany : Int32} {a_leastAt : Nat → Int32} {a_tried : Nat → Int32} {a_keptLow : Nat → Int64} {a_keptHigh : Nat → Int64} {i_laid : Int32} {a_wants : Nat → Int32} {i_wide : Int32} {a_wideAsked : Nat → Int32} {a_wideOnes : Nat → Int32} {i_sum : Int32} {i_flickers : Int32} {a_sumAt : Nat → Int32} {j_h : Int64} {post : Int32 → Prop} {x1 : Int32} {x2 : Int32} (hw : wp_X10_isEntry post i_states i_columns x1 x2) : Met l yX10_isEntry (Cond.code yX10_isEntry cX10_isEntry 3 (some .boolean) :: wsL_law) (rmH 1) (va_Pc [.ref (q 0), .int x1, .int x2] (fun U => va_P D vwCl (wM q cA i_pageLength a_page i_states i_columns a_entries i_signals a_signalAt i_walksAt i_turned i_changed i_read i_newRows i_newEntries i_newColumns i_greatest a_newAt i_partings a_lowSet a_highSet i_leastMany a_leastAt a_tried a_keptLow a_keptHigh i_laid a_wants i_wide a_wideAsked a_wideOnes i_sum i_flickers a_sumAt j_h) U.heap ∧ va_K D vwCl (tyM cA) U)) (qRi post) 0 0 (fun _ => False) := by
  refine Met.ofW (cc := cX10_isEntry) (maxL := 3) (ret := (some .boolean)) (by decide) rfl ?_
  intro p e s m args below meth c s₁ B hml hv
  obtain ⟨rfl, hP, hK⟩ := hv
  have X : kC p (headSpec (Cond.code yX10_isEntry cX10_isEntry 3 (some .boolean) :: wsL_law) (rmH 1)).room s m _ meth c cX10_isEntry RX10 3 (some .boolean) 1 := ⟨B.exec, B.bytes, hml, findClass_of_methodNamed B.named, fun w h => atoms_spec (ws := Cond.code yX10_isEntry cX10_isEntry 3 (some .boolean) :: wsL_law) B.pre w (List.mem_cons_of_mem _ h), B.returns, B.notSynchronized, Nat.le_refl _, Nat.le_refl _⟩
  obtain ⟨hx, hb, hml, hown, hts, hr, hlocks, hRf, hRl⟩ := id X
  have hl := lv_entry ([.ref (q 0), .int x1, .int x2]) (n := 3) (Nat.le_of_ble_eq_true rfl)
  rw [lg_entry_eq]
  generalize (lg_sl ([.ref (q 0), .int x1, .int x2]) ++ List.replicate (3 - (lg_sl ([.ref (q 0), .int x1, .int x2])).length) Slot.unset).toArray = ls at hl ⊢
  have hl : lv_has ls 3 [(0, .ref (q 0)), (1, .int x1), (2, .int x2)] := hl
  refine lv_iload_n hx hb dX10_isEntry_0 rfl (lv_at hl 1 rfl) ?_
  refine lv_iconst (v := (0 : Int32)) hx hb dX10_isEntry_1 (by decide) ?_
  refine lv_aload_n hx hb dX10_isEntry_2 rfl (lv_at hl 0 rfl) ?_
  refine gRX10_87 hx hb hown hts hK hP dX10_isEntry_3 ?_
  refine lv_iconst (v := (1 : Int32)) hx hb dX10_isEntry_6 (by decide) ?_
  refine lv_isub hx hb dX10_isEntry_7 ?_
  refine ro_i (va_runS (As := [.int x1, .int (0 : Int32), .int (i_states - (1 : Int32))]) (rest := []) ⟨hx, hb, hml, hown, hts⟩ (c_X10_within l hw) (kRX10_60 (h := 0) hts (Nat.le_trans (Nat.le_of_ble_eq_true rfl) hRf) (Nat.le_trans (Nat.le_of_ble_eq_true rfl) hRl)) pre_0 rfl rfl hl.1 rfl (lv_room (Nat.le_of_ble_eq_true rfl)) dX10_isEntry_8 ⟨Nat.zero_le _, Nat.zero_le _⟩) (fun r_1 hw => ?_)
  refine lv_if_eq (tgt := 32) hx hb dX10_isEntry_11 (by decide) (fun c_2 => ?_) (fun c_2 => ?_)
  · have hw := hw.1 c_2
    refine lv_iconst (v := (0 : Int32)) hx hb dX10_isEntry_32 (by decide) ?_
    exact rt_z hx hb hr hlocks rfl hw dX10_isEntry_33
  · have hw := hw.2 c_2
    refine lv_iload_n hx hb dX10_isEntry_14 rfl (lv_at hl 2 rfl) ?_
    refine lv_iconst (v := (0 : Int32)) hx hb dX10_isEntry_15 (by decide) ?_
    refine lv_aload_n hx hb dX10_isEntry_16 rfl (lv_at hl 0 rfl) ?_
    refine gRX10_90 hx hb hown hts hK hP dX10_isEntry_17 ?_
    refine lv_iconst (v := (1 : Int32)) hx hb dX10_isEntry_20 (by decide) ?_
    refine lv_isub hx hb dX10_isEntry_21 ?_
    refine ro_i (va_runS (As := [.int x2, .int (0 : Int32), .int (i_columns - (1 : Int32))]) (rest := []) ⟨hx, hb, hml, hown, hts⟩ (c_X10_within l hw) (kRX10_60 (h := 0) hts (Nat.le_trans (Nat.le_of_ble_eq_true rfl) hRf) (Nat.le_trans (Nat.le_of_ble_eq_true rfl) hRl)) pre_0 rfl rfl hl.1 rfl (lv_room (Nat.le_of_ble_eq_true rfl)) dX10_isEntry_22 ⟨Nat.zero_le _, Nat.zero_le _⟩) (fun r_3 hw => ?_)
    refine lv_if_eq (tgt := 32) hx hb dX10_isEntry_25 (by decide) (fun c_4 => ?_) (fun c_4 => ?_)
    · have hw := hw.1 c_4
      refine lv_iconst (v := (0 : Int32)) hx hb dX10_isEntry_32 (by decide) ?_
      exact rt_z hx hb hr hlocks rfl hw dX10_isEntry_33
    · have hw := hw.2 c_4
      refine lv_iconst (v := (1 : Int32)) hx hb dX10_isEntry_28 (by decide) ?_
      refine lv_goto (tgt := 33) hx hb dX10_isEntry_29 (by decide) ?_
      exact rt_z hx hb hr hlocks rfl hw dX10_isEntry_33
set_option maxHeartbeats 4000000 in
set_option maxRecDepth 100000 in
theorem c_X10_entry (l : Launch) {D : va_G} {q : Nat → Nat} {cA : Nat → ClassId} {i_pageLength : Int32} {a_page : Nat → Int32} {i_states : Int32} {i_columns : Int32} {a_entries : Nat → Int32} {i_signals : Int32} {a_signalAt : Nat → Int32} {i_walksAt : Int32} {i_turned : Int32} {i_changed : Int32} {i_read : Int32} {i_newRows : Int32} {i_newEntries : Int32} {i_newColumns : Int32} {i_greatest : Int32} {a_newAt : Nat → Int32} {i_partings : Int32} {a_lowSet : Nat → Int32} {a_highSet : Nat → Int32} {i_leastMany : Int32} {a_leastAt : Nat → Int32} {a_tried : Nat → Int32} {a_keptLow : Nat → Int64} {a_keptHigh : Nat → Int64} {i_laid : Int32} {a_wants : Nat → Int32} {i_wide : Int32} {a_wideAsked : Nat → Int32} {a_wideOnes : Nat → Int32} {i_sum : Int32} {i_flickers : Int32} {a_sumAt : Nat → Int32} {j_h : Int64} {post : Int32 → Prop} {x1 : Int32} {x2 : Int32} (hw : wp_X10_entry post i_states i_columns a_entries x1 x2) : Met l yX10_entry (Cond.code yX10_entry cX10_entry 3 (some .int) :: wsL_law) (rmH 2) (va_Pc [.ref (q 0), .int x1, .int x2] (fun U => va_P D vwCl (wM q cA i_pageLength a_page i_states i_columns a_entries i_signals a_signalAt i_walksAt i_turned i_changed i_read i_newRows i_newEntries i_newColumns i_greatest a_newAt i_partings a_lowSet a_highSet i_leastMany a_leastAt a_tried a_keptLow a_keptHigh i_laid a_wants i_wide a_wideAsked a_wideOnes i_sum i_flickers a_sumAt j_h) U.heap ∧ va_K D vwCl (tyM cA) U)) (qRi post) 0 0 (fun _ => False) := by
  refine Met.ofW (cc := cX10_entry) (maxL := 3) (ret := (some .int)) (by decide) rfl ?_
  intro p e s m args below meth c s₁ B hml hv
  obtain ⟨rfl, hP, hK⟩ := hv
  have X : kC p (headSpec (Cond.code yX10_entry cX10_entry 3 (some .int) :: wsL_law) (rmH 2)).room s m _ meth c cX10_entry RX10 3 (some .int) 2 := ⟨B.exec, B.bytes, hml, findClass_of_methodNamed B.named, fun w h => atoms_spec (ws := Cond.code yX10_entry cX10_entry 3 (some .int) :: wsL_law) B.pre w (List.mem_cons_of_mem _ h), B.returns, B.notSynchronized, Nat.le_refl _, Nat.le_refl _⟩
  obtain ⟨hx, hb, hml, hown, hts, hr, hlocks, hRf, hRl⟩ := id X
  have hl := lv_entry ([.ref (q 0), .int x1, .int x2]) (n := 3) (Nat.le_of_ble_eq_true rfl)
  rw [lg_entry_eq]
  generalize (lg_sl ([.ref (q 0), .int x1, .int x2]) ++ List.replicate (3 - (lg_sl ([.ref (q 0), .int x1, .int x2])).length) Slot.unset).toArray = ls at hl ⊢
  have hl : lv_has ls 3 [(0, .ref (q 0)), (1, .int x1), (2, .int x2)] := hl
  refine lv_aload_n hx hb dX10_entry_0 rfl (lv_at hl 0 rfl) ?_
  refine lv_iload_n hx hb dX10_entry_1 rfl (lv_at hl 1 rfl) ?_
  refine lv_iload_n hx hb dX10_entry_2 rfl (lv_at hl 2 rfl) ?_
  refine ro_i (va_runV (As := [.int x1, .int x2]) (rest := []) ⟨hx, hb, hml, hown, hts⟩ (c_X10_isEntry l hw) (kRX10_114 (h := 1) hts (Nat.le_trans (Nat.le_of_ble_eq_true rfl) hRf) (Nat.le_trans (Nat.le_of_ble_eq_true rfl) hRl)) (preM hK hP) rfl rfl hl.1 rfl (lv_room (Nat.le_of_ble_eq_true rfl)) dX10_entry_3 ⟨Nat.zero_le _, Nat.zero_le _⟩) (fun r_1 hw => ?_)
  refine lv_if_eq (tgt := 18) hx hb dX10_entry_6 (by decide) (fun c_2 => ?_) (fun c_2 => ?_)
  · have hw := hw.1 c_2
    refine lv_sipush (v := ((-1001) : Int32)) hx hb dX10_entry_18 (by decide +kernel) ?_
    exact rt_i hx hb hr hlocks hw dX10_entry_21
  · have hw := hw.2 c_2
    refine lv_aload_n hx hb dX10_entry_9 rfl (lv_at hl 0 rfl) ?_
    refine lv_iload_n hx hb dX10_entry_10 rfl (lv_at hl 1 rfl) ?_
    refine lv_iload_n hx hb dX10_entry_11 rfl (lv_at hl 2 rfl) ?_
    refine ro_i (va_runV (As := [.int x1, .int x2]) (rest := []) ⟨hx, hb, hml, hown, hts⟩ (c_X10_entryAt l hw) (kRX10_118 (h := 0) hts (Nat.le_trans (Nat.le_of_ble_eq_true rfl) hRf) (Nat.le_trans (Nat.le_of_ble_eq_true rfl) hRl)) (preM hK hP) rfl rfl hl.1 rfl (lv_room (Nat.le_of_ble_eq_true rfl)) dX10_entry_12 ⟨Nat.zero_le _, Nat.zero_le _⟩) (fun r_3 hw => ?_)
    refine lv_goto (tgt := 21) hx hb dX10_entry_15 (by decide) ?_
    exact rt_i hx hb hr hlocks hw dX10_entry_21
set_option maxHeartbeats 4000000 in
set_option maxRecDepth 100000 in
theorem c_X9_about (l : Launch) {D : va_G} {q : Nat → Nat} {cA : Nat → ClassId} {Fc_unkept : Int32} {Fc_tablesRead : Int32} {Pg_letters : Nat → Int32} {Pg_size : Int32} {Pg_fault : Int32} {Pg_rows : Int32} {Pg_inRow : Int32} {Pg_width : Int32} {Fl_entries : Nat → Int32} {Fl_states : Int32} {Fl_columns : Int32} {Fl_moves : Int32} {Fl_stables : Int32} {Fl_amiss : Int32} {Fl_normal : Int32} {Pt_lessers : Nat → Int32} {Pt_greaters : Nat → Int32} {Pt_size : Int32} {Lc_signals : Nat → Int32} {Lc_kept : Nat → Int64} {Lc_keptFrom : Nat → Int64} {Lc_candidates : Int32} {Lc_size : Int32} {Sc_signals : Nat → Int32} {Sc_codes : Nat → Int32} {Sc_size : Int32} {Ai_codes : Nat → Int32} {Ai_bits : Int32} {Cu_seen : Nat → Int32} {Cu_inThrees : Nat → Int32} {Cu_all : Int32} {Lo_asked : Nat → Nat → Int32} {Lo_ones : Nat → Nat → Int32} {Lo_sum : Nat → Nat → Int32} {Lo_wideSize : Nat → Int32} {Lo_sumSize : Nat → Int32} {Lo_flickers : Nat → Int32} {Lo_ready : Nat → Int32} {Wa_at : Int32} {Wa_turns : Int32} {Wa_changes : Int32} {post : Int32 → Prop} {x1 : Int32} (hw : wp_X9_about post Fl_states Fl_moves Fl_stables Fl_amiss Fl_normal Pt_size x1) : Met l yX9_about (Cond.code yX9_about cX9_about 2 (some .int) :: wsL_law) (rmH 0) (va_Pc [.ref (q 0), .int x1] (fun U => va_P D vwCl (wC q cA Fc_unkept Fc_tablesRead Pg_letters Pg_size Pg_fault Pg_rows Pg_inRow Pg_width Fl_entries Fl_states Fl_columns Fl_moves Fl_stables Fl_amiss Fl_normal Pt_lessers Pt_greaters Pt_size Lc_signals Lc_kept Lc_keptFrom Lc_candidates Lc_size Sc_signals Sc_codes Sc_size Ai_codes Ai_bits Cu_seen Cu_inThrees Cu_all Lo_asked Lo_ones Lo_sum Lo_wideSize Lo_sumSize Lo_flickers Lo_ready Wa_at Wa_turns Wa_changes) U.heap ∧ va_K D vwCl (tyC cA) U ∧ nwC U)) (qRi post) 0 0 (fun _ => False) := by
  refine Met.ofW (cc := cX9_about) (maxL := 2) (ret := (some .int)) (by decide) rfl ?_
  intro p e s m args below meth c s₁ B hml hv
  obtain ⟨rfl, hP, hK, hN⟩ := hv
  have X : kC p (headSpec (Cond.code yX9_about cX9_about 2 (some .int) :: wsL_law) (rmH 0)).room s m _ meth c cX9_about RX9 2 (some .int) 0 := ⟨B.exec, B.bytes, hml, findClass_of_methodNamed B.named, fun w h => atoms_spec (ws := Cond.code yX9_about cX9_about 2 (some .int) :: wsL_law) B.pre w (List.mem_cons_of_mem _ h), B.returns, B.notSynchronized, Nat.le_refl _, Nat.le_refl _⟩
  obtain ⟨hx, hb, hml, hown, hts, hr, hlocks, hRf, hRl⟩ := id X
  have hl := lv_entry ([.ref (q 0), .int x1]) (n := 2) (Nat.le_of_ble_eq_true rfl)
  rw [lg_entry_eq]
  generalize (lg_sl ([.ref (q 0), .int x1]) ++ List.replicate (2 - (lg_sl ([.ref (q 0), .int x1])).length) Slot.unset).toArray = ls at hl ⊢
  have hl : lv_has ls 2 [(0, .ref (q 0)), (1, .int x1)] := hl
  refine lv_iload_n hx hb dX9_about_0 rfl (lv_at hl 1 rfl) ?_
  refine lv_if_lt (tgt := 9) hx hb dX9_about_1 (by decide) (fun c_1 => ?_) (fun c_1 => ?_)
  · have hw := hw.1 c_1
    refine lv_sipush (v := ((-1002) : Int32)) hx hb dX9_about_9 (by decide +kernel) ?_
    exact rt_i hx hb hr hlocks hw dX9_about_12
  · have hw := hw.2 c_1
    refine lv_iload_n hx hb dX9_about_4 rfl (lv_at hl 1 rfl) ?_
    refine lv_iconst (v := (4 : Int32)) hx hb dX9_about_5 (by decide) ?_
    refine lv_icmp_le (tgt := 13) hx hb dX9_about_6 (by decide) (fun c_2 => ?_) (fun c_2 => ?_)
    · have hw := hw.1 c_2
      refine lv_aload_n hx hb dX9_about_13 rfl (lv_at hl 0 rfl) ?_
      refine gRX9_19 hx hb hown hts hK hP dX9_about_14 ?_
      refine gRX9_118 hx hb hown hts hK hN hP dX9_about_17 ?_
      refine lv_if_ne (tgt := 27) hx hb dX9_about_20 (by decide) (fun c_3 => ?_) (fun c_3 => ?_)
      · have hw := hw.2 c_3
        refine lv_iload_n hx hb dX9_about_27 rfl (lv_at hl 1 rfl) ?_
        by_cases c_4 : x1 = (0 : Int32)
        · have hw := hw.1 c_4
          refine sw_in (k := (0 : Int32)) (off := 32) (tgt := 60) hx hb dX9_about_28 c_4 (by decide) (by decide) (by decide) (by decide) ?_
          refine lv_aload_n hx hb dX9_about_60 rfl (lv_at hl 0 rfl) ?_
          refine gRX9_19 hx hb hown hts hK hP dX9_about_61 ?_
          refine gRX9_110 hx hb hown hts hK hN hP dX9_about_64 ?_
          refine lv_if_eq (tgt := 74) hx hb dX9_about_67 (by decide) (fun c_8 => ?_) (fun c_8 => ?_)
          · have hw := hw.1 c_8
            refine lv_iconst (v := (0 : Int32)) hx hb dX9_about_74 (by decide) ?_
            exact rt_i hx hb hr hlocks hw dX9_about_75
          · have hw := hw.2 c_8
            refine lv_iconst (v := (1 : Int32)) hx hb dX9_about_70 (by decide) ?_
            refine lv_goto (tgt := 75) hx hb dX9_about_71 (by decide) ?_
            exact rt_i hx hb hr hlocks hw dX9_about_75
        · have hw := hw.2 c_4
          by_cases c_5 : x1 = (1 : Int32)
          · have hw := hw.1 c_5
            refine sw_in (k := (1 : Int32)) (off := 48) (tgt := 76) hx hb dX9_about_28 c_5 (by decide) (by decide) (by decide) (by decide) ?_
            refine lv_aload_n hx hb dX9_about_76 rfl (lv_at hl 0 rfl) ?_
            refine gRX9_19 hx hb hown hts hK hP dX9_about_77 ?_
            refine gRX9_142 hx hb hown hts hK hN hP dX9_about_80 ?_
            exact rt_i hx hb hr hlocks hw dX9_about_83
          · have hw := hw.2 c_5
            by_cases c_6 : x1 = (2 : Int32)
            · have hw := hw.1 c_6
              refine sw_in (k := (2 : Int32)) (off := 56) (tgt := 84) hx hb dX9_about_28 c_6 (by decide) (by decide) (by decide) (by decide) ?_
              refine lv_aload_n hx hb dX9_about_84 rfl (lv_at hl 0 rfl) ?_
              refine gRX9_19 hx hb hown hts hK hP dX9_about_85 ?_
              refine gRX9_145 hx hb hown hts hK hN hP dX9_about_88 ?_
              exact rt_i hx hb hr hlocks hw dX9_about_91
            · have hw := hw.2 c_6
              by_cases c_7 : x1 = (3 : Int32)
              · have hw := hw.1 c_7
                refine sw_in (k := (3 : Int32)) (off := 64) (tgt := 92) hx hb dX9_about_28 c_7 (by decide) (by decide) (by decide) (by decide) ?_
                refine lv_aload_n hx hb dX9_about_92 rfl (lv_at hl 0 rfl) ?_
                refine gRX9_19 hx hb hown hts hK hP dX9_about_93 ?_
                refine gRX9_148 hx hb hown hts hK hN hP dX9_about_96 ?_
                exact rt_i hx hb hr hlocks hw dX9_about_99
              · have hw := hw.2 c_7
                refine lv_tableOut (tgt := 100) hx hb dX9_about_28 (by have q0 := lv_neT c_4 (a := 0) (by decide); have q1 := lv_neT c_5 (a := 1) (by decide); have q2 := lv_neT c_6 (a := 2) (by decide); have q3 := lv_neT c_7 (a := 3) (by decide); omega) (by decide) ?_
                refine lv_aload_n hx hb dX9_about_100 rfl (lv_at hl 0 rfl) ?_
                refine gRX9_19 hx hb hown hts hK hP dX9_about_101 ?_
                refine gRX9_110 hx hb hown hts hK hN hP dX9_about_104 ?_
                refine lv_if_eq (tgt := 120) hx hb dX9_about_107 (by decide) (fun c_9 => ?_) (fun c_9 => ?_)
                · have hw := hw.1 c_9
                  refine lv_iconst (v := ((-1) : Int32)) hx hb dX9_about_120 (by decide) ?_
                  exact rt_i hx hb hr hlocks hw dX9_about_121
                · have hw := hw.2 c_9
                  refine lv_aload_n hx hb dX9_about_110 rfl (lv_at hl 0 rfl) ?_
                  refine gRX9_26 hx hb hown hts hK hP dX9_about_111 ?_
                  refine gRX9_151 hx hb hown hts hK hN hP dX9_about_114 ?_
                  refine lv_goto (tgt := 121) hx hb dX9_about_117 (by decide) ?_
                  exact rt_i hx hb hr hlocks hw dX9_about_121
      · have hw := hw.1 c_3
        refine lv_sipush (v := ((-1003) : Int32)) hx hb dX9_about_23 (by decide +kernel) ?_
        exact rt_i hx hb hr hlocks hw dX9_about_26
    · have hw := hw.2 c_2
      refine lv_sipush (v := ((-1002) : Int32)) hx hb dX9_about_9 (by decide +kernel) ?_
      exact rt_i hx hb hr hlocks hw dX9_about_12
set_option maxHeartbeats 4000000 in
set_option maxRecDepth 100000 in
theorem t_X10_movesMany_15 {p : Program} {l : Launch} {e : Env} {R : Room} {s : State} {m : MethodId} {args : Array Value} {below : List Frame} {meth : Method} {c : Code} {D : va_G} {q : Nat → Nat} {cA : Nat → ClassId} {i_pageLength : Int32} {a_page : Nat → Int32} {i_states : Int32} {i_columns : Int32} {a_entries : Nat → Int32} {i_signals : Int32} {a_signalAt : Nat → Int32} {i_walksAt : Int32} {i_turned : Int32} {i_changed : Int32} {i_read : Int32} {i_newRows : Int32} {i_newEntries : Int32} {i_newColumns : Int32} {i_greatest : Int32} {a_newAt : Nat → Int32} {i_partings : Int32} {a_lowSet : Nat → Int32} {a_highSet : Nat → Int32} {i_leastMany : Int32} {a_leastAt : Nat → Int32} {a_tried : Nat → Int32} {a_keptLow : Nat → Int64} {a_keptHigh : Nat → Int64} {i_laid : Int32} {a_wants : Nat → Int32} {i_wide : Int32} {a_wideAsked : Nat → Int32} {a_wideOnes : Nat → Int32} {i_sum : Int32} {i_flickers : Int32} {a_sumAt : Nat → Int32} {j_h : Int64} {post : Int32 → Prop} {KE : Int32 → Prop} {x1 : Int32} {x3 : Int32} (X : kC p R s m args meth c cX10_movesMany RX10 6 (some .int) 1) (hK : va_K D vwCl (tyM cA) s) (hP : va_P D vwCl (wM q cA i_pageLength a_page i_states i_columns a_entries i_signals a_signalAt i_walksAt i_turned i_changed i_read i_newRows i_newEntries i_newColumns i_greatest a_newAt i_partings a_lowSet a_highSet i_leastMany a_leastAt a_tried a_keptLow a_keptHigh i_laid a_wants i_wide a_wideAsked a_wideOnes i_sum i_flickers a_sumAt j_h) s.heap) (hE : ∀ (x2 : Int32), KE x2 → ∀ (ls : Array Slot), lv_has ls 6 [(0, .ref (q 0)), (1, .int x1), (2, .int x2), (3, .int x3)] → W p l e R s m args below meth c s.heap [] 0 0 (MQ below (qRi post) args s 0 0 (fun _ => False)) (F0 m 63 ls [])) : ∀ (n : Nat) (x2 : Int32) (x4 : Int32), w_X10_movesMany_15 KE i_columns a_entries x1 x3 n x2 x4 → ∀ (ls : Array Slot), lv_has ls 6 [(0, .ref (q 0)), (1, .int x1), (2, .int x2), (3, .int x3), (4, .int x4)] → W p l e R s m args below meth c s.heap [] 0 0 (MQ below (qRi post) args s 0 0 (fun _ => False)) (F0 m 15 ls []) := by
  obtain ⟨hx, hb, hml, hown, hts, hr, hlocks, hRf, hRl⟩ := id X
  intro n
  induction n with
  | zero => intro x2 x4 hw; exact (show False from hw).elim
  | succ n ih =>
    intro x2 x4 hw ls hl
    refine lv_iload hx hb dX10_movesMany_15 (lv_at hl 4 rfl) ?_
    refine lv_aload_n hx hb dX10_movesMany_17 rfl (lv_at hl 0 rfl) ?_
    refine gRX10_90 hx hb hown hts hK hP dX10_movesMany_18 ?_
    refine lv_icmp_ge (tgt := 63) hx hb dX10_movesMany_21 (by decide) (fun c_2 => ?_) (fun c_2 => ?_)
    · have hw := hw.1 c_2
      exact hE _ hw ls (lv_sub hl [0, 1, 2, 3] rfl)
    · have hw := hw.2 c_2
      refine lv_aload_n hx hb dX10_movesMany_24 rfl (lv_at hl 0 rfl) ?_
      refine lv_iload_n hx hb dX10_movesMany_25 rfl (lv_at hl 3 rfl) ?_
      refine lv_iload hx hb dX10_movesMany_26 (lv_at hl 4 rfl) ?_
      refine ro_i (va_runV (As := [.int x3, .int x4]) (rest := []) ⟨hx, hb, hml, hown, hts⟩ (c_X10_entryAt l hw) (kRX10_118 (h := 0) hts (Nat.le_trans (Nat.le_of_ble_eq_true rfl) hRf) (Nat.le_trans (Nat.le_of_ble_eq_true rfl) hRl)) (preM hK hP) rfl rfl hl.1 rfl (lv_room (Nat.le_of_ble_eq_true rfl)) dX10_movesMany_28 ⟨Nat.zero_le _, Nat.zero_le _⟩) (fun r_3 hw => ?_)
      refine lv_istore (lv' := [(5, .int r_3), (0, .ref (q 0)), (1, .int x1), (2, .int x2), (3, .int x3), (4, .int x4)]) hx hb dX10_movesMany_31 hl (by decide) rfl (fun ls hl => ?_)
      refine lv_iload_n hx hb dX10_movesMany_33 rfl (lv_at hl 3 rfl) ?_
      refine lv_iload hx hb dX10_movesMany_34 (lv_at hl 0 rfl) ?_
      refine lv_iconst (v := ((-1) : Int32)) hx hb dX10_movesMany_36 (by decide) ?_
      refine lv_icmp_eq (tgt := 54) hx hb dX10_movesMany_37 (by decide) (fun c_4 => ?_) (fun c_4 => ?_)
      · have hw := hw.1 c_4
        refine lv_iconst (v := (0 : Int32)) hx hb dX10_movesMany_54 (by decide) ?_
        refine lv_iadd hx hb dX10_movesMany_55 ?_
        refine lv_topi (fun x2_5 e_5 => ?_)
        have hw := hw x2_5 e_5
        refine lv_istore_n (lv' := [(2, .int x2_5), (5, .int r_3), (0, .ref (q 0)), (1, .int x1), (3, .int x3), (4, .int x4)]) hx hb dX10_movesMany_56 rfl hl (by decide) rfl (fun ls hl => ?_)
        obtain ⟨x4_6, e_6⟩ : ∃ z : Int32, z = x4 + (1 : Int32) := ⟨_, rfl⟩
        have hw := hw x4_6 e_6
        refine lv_iinc (v := x4_6) (lv' := [(4, .int x4_6), (2, .int x2_5), (5, .int r_3), (0, .ref (q 0)), (1, .int x1), (3, .int x3)]) hx hb dX10_movesMany_57 hl (k := 5) rfl (by rw [e_6]; rfl) (by decide) rfl (fun ls hl => ?_)
        refine lv_goto (tgt := 15) hx hb dX10_movesMany_60 (by decide) ?_
        exact ih _ _ hw ls (lv_sub hl [3, 4, 1, 5, 0] rfl)
      · have hw := hw.2 c_4
        refine lv_iload_n hx hb dX10_movesMany_40 rfl (lv_at hl 2 rfl) ?_
        refine lv_if_eq (tgt := 50) hx hb dX10_movesMany_41 (by decide) (fun c_7 => ?_) (fun c_7 => ?_)
        · have hw := hw.1 c_7
          refine lv_iconst (v := (1 : Int32)) hx hb dX10_movesMany_50 (by decide) ?_
          refine lv_goto (tgt := 55) hx hb dX10_movesMany_51 (by decide) ?_
          refine lv_iadd hx hb dX10_movesMany_55 ?_
          refine lv_topi (fun x2_8 e_8 => ?_)
          have hw := hw x2_8 e_8
          refine lv_istore_n (lv' := [(2, .int x2_8), (5, .int r_3), (0, .ref (q 0)), (1, .int x1), (3, .int x3), (4, .int x4)]) hx hb dX10_movesMany_56 rfl hl (by decide) rfl (fun ls hl => ?_)
          obtain ⟨x4_9, e_9⟩ : ∃ z : Int32, z = x4 + (1 : Int32) := ⟨_, rfl⟩
          have hw := hw x4_9 e_9
          refine lv_iinc (v := x4_9) (lv' := [(4, .int x4_9), (2, .int x2_8), (5, .int r_3), (0, .ref (q 0)), (1, .int x1), (3, .int x3)]) hx hb dX10_movesMany_57 hl (k := 5) rfl (by rw [e_9]; rfl) (by decide) rfl (fun ls hl => ?_)
          refine lv_goto (tgt := 15) hx hb dX10_movesMany_60 (by decide) ?_
          exact ih _ _ hw ls (lv_sub hl [3, 4, 1, 5, 0] rfl)
        · have hw := hw.2 c_7
          refine lv_iload hx hb dX10_movesMany_44 (lv_at hl 0 rfl) ?_
          refine lv_iload_n hx hb dX10_movesMany_46 rfl (lv_at hl 4 rfl) ?_
          refine lv_icmp_ne (tgt := 54) hx hb dX10_movesMany_47 (by decide) (fun c_10 => ?_) (fun c_10 => ?_)
          · have hw := hw.2 c_10
            refine lv_iconst (v := (0 : Int32)) hx hb dX10_movesMany_54 (by decide) ?_
            refine lv_iadd hx hb dX10_movesMany_55 ?_
            refine lv_topi (fun x2_11 e_11 => ?_)
            have hw := hw x2_11 e_11
            refine lv_istore_n (lv' := [(2, .int x2_11), (5, .int r_3), (0, .ref (q 0)), (1, .int x1), (3, .int x3), (4, .int x4)]) hx hb dX10_movesMany_56 rfl hl (by decide) rfl (fun ls hl => ?_)
            obtain ⟨x4_12, e_12⟩ : ∃ z : Int32, z = x4 + (1 : Int32) := ⟨_, rfl⟩
            have hw := hw x4_12 e_12
            refine lv_iinc (v := x4_12) (lv' := [(4, .int x4_12), (2, .int x2_11), (5, .int r_3), (0, .ref (q 0)), (1, .int x1), (3, .int x3)]) hx hb dX10_movesMany_57 hl (k := 5) rfl (by rw [e_12]; rfl) (by decide) rfl (fun ls hl => ?_)
            refine lv_goto (tgt := 15) hx hb dX10_movesMany_60 (by decide) ?_
            exact ih _ _ hw ls (lv_sub hl [3, 4, 1, 5, 0] rfl)
          · have hw := hw.1 c_10
            refine lv_iconst (v := (1 : Int32)) hx hb dX10_movesMany_50 (by decide) ?_
            refine lv_goto (tgt := 55) hx hb dX10_movesMany_51 (by decide) ?_
            refine lv_iadd hx hb dX10_movesMany_55 ?_
            refine lv_topi (fun x2_13 e_13 => ?_)
            have hw := hw x2_13 e_13
            refine lv_istore_n (lv' := [(2, .int x2_13), (5, .int r_3), (0, .ref (q 0)), (1, .int x1), (3, .int x3), (4, .int x4)]) hx hb dX10_movesMany_56 rfl hl (by decide) rfl (fun ls hl => ?_)
            obtain ⟨x4_14, e_14⟩ : ∃ z : Int32, z = x4 + (1 : Int32) := ⟨_, rfl⟩
            have hw := hw x4_14 e_14
            refine lv_iinc (v := x4_14) (lv' := [(4, .int x4_14), (2, .int x2_13), (5, .int r_3), (0, .ref (q 0)), (1, .int x1), (3, .int x3)]) hx hb dX10_movesMany_57 hl (k := 5) rfl (by rw [e_14]; rfl) (by decide) rfl (fun ls hl => ?_)
            refine lv_goto (tgt := 15) hx hb dX10_movesMany_60 (by decide) ?_
            exact ih _ _ hw ls (lv_sub hl [3, 4, 1, 5, 0] rfl)
set_option maxHeartbeats 4000000 in
set_option maxRecDepth 100000 in
theorem t_X10_movesMany_4 {p : Program} {l : Launch} {e : Env} {R : Room} {s : State} {m : MethodId} {args : Array Value} {below : List Frame} {meth : Method} {c : Code} {D : va_G} {q : Nat → Nat} {cA : Nat → ClassId} {i_pageLength : Int32} {a_page : Nat → Int32} {i_states : Int32} {i_columns : Int32} {a_entries : Nat → Int32} {i_signals : Int32} {a_signalAt : Nat → Int32} {i_walksAt : Int32} {i_turned : Int32} {i_changed : Int32} {i_read : Int32} {i_newRows : Int32} {i_newEntries : Int32} {i_newColumns : Int32} {i_greatest : Int32} {a_newAt : Nat → Int32} {i_partings : Int32} {a_lowSet : Nat → Int32} {a_highSet : Nat → Int32} {i_leastMany : Int32} {a_leastAt : Nat → Int32} {a_tried : Nat → Int32} {a_keptLow : Nat → Int64} {a_keptHigh : Nat → Int64} {i_laid : Int32} {a_wants : Nat → Int32} {i_wide : Int32} {a_wideAsked : Nat → Int32} {a_wideOnes : Nat → Int32} {i_sum : Int32} {i_flickers : Int32} {a_sumAt : Nat → Int32} {j_h : Int64} {post : Int32 → Prop} {KE : Int32 → Prop} {x1 : Int32} (X : kC p R s m args meth c cX10_movesMany RX10 6 (some .int) 1) (hK : va_K D vwCl (tyM cA) s) (hP : va_P D vwCl (wM q cA i_pageLength a_page i_states i_columns a_entries i_signals a_signalAt i_walksAt i_turned i_changed i_read i_newRows i_newEntries i_newColumns i_greatest a_newAt i_partings a_lowSet a_highSet i_leastMany a_leastAt a_tried a_keptLow a_keptHigh i_laid a_wants i_wide a_wideAsked a_wideOnes i_sum i_flickers a_sumAt j_h) s.heap) (hE : ∀ (x2 : Int32), KE x2 → ∀ (ls : Array Slot), lv_has ls 6 [(2, .int x2)] → W p l e R s m args below meth c s.heap [] 0 0 (MQ below (qRi post) args s 0 0 (fun _ => False)) (F0 m 69 ls [])) : ∀ (n : Nat) (x2 : Int32) (x3 : Int32), w_X10_movesMany_4 KE i_states i_columns a_entries x1 n x2 x3 → ∀ (ls : Array Slot), lv_has ls 6 [(0, .ref (q 0)), (1, .int x1), (2, .int x2), (3, .int x3)] → W p l e R s m args below meth c s.heap [] 0 0 (MQ below (qRi post) args s 0 0 (fun _ => False)) (F0 m 4 ls []) := by
  obtain ⟨hx, hb, hml, hown, hts, hr, hlocks, hRf, hRl⟩ := id X
  intro n
  induction n with
  | zero => intro x2 x3 hw; exact (show False from hw).elim
  | succ n ih =>
    intro x2 x3 hw ls hl
    refine lv_iload_n hx hb dX10_movesMany_4 rfl (lv_at hl 3 rfl) ?_
    refine lv_aload_n hx hb dX10_movesMany_5 rfl (lv_at hl 0 rfl) ?_
    refine gRX10_87 hx hb hown hts hK hP dX10_movesMany_6 ?_
    refine lv_icmp_ge (tgt := 69) hx hb dX10_movesMany_9 (by decide) (fun c_1 => ?_) (fun c_1 => ?_)
    · have hw := hw.1 c_1
      exact hE _ hw ls (lv_sub hl [2] rfl)
    · have hw := hw.2 c_1
      refine lv_iconst (v := (0 : Int32)) hx hb dX10_movesMany_12 (by decide) ?_
      refine lv_istore (lv' := [(4, .int (0 : Int32)), (0, .ref (q 0)), (1, .int x1), (2, .int x2), (3, .int x3)]) hx hb dX10_movesMany_13 hl (by decide) rfl (fun ls hl => ?_)
      obtain ⟨n_15, hw⟩ := hw
      refine t_X10_movesMany_15 X hK hP (fun x2_15 hw ls hl => ?_) n_15 _ _ hw ls (lv_sub hl [1, 2, 3, 4, 0] rfl)
      obtain ⟨x3_16, e_16⟩ : ∃ z : Int32, z = x3 + (1 : Int32) := ⟨_, rfl⟩
      have hw := hw x3_16 e_16
      refine lv_iinc (v := x3_16) (lv' := [(3, .int x3_16), (0, .ref (q 0)), (1, .int x1), (2, .int x2_15)]) hx hb dX10_movesMany_63 hl (k := 3) rfl (by rw [e_16]; rfl) (by decide) rfl (fun ls hl => ?_)
      refine lv_goto (tgt := 4) hx hb dX10_movesMany_66 (by decide) ?_
      exact ih _ _ hw ls (lv_sub hl [1, 2, 3, 0] rfl)
set_option maxHeartbeats 4000000 in
set_option maxRecDepth 100000 in
theorem c_X10_movesMany (l : Launch) {D : va_G} {q : Nat → Nat} {cA : Nat → ClassId} {i_pageLength : Int32} {a_page : Nat → Int32} {i_states : Int32} {i_columns : Int32} {a_entries : Nat → Int32} {i_signals : Int32} {a_signalAt : Nat → Int32} {i_walksAt : Int32} {i_turned : Int32} {i_changed : Int32} {i_read : Int32} {i_newRows : Int32} {i_newEntries : Int32} {i_newColumns : Int32} {i_greatest : Int32} {a_newAt : Nat → Int32} {i_partings : Int32} {a_lowSet : Nat → Int32} {a_highSet : Nat → Int32} {i_leastMany : Int32} {a_leastAt : Nat → Int32} {a_tried : Nat → Int32} {a_keptLow : Nat → Int64} {a_keptHigh : Nat → Int64} {i_laid : Int32} {a_wants : Nat → Int32} {i_wide : Int32} {a_wideAsked : Nat → Int32} {a_wideOnes : Nat → Int32} {i_sum : Int32} {i_flickers : Int32} {a_sumAt : Nat → Int32} {j_h : Int64} {post : Int32 → Prop} {x1 : Int32} (hw : wp_X10_movesMany post i_states i_columns a_entries x1) : Met l yX10_movesMany (Cond.code yX10_movesMany cX10_movesMany 6 (some .int) :: wsL_law) (rmH 1) (va_Pc [.ref (q 0), .int x1] (fun U => va_P D vwCl (wM q cA i_pageLength a_page i_states i_columns a_entries i_signals a_signalAt i_walksAt i_turned i_changed i_read i_newRows i_newEntries i_newColumns i_greatest a_newAt i_partings a_lowSet a_highSet i_leastMany a_leastAt a_tried a_keptLow a_keptHigh i_laid a_wants i_wide a_wideAsked a_wideOnes i_sum i_flickers a_sumAt j_h) U.heap ∧ va_K D vwCl (tyM cA) U)) (qRi post) 0 0 (fun _ => False) := by
  refine Met.ofW (cc := cX10_movesMany) (maxL := 6) (ret := (some .int)) (by decide) rfl ?_
  intro p e s m args below meth c s₁ B hml hv
  obtain ⟨rfl, hP, hK⟩ := hv
  have X : kC p (headSpec (Cond.code yX10_movesMany cX10_movesMany 6 (some .int) :: wsL_law) (rmH 1)).room s m _ meth c cX10_movesMany RX10 6 (some .int) 1 := ⟨B.exec, B.bytes, hml, findClass_of_methodNamed B.named, fun w h => atoms_spec (ws := Cond.code yX10_movesMany cX10_movesMany 6 (some .int) :: wsL_law) B.pre w (List.mem_cons_of_mem _ h), B.returns, B.notSynchronized, Nat.le_refl _, Nat.le_refl _⟩
  obtain ⟨hx, hb, hml, hown, hts, hr, hlocks, hRf, hRl⟩ := id X
  have hl := lv_entry ([.ref (q 0), .int x1]) (n := 6) (Nat.le_of_ble_eq_true rfl)
  rw [lg_entry_eq]
  generalize (lg_sl ([.ref (q 0), .int x1]) ++ List.replicate (6 - (lg_sl ([.ref (q 0), .int x1])).length) Slot.unset).toArray = ls at hl ⊢
  have hl : lv_has ls 6 [(0, .ref (q 0)), (1, .int x1)] := hl
  refine lv_iconst (v := (0 : Int32)) hx hb dX10_movesMany_0 (by decide) ?_
  refine lv_istore_n (lv' := [(2, .int (0 : Int32)), (0, .ref (q 0)), (1, .int x1)]) hx hb dX10_movesMany_1 rfl hl (by decide) rfl (fun ls hl => ?_)
  refine lv_iconst (v := (0 : Int32)) hx hb dX10_movesMany_2 (by decide) ?_
  refine lv_istore_n (lv' := [(3, .int (0 : Int32)), (2, .int (0 : Int32)), (0, .ref (q 0)), (1, .int x1)]) hx hb dX10_movesMany_3 rfl hl (by decide) rfl (fun ls hl => ?_)
  obtain ⟨n_17, hw⟩ := hw
  refine t_X10_movesMany_4 X hK hP (fun x2_17 hw ls hl => ?_) n_17 _ _ hw ls (lv_sub hl [2, 3, 1, 0] rfl)
  refine lv_iload_n hx hb dX10_movesMany_69 rfl (lv_at hl 0 rfl) ?_
  exact rt_i hx hb hr hlocks hw dX10_movesMany_70
set_option maxHeartbeats 4000000 in
set_option maxRecDepth 100000 in
theorem c_X10_aboutNow (l : Launch) {D : va_G} {q : Nat → Nat} {cA : Nat → ClassId} {i_pageLength : Int32} {a_page : Nat → Int32} {i_states : Int32} {i_columns : Int32} {a_entries : Nat → Int32} {i_signals : Int32} {a_signalAt : Nat → Int32} {i_walksAt : Int32} {i_turned : Int32} {i_changed : Int32} {i_read : Int32} {i_newRows : Int32} {i_newEntries : Int32} {i_newColumns : Int32} {i_greatest : Int32} {a_newAt : Nat → Int32} {i_partings : Int32} {a_lowSet : Nat → Int32} {a_highSet : Nat → Int32} {i_leastMany : Int32} {a_leastAt : Nat → Int32} {a_tried : Nat → Int32} {a_keptLow : Nat → Int64} {a_keptHigh : Nat → Int64} {i_laid : Int32} {a_wants : Nat → Int32} {i_wide : Int32} {a_wideAsked : Nat → Int32} {a_wideOnes : Nat → Int32} {i_sum : Int32} {i_flickers : Int32} {a_sumAt : Nat → Int32} {j_h : Int64} {post : Int32 → Prop} {x1 : Int32} (hw : wp_X10_aboutNow post i_states i_columns a_entries i_partings x1) : Met l yX10_aboutNow (Cond.code yX10_aboutNow cX10_aboutNow 2 (some .int) :: wsL_law) (rmH 3) (va_Pc [.ref (q 0), .int x1] (fun U => va_P D vwCl (wM q cA i_pageLength a_page i_states i_columns a_entries i_signals a_signalAt i_walksAt i_turned i_changed i_read i_newRows i_newEntries i_newColumns i_greatest a_newAt i_partings a_lowSet a_highSet i_leastMany a_leastAt a_tried a_keptLow a_keptHigh i_laid a_wants i_wide a_wideAsked a_wideOnes i_sum i_flickers a_sumAt j_h) U.heap ∧ va_K D vwCl (tyM cA) U)) (qRi post) 0 0 (fun _ => False) := by
  refine Met.ofW (cc := cX10_aboutNow) (maxL := 2) (ret := (some .int)) (by decide) rfl ?_
  intro p e s m args below meth c s₁ B hml hv
  obtain ⟨rfl, hP, hK⟩ := hv
  have X : kC p (headSpec (Cond.code yX10_aboutNow cX10_aboutNow 2 (some .int) :: wsL_law) (rmH 3)).room s m _ meth c cX10_aboutNow RX10 2 (some .int) 3 := ⟨B.exec, B.bytes, hml, findClass_of_methodNamed B.named, fun w h => atoms_spec (ws := Cond.code yX10_aboutNow cX10_aboutNow 2 (some .int) :: wsL_law) B.pre w (List.mem_cons_of_mem _ h), B.returns, B.notSynchronized, Nat.le_refl _, Nat.le_refl _⟩
  obtain ⟨hx, hb, hml, hown, hts, hr, hlocks, hRf, hRl⟩ := id X
  have hl := lv_entry ([.ref (q 0), .int x1]) (n := 2) (Nat.le_of_ble_eq_true rfl)
  rw [lg_entry_eq]
  generalize (lg_sl ([.ref (q 0), .int x1]) ++ List.replicate (2 - (lg_sl ([.ref (q 0), .int x1])).length) Slot.unset).toArray = ls at hl ⊢
  have hl : lv_has ls 2 [(0, .ref (q 0)), (1, .int x1)] := hl
  refine lv_iload_n hx hb dX10_aboutNow_0 rfl (lv_at hl 1 rfl) ?_
  by_cases c_1 : x1 = (0 : Int32)
  · have hw := hw.1 c_1
    refine sw_in (k := (0 : Int32)) (off := 31) (tgt := 32) hx hb dX10_aboutNow_1 c_1 (by decide) (by decide) (by decide) (by decide) ?_
    refine lv_aload_n hx hb dX10_aboutNow_32 rfl (lv_at hl 0 rfl) ?_
    refine ro_i (va_runV (As := []) (rest := []) ⟨hx, hb, hml, hown, hts⟩ (c_X10_isNormal l hw) (kRX10_125 (h := 2) hts (Nat.le_trans (Nat.le_of_ble_eq_true rfl) hRf) (Nat.le_trans (Nat.le_of_ble_eq_true rfl) hRl)) (preM hK hP) rfl rfl hl.1 rfl (lv_room (Nat.le_of_ble_eq_true rfl)) dX10_aboutNow_33 ⟨Nat.zero_le _, Nat.zero_le _⟩) (fun r_5 hw => ?_)
    refine lv_if_eq (tgt := 43) hx hb dX10_aboutNow_36 (by decide) (fun c_6 => ?_) (fun c_6 => ?_)
    · have hw := hw.1 c_6
      refine lv_iconst (v := (0 : Int32)) hx hb dX10_aboutNow_43 (by decide) ?_
      exact rt_i hx hb hr hlocks hw dX10_aboutNow_44
    · have hw := hw.2 c_6
      refine lv_iconst (v := (1 : Int32)) hx hb dX10_aboutNow_39 (by decide) ?_
      refine lv_goto (tgt := 44) hx hb dX10_aboutNow_40 (by decide) ?_
      exact rt_i hx hb hr hlocks hw dX10_aboutNow_44
  · have hw := hw.2 c_1
    by_cases c_2 : x1 = (1 : Int32)
    · have hw := hw.1 c_2
      refine sw_in (k := (1 : Int32)) (off := 44) (tgt := 45) hx hb dX10_aboutNow_1 c_2 (by decide) (by decide) (by decide) (by decide) ?_
      refine lv_aload_n hx hb dX10_aboutNow_45 rfl (lv_at hl 0 rfl) ?_
      refine ro_i (va_runV (As := []) (rest := []) ⟨hx, hb, hml, hown, hts⟩ (c_X10_amiss l hw) (kRX10_122 (h := 1) hts (Nat.le_trans (Nat.le_of_ble_eq_true rfl) hRf) (Nat.le_trans (Nat.le_of_ble_eq_true rfl) hRl)) (preM hK hP) rfl rfl hl.1 rfl (lv_room (Nat.le_of_ble_eq_true rfl)) dX10_aboutNow_46 ⟨Nat.zero_le _, Nat.zero_le _⟩) (fun r_7 hw => ?_)
      exact rt_i hx hb hr hlocks hw dX10_aboutNow_49
    · have hw := hw.2 c_2
      by_cases c_3 : x1 = (2 : Int32)
      · have hw := hw.1 c_3
        refine sw_in (k := (2 : Int32)) (off := 49) (tgt := 50) hx hb dX10_aboutNow_1 c_3 (by decide) (by decide) (by decide) (by decide) ?_
        refine lv_aload_n hx hb dX10_aboutNow_50 rfl (lv_at hl 0 rfl) ?_
        refine lv_iconst (v := (0 : Int32)) hx hb dX10_aboutNow_51 (by decide) ?_
        refine ro_i (va_runV (As := [.int (0 : Int32)]) (rest := []) ⟨hx, hb, hml, hown, hts⟩ (c_X10_movesMany l hw) (kRX10_129 (h := 1) hts (Nat.le_trans (Nat.le_of_ble_eq_true rfl) hRf) (Nat.le_trans (Nat.le_of_ble_eq_true rfl) hRl)) (preM hK hP) rfl rfl hl.1 rfl (lv_room (Nat.le_of_ble_eq_true rfl)) dX10_aboutNow_52 ⟨Nat.zero_le _, Nat.zero_le _⟩) (fun r_8 hw => ?_)
        exact rt_i hx hb hr hlocks hw dX10_aboutNow_55
      · have hw := hw.2 c_3
        by_cases c_4 : x1 = (3 : Int32)
        · have hw := hw.1 c_4
          refine sw_in (k := (3 : Int32)) (off := 55) (tgt := 56) hx hb dX10_aboutNow_1 c_4 (by decide) (by decide) (by decide) (by decide) ?_
          refine lv_aload_n hx hb dX10_aboutNow_56 rfl (lv_at hl 0 rfl) ?_
          refine lv_iconst (v := (1 : Int32)) hx hb dX10_aboutNow_57 (by decide) ?_
          refine ro_i (va_runV (As := [.int (1 : Int32)]) (rest := []) ⟨hx, hb, hml, hown, hts⟩ (c_X10_movesMany l hw) (kRX10_129 (h := 1) hts (Nat.le_trans (Nat.le_of_ble_eq_true rfl) hRf) (Nat.le_trans (Nat.le_of_ble_eq_true rfl) hRl)) (preM hK hP) rfl rfl hl.1 rfl (lv_room (Nat.le_of_ble_eq_true rfl)) dX10_aboutNow_58 ⟨Nat.zero_le _, Nat.zero_le _⟩) (fun r_9 hw => ?_)
          exact rt_i hx hb hr hlocks hw dX10_aboutNow_61
        · have hw := hw.2 c_4
          refine lv_tableOut (tgt := 62) hx hb dX10_aboutNow_1 (by have q0 := lv_neT c_1 (a := 0) (by decide); have q1 := lv_neT c_2 (a := 1) (by decide); have q2 := lv_neT c_3 (a := 2) (by decide); have q3 := lv_neT c_4 (a := 3) (by decide); omega) (by decide) ?_
          refine lv_aload_n hx hb dX10_aboutNow_62 rfl (lv_at hl 0 rfl) ?_
          refine ro_i (va_runV (As := []) (rest := []) ⟨hx, hb, hml, hown, hts⟩ (c_X10_isNormal l hw) (kRX10_125 (h := 2) hts (Nat.le_trans (Nat.le_of_ble_eq_true rfl) hRf) (Nat.le_trans (Nat.le_of_ble_eq_true rfl) hRl)) (preM hK hP) rfl rfl hl.1 rfl (lv_room (Nat.le_of_ble_eq_true rfl)) dX10_aboutNow_63 ⟨Nat.zero_le _, Nat.zero_le _⟩) (fun r_10 hw => ?_)
          refine lv_if_eq (tgt := 76) hx hb dX10_aboutNow_66 (by decide) (fun c_11 => ?_) (fun c_11 => ?_)
          · have hw := hw.1 c_11
            refine lv_iconst (v := ((-1) : Int32)) hx hb dX10_aboutNow_76 (by decide) ?_
            exact rt_i hx hb hr hlocks hw dX10_aboutNow_77
          · have hw := hw.2 c_11
            refine lv_aload_n hx hb dX10_aboutNow_69 rfl (lv_at hl 0 rfl) ?_
            refine gRX10_133 hx hb hown hts hK hP dX10_aboutNow_70 ?_
            refine lv_goto (tgt := 77) hx hb dX10_aboutNow_73 (by decide) ?_
            exact rt_i hx hb hr hlocks hw dX10_aboutNow_77
set_option maxHeartbeats 4000000 in
set_option maxRecDepth 100000 in
theorem c_X10_about (l : Launch) {D : va_G} {q : Nat → Nat} {cA : Nat → ClassId} {i_pageLength : Int32} {a_page : Nat → Int32} {i_states : Int32} {i_columns : Int32} {a_entries : Nat → Int32} {i_signals : Int32} {a_signalAt : Nat → Int32} {i_walksAt : Int32} {i_turned : Int32} {i_changed : Int32} {i_read : Int32} {i_newRows : Int32} {i_newEntries : Int32} {i_newColumns : Int32} {i_greatest : Int32} {a_newAt : Nat → Int32} {i_partings : Int32} {a_lowSet : Nat → Int32} {a_highSet : Nat → Int32} {i_leastMany : Int32} {a_leastAt : Nat → Int32} {a_tried : Nat → Int32} {a_keptLow : Nat → Int64} {a_keptHigh : Nat → Int64} {i_laid : Int32} {a_wants : Nat → Int32} {i_wide : Int32} {a_wideAsked : Nat → Int32} {a_wideOnes : Nat → Int32} {i_sum : Int32} {i_flickers : Int32} {a_sumAt : Nat → Int32} {j_h : Int64} {post : Int32 → Prop} {x1 : Int32} (hw : wp_X10_about post i_states i_columns a_entries i_partings x1) : Met l yX10_about (Cond.code yX10_about cX10_about 2 (some .int) :: wsL_law) (rmH 4) (va_Pc [.ref (q 0), .int x1] (fun U => va_P D vwCl (wM q cA i_pageLength a_page i_states i_columns a_entries i_signals a_signalAt i_walksAt i_turned i_changed i_read i_newRows i_newEntries i_newColumns i_greatest a_newAt i_partings a_lowSet a_highSet i_leastMany a_leastAt a_tried a_keptLow a_keptHigh i_laid a_wants i_wide a_wideAsked a_wideOnes i_sum i_flickers a_sumAt j_h) U.heap ∧ va_K D vwCl (tyM cA) U)) (qRi post) 0 0 (fun _ => False) := by
  refine Met.ofW (cc := cX10_about) (maxL := 2) (ret := (some .int)) (by decide) rfl ?_
  intro p e s m args below meth c s₁ B hml hv
  obtain ⟨rfl, hP, hK⟩ := hv
  have X : kC p (headSpec (Cond.code yX10_about cX10_about 2 (some .int) :: wsL_law) (rmH 4)).room s m _ meth c cX10_about RX10 2 (some .int) 4 := ⟨B.exec, B.bytes, hml, findClass_of_methodNamed B.named, fun w h => atoms_spec (ws := Cond.code yX10_about cX10_about 2 (some .int) :: wsL_law) B.pre w (List.mem_cons_of_mem _ h), B.returns, B.notSynchronized, Nat.le_refl _, Nat.le_refl _⟩
  obtain ⟨hx, hb, hml, hown, hts, hr, hlocks, hRf, hRl⟩ := id X
  have hl := lv_entry ([.ref (q 0), .int x1]) (n := 2) (Nat.le_of_ble_eq_true rfl)
  rw [lg_entry_eq]
  generalize (lg_sl ([.ref (q 0), .int x1]) ++ List.replicate (2 - (lg_sl ([.ref (q 0), .int x1])).length) Slot.unset).toArray = ls at hl ⊢
  have hl : lv_has ls 2 [(0, .ref (q 0)), (1, .int x1)] := hl
  refine lv_iload_n hx hb dX10_about_0 rfl (lv_at hl 1 rfl) ?_
  refine lv_iconst (v := (0 : Int32)) hx hb dX10_about_1 (by decide) ?_
  refine lv_iconst (v := (4 : Int32)) hx hb dX10_about_2 (by decide) ?_
  refine ro_i (va_runS (As := [.int x1, .int (0 : Int32), .int (4 : Int32)]) (rest := []) ⟨hx, hb, hml, hown, hts⟩ (c_X10_within l hw) (kRX10_60 (h := 0) hts (Nat.le_trans (Nat.le_of_ble_eq_true rfl) hRf) (Nat.le_trans (Nat.le_of_ble_eq_true rfl) hRl)) pre_0 rfl rfl hl.1 rfl (lv_room (Nat.le_of_ble_eq_true rfl)) dX10_about_3 ⟨Nat.zero_le _, Nat.zero_le _⟩) (fun r_1 hw => ?_)
  refine lv_if_ne (tgt := 13) hx hb dX10_about_6 (by decide) (fun c_2 => ?_) (fun c_2 => ?_)
  · have hw := hw.2 c_2
    refine lv_aload_n hx hb dX10_about_13 rfl (lv_at hl 0 rfl) ?_
    refine gRX10_87 hx hb hown hts hK hP dX10_about_14 ?_
    refine lv_if_ne (tgt := 26) hx hb dX10_about_17 (by decide) (fun c_3 => ?_) (fun c_3 => ?_)
    · have hw := hw.2 c_3
      refine lv_aload_n hx hb dX10_about_26 rfl (lv_at hl 0 rfl) ?_
      refine lv_iload_n hx hb dX10_about_27 rfl (lv_at hl 1 rfl) ?_
      refine ro_i (va_runV (As := [.int x1]) (rest := []) ⟨hx, hb, hml, hown, hts⟩ (c_X10_aboutNow l hw) (kRX10_136 (h := 3) hts (Nat.le_trans (Nat.le_of_ble_eq_true rfl) hRf) (Nat.le_trans (Nat.le_of_ble_eq_true rfl) hRl)) (preM hK hP) rfl rfl hl.1 rfl (lv_room (Nat.le_of_ble_eq_true rfl)) dX10_about_28 ⟨Nat.zero_le _, Nat.zero_le _⟩) (fun r_4 hw => ?_)
      exact rt_i hx hb hr hlocks hw dX10_about_31
    · have hw := hw.1 c_3
      refine lv_sipush (v := ((-1003) : Int32)) hx hb dX10_about_20 (by decide +kernel) ?_
      refine lv_goto (tgt := 31) hx hb dX10_about_23 (by decide) ?_
      exact rt_i hx hb hr hlocks hw dX10_about_31
  · have hw := hw.1 c_2
    refine lv_sipush (v := ((-1002) : Int32)) hx hb dX10_about_9 (by decide +kernel) ?_
    exact rt_i hx hb hr hlocks hw dX10_about_12
set_option maxHeartbeats 4000000 in
set_option maxRecDepth 100000 in
theorem c_X9_parting (l : Launch) {D : va_G} {q : Nat → Nat} {cA : Nat → ClassId} {Fc_unkept : Int32} {Fc_tablesRead : Int32} {Pg_letters : Nat → Int32} {Pg_size : Int32} {Pg_fault : Int32} {Pg_rows : Int32} {Pg_inRow : Int32} {Pg_width : Int32} {Fl_entries : Nat → Int32} {Fl_states : Int32} {Fl_columns : Int32} {Fl_moves : Int32} {Fl_stables : Int32} {Fl_amiss : Int32} {Fl_normal : Int32} {Pt_lessers : Nat → Int32} {Pt_greaters : Nat → Int32} {Pt_size : Int32} {Lc_signals : Nat → Int32} {Lc_kept : Nat → Int64} {Lc_keptFrom : Nat → Int64} {Lc_candidates : Int32} {Lc_size : Int32} {Sc_signals : Nat → Int32} {Sc_codes : Nat → Int32} {Sc_size : Int32} {Ai_codes : Nat → Int32} {Ai_bits : Int32} {Cu_seen : Nat → Int32} {Cu_inThrees : Nat → Int32} {Cu_all : Int32} {Lo_asked : Nat → Nat → Int32} {Lo_ones : Nat → Nat → Int32} {Lo_sum : Nat → Nat → Int32} {Lo_wideSize : Nat → Int32} {Lo_sumSize : Nat → Int32} {Lo_flickers : Nat → Int32} {Lo_ready : Nat → Int32} {Wa_at : Int32} {Wa_turns : Int32} {Wa_changes : Int32} {post : Int32 → Prop} {x1 : Int32} {x2 : Int32} (hw : wp_X9_parting post Fl_normal Pt_lessers Pt_greaters Pt_size Sc_signals Sc_size x1 x2) : Met l yX9_parting (Cond.code yX9_parting cX9_parting 3 (some .int) :: wsL_law) (rmH 3) (va_Pc [.ref (q 0), .int x1, .int x2] (fun U => va_P D vwCl (wC q cA Fc_unkept Fc_tablesRead Pg_letters Pg_size Pg_fault Pg_rows Pg_inRow Pg_width Fl_entries Fl_states Fl_columns Fl_moves Fl_stables Fl_amiss Fl_normal Pt_lessers Pt_greaters Pt_size Lc_signals Lc_kept Lc_keptFrom Lc_candidates Lc_size Sc_signals Sc_codes Sc_size Ai_codes Ai_bits Cu_seen Cu_inThrees Cu_all Lo_asked Lo_ones Lo_sum Lo_wideSize Lo_sumSize Lo_flickers Lo_ready Wa_at Wa_turns Wa_changes) U.heap ∧ va_K D vwCl (tyC cA) U ∧ nwC U)) (qRi post) 0 0 (fun _ => False) := by
  refine Met.ofW (cc := cX9_parting) (maxL := 3) (ret := (some .int)) (by decide) rfl ?_
  intro p e s m args below meth c s₁ B hml hv
  obtain ⟨rfl, hP, hK, hN⟩ := hv
  have X : kC p (headSpec (Cond.code yX9_parting cX9_parting 3 (some .int) :: wsL_law) (rmH 3)).room s m _ meth c cX9_parting RX9 3 (some .int) 3 := ⟨B.exec, B.bytes, hml, findClass_of_methodNamed B.named, fun w h => atoms_spec (ws := Cond.code yX9_parting cX9_parting 3 (some .int) :: wsL_law) B.pre w (List.mem_cons_of_mem _ h), B.returns, B.notSynchronized, Nat.le_refl _, Nat.le_refl _⟩
  obtain ⟨hx, hb, hml, hown, hts, hr, hlocks, hRf, hRl⟩ := id X
  have hl := lv_entry ([.ref (q 0), .int x1, .int x2]) (n := 3) (Nat.le_of_ble_eq_true rfl)
  rw [lg_entry_eq]
  generalize (lg_sl ([.ref (q 0), .int x1, .int x2]) ++ List.replicate (3 - (lg_sl ([.ref (q 0), .int x1, .int x2])).length) Slot.unset).toArray = ls at hl ⊢
  have hl : lv_has ls 3 [(0, .ref (q 0)), (1, .int x1), (2, .int x2)] := hl
  refine lv_iload_n hx hb dX9_parting_0 rfl (lv_at hl 2 rfl) ?_
  refine lv_if_lt (tgt := 9) hx hb dX9_parting_1 (by decide) (fun c_1 => ?_) (fun c_1 => ?_)
  · have hw := hw.1 c_1
    refine lv_sipush (v := ((-1002) : Int32)) hx hb dX9_parting_9 (by decide +kernel) ?_
    exact rt_i hx hb hr hlocks hw dX9_parting_12
  · have hw := hw.2 c_1
    refine lv_iload_n hx hb dX9_parting_4 rfl (lv_at hl 2 rfl) ?_
    refine lv_iconst (v := (2 : Int32)) hx hb dX9_parting_5 (by decide) ?_
    refine lv_icmp_le (tgt := 13) hx hb dX9_parting_6 (by decide) (fun c_2 => ?_) (fun c_2 => ?_)
    · have hw := hw.1 c_2
      refine lv_aload_n hx hb dX9_parting_13 rfl (lv_at hl 0 rfl) ?_
      refine gRX9_19 hx hb hown hts hK hP dX9_parting_14 ?_
      refine gRX9_110 hx hb hown hts hK hN hP dX9_parting_17 ?_
      refine lv_if_ne (tgt := 27) hx hb dX9_parting_20 (by decide) (fun c_3 => ?_) (fun c_3 => ?_)
      · have hw := hw.2 c_3
        refine lv_iload_n hx hb dX9_parting_27 rfl (lv_at hl 1 rfl) ?_
        refine lv_if_lt (tgt := 42) hx hb dX9_parting_28 (by decide) (fun c_4 => ?_) (fun c_4 => ?_)
        · have hw := hw.1 c_4
          refine lv_sipush (v := ((-1001) : Int32)) hx hb dX9_parting_42 (by decide +kernel) ?_
          exact rt_i hx hb hr hlocks hw dX9_parting_45
        · have hw := hw.2 c_4
          refine lv_iload_n hx hb dX9_parting_31 rfl (lv_at hl 1 rfl) ?_
          refine lv_aload_n hx hb dX9_parting_32 rfl (lv_at hl 0 rfl) ?_
          refine gRX9_26 hx hb hown hts hK hP dX9_parting_33 ?_
          refine gRX9_151 hx hb hown hts hK hN hP dX9_parting_36 ?_
          refine lv_icmp_lt (tgt := 46) hx hb dX9_parting_39 (by decide) (fun c_5 => ?_) (fun c_5 => ?_)
          · have hw := hw.1 c_5
            refine lv_iload_n hx hb dX9_parting_46 rfl (lv_at hl 2 rfl) ?_
            by_cases c_6 : x2 = (0 : Int32)
            · have hw := hw.1 c_6
              refine lv_lookup (off := 25) (tgt := 72) hx hb dX9_parting_47 (by decide) (by rw [c_6]; decide) (by decide) ?_
              refine lv_aload_n hx hb dX9_parting_72 rfl (lv_at hl 0 rfl) ?_
              refine gRX9_26 hx hb hown hts hK hP dX9_parting_73 ?_
              refine lv_iload_n hx hb dX9_parting_76 rfl (lv_at hl 1 rfl) ?_
              refine ro_i (va_runV (As := [.int x1]) (rest := []) ⟨hx, hb, hml, hown, hts⟩ (c_X6_lesser l hw) (kRX9_152 (h := 0) hts (Nat.le_trans (Nat.le_of_ble_eq_true rfl) hRf) (Nat.le_trans (Nat.le_of_ble_eq_true rfl) hRl)) (preX6 hK hN hP) rfl rfl hl.1 rfl (lv_room (Nat.le_of_ble_eq_true rfl)) dX9_parting_77 ⟨Nat.zero_le _, Nat.zero_le _⟩) (fun r_8 hw => ?_)
              exact rt_i hx hb hr hlocks hw dX9_parting_80
            · have hw := hw.2 c_6
              by_cases c_7 : x2 = (1 : Int32)
              · have hw := hw.1 c_7
                refine lv_lookup (off := 34) (tgt := 81) hx hb dX9_parting_47 (by decide) (by rw [c_7]; decide) (by decide) ?_
                refine lv_aload_n hx hb dX9_parting_81 rfl (lv_at hl 0 rfl) ?_
                refine gRX9_26 hx hb hown hts hK hP dX9_parting_82 ?_
                refine lv_iload_n hx hb dX9_parting_85 rfl (lv_at hl 1 rfl) ?_
                refine ro_i (va_runV (As := [.int x1]) (rest := []) ⟨hx, hb, hml, hown, hts⟩ (c_X6_greater l hw) (kRX9_156 (h := 0) hts (Nat.le_trans (Nat.le_of_ble_eq_true rfl) hRf) (Nat.le_trans (Nat.le_of_ble_eq_true rfl) hRl)) (preX6 hK hN hP) rfl rfl hl.1 rfl (lv_room (Nat.le_of_ble_eq_true rfl)) dX9_parting_86 ⟨Nat.zero_le _, Nat.zero_le _⟩) (fun r_9 hw => ?_)
                exact rt_i hx hb hr hlocks hw dX9_parting_89
              · have hw := hw.2 c_7
                refine lv_lookup (off := 43) (tgt := 90) hx hb dX9_parting_47 (by decide) ((lv_osw c_6 (by decide)).trans ((lv_osw c_7 (by decide)).trans rfl)) (by decide) ?_
                refine lv_aload_n hx hb dX9_parting_90 rfl (lv_at hl 0 rfl) ?_
                refine gRX9_40 hx hb hown hts hK hP dX9_parting_91 ?_
                refine lv_aload_n hx hb dX9_parting_94 rfl (lv_at hl 0 rfl) ?_
                refine gRX9_26 hx hb hown hts hK hP dX9_parting_95 ?_
                refine lv_iload_n hx hb dX9_parting_98 rfl (lv_at hl 1 rfl) ?_
                refine ro_i (va_runV (As := [.ref (q 5), .int x1]) (rest := []) ⟨hx, hb, hml, hown, hts⟩ (c_X7_keepersOf l hw) (kRX9_159 (h := 2) hts (Nat.le_trans (Nat.le_of_ble_eq_true rfl) hRf) (Nat.le_trans (Nat.le_of_ble_eq_true rfl) hRl)) (preX7 hK hN hP) rfl rfl hl.1 rfl (lv_room (Nat.le_of_ble_eq_true rfl)) dX9_parting_99 ⟨Nat.zero_le _, Nat.zero_le _⟩) (fun r_10 hw => ?_)
                exact rt_i hx hb hr hlocks hw dX9_parting_102
          · have hw := hw.2 c_5
            refine lv_sipush (v := ((-1001) : Int32)) hx hb dX9_parting_42 (by decide +kernel) ?_
            exact rt_i hx hb hr hlocks hw dX9_parting_45
      · have hw := hw.1 c_3
        refine lv_sipush (v := ((-1003) : Int32)) hx hb dX9_parting_23 (by decide +kernel) ?_
        exact rt_i hx hb hr hlocks hw dX9_parting_26
    · have hw := hw.2 c_2
      refine lv_sipush (v := ((-1002) : Int32)) hx hb dX9_parting_9 (by decide +kernel) ?_
      exact rt_i hx hb hr hlocks hw dX9_parting_12
set_option maxHeartbeats 4000000 in
set_option maxRecDepth 100000 in
theorem t_X10_keptBy_4 {p : Program} {l : Launch} {e : Env} {R : Room} {s : State} {m : MethodId} {args : Array Value} {below : List Frame} {meth : Method} {c : Code} {D : va_G} {q : Nat → Nat} {cA : Nat → ClassId} {i_pageLength : Int32} {a_page : Nat → Int32} {i_states : Int32} {i_columns : Int32} {a_entries : Nat → Int32} {i_signals : Int32} {a_signalAt : Nat → Int32} {i_walksAt : Int32} {i_turned : Int32} {i_changed : Int32} {i_read : Int32} {i_newRows : Int32} {i_newEntries : Int32} {i_newColumns : Int32} {i_greatest : Int32} {a_newAt : Nat → Int32} {i_partings : Int32} {a_lowSet : Nat → Int32} {a_highSet : Nat → Int32} {i_leastMany : Int32} {a_leastAt : Nat → Int32} {a_tried : Nat → Int32} {a_keptLow : Nat → Int64} {a_keptHigh : Nat → Int64} {i_laid : Int32} {a_wants : Nat → Int32} {i_wide : Int32} {a_wideAsked : Nat → Int32} {a_wideOnes : Nat → Int32} {i_sum : Int32} {i_flickers : Int32} {a_sumAt : Nat → Int32} {j_h : Int64} {post : Int32 → Prop} {KE : Int32 → Prop} {x1 : Int32} (X : kC p R s m args meth c cX10_keptBy RX10 4 (some .int) 1) (hK : va_K D vwCl (tyM cA) s) (hP : va_P D vwCl (wM q cA i_pageLength a_page i_states i_columns a_entries i_signals a_signalAt i_walksAt i_turned i_changed i_read i_newRows i_newEntries i_newColumns i_greatest a_newAt i_partings a_lowSet a_highSet i_leastMany a_leastAt a_tried a_keptLow a_keptHigh i_laid a_wants i_wide a_wideAsked a_wideOnes i_sum i_flickers a_sumAt j_h) s.heap) (hE : ∀ (x2 : Int32), KE x2 → ∀ (ls : Array Slot), lv_has ls 4 [(2, .int x2)] → W p l e R s m args below meth c s.heap [] 0 0 (MQ below (qRi post) args s 0 0 (fun _ => False)) (F0 m 50 ls [])) : ∀ (n : Nat) (x2 : Int32) (x3 : Int32), w_X10_keptBy_4 KE i_signals a_signalAt a_lowSet a_highSet x1 n x2 x3 → ∀ (ls : Array Slot), lv_has ls 4 [(0, .ref (q 0)), (1, .int x1), (2, .int x2), (3, .int x3)] → W p l e R s m args below meth c s.heap [] 0 0 (MQ below (qRi post) args s 0 0 (fun _ => False)) (F0 m 4 ls []) := by
  obtain ⟨hx, hb, hml, hown, hts, hr, hlocks, hRf, hRl⟩ := id X
  intro n
  induction n with
  | zero => intro x2 x3 hw; exact (show False from hw).elim
  | succ n ih =>
    intro x2 x3 hw ls hl
    refine lv_iload_n hx hb dX10_keptBy_4 rfl (lv_at hl 3 rfl) ?_
    refine lv_aload_n hx hb dX10_keptBy_5 rfl (lv_at hl 0 rfl) ?_
    refine gRX10_99 hx hb hown hts hK hP dX10_keptBy_6 ?_
    refine lv_icmp_ge (tgt := 50) hx hb dX10_keptBy_9 (by decide) (fun c_1 => ?_) (fun c_1 => ?_)
    · have hw := hw.1 c_1
      exact hE _ hw ls (lv_sub hl [2] rfl)
    · have hw := hw.2 c_1
      refine lv_iload_n hx hb dX10_keptBy_12 rfl (lv_at hl 2 rfl) ?_
      refine lv_aload_n hx hb dX10_keptBy_13 rfl (lv_at hl 0 rfl) ?_
      refine gRX10_16 hx hb hown hts hK hP dX10_keptBy_14 ?_
      refine lv_iload_n hx hb dX10_keptBy_17 rfl (lv_at hl 3 rfl) ?_
      have h_2 := hw.1
      have hw := hw.2
      refine ld_a_signalAt hx hb hK hP h_2 dX10_keptBy_18 ?_
      refine lv_aload_n hx hb dX10_keptBy_19 rfl (lv_at hl 0 rfl) ?_
      refine gRX10_26 hx hb hown hts hK hP dX10_keptBy_20 ?_
      refine lv_iload_n hx hb dX10_keptBy_23 rfl (lv_at hl 1 rfl) ?_
      have h_3 := hw.1
      have hw := hw.2
      refine ld_a_lowSet hx hb hK hP h_3 dX10_keptBy_24 ?_
      refine lv_aload_n hx hb dX10_keptBy_25 rfl (lv_at hl 0 rfl) ?_
      refine gRX10_29 hx hb hown hts hK hP dX10_keptBy_26 ?_
      refine lv_iload_n hx hb dX10_keptBy_29 rfl (lv_at hl 1 rfl) ?_
      have h_4 := hw.1
      have hw := hw.2
      refine ld_a_highSet hx hb hK hP h_4 dX10_keptBy_30 ?_
      refine ro_i (va_runS (As := [.int (a_signalAt x3.toNatClampNeg), .int (a_lowSet x1.toNatClampNeg), .int (a_highSet x1.toNatClampNeg)]) (rest := [.int x2]) ⟨hx, hb, hml, hown, hts⟩ (c_X10_keeps l hw) (kRX10_152 (h := 0) hts (Nat.le_trans (Nat.le_of_ble_eq_true rfl) hRf) (Nat.le_trans (Nat.le_of_ble_eq_true rfl) hRl)) pre_0 rfl rfl hl.1 rfl (lv_room (Nat.le_of_ble_eq_true rfl)) dX10_keptBy_31 ⟨Nat.zero_le _, Nat.zero_le _⟩) (fun r_5 hw => ?_)
      refine lv_if_eq (tgt := 41) hx hb dX10_keptBy_34 (by decide) (fun c_6 => ?_) (fun c_6 => ?_)
      · have hw := hw.1 c_6
        refine lv_iconst (v := (0 : Int32)) hx hb dX10_keptBy_41 (by decide) ?_
        refine lv_iadd hx hb dX10_keptBy_42 ?_
        refine lv_topi (fun x2_7 e_7 => ?_)
        have hw := hw x2_7 e_7
        refine lv_istore_n (lv' := [(2, .int x2_7), (0, .ref (q 0)), (1, .int x1), (3, .int x3)]) hx hb dX10_keptBy_43 rfl hl (by decide) rfl (fun ls hl => ?_)
        obtain ⟨x3_8, e_8⟩ : ∃ z : Int32, z = x3 + (1 : Int32) := ⟨_, rfl⟩
        have hw := hw x3_8 e_8
        refine lv_iinc (v := x3_8) (lv' := [(3, .int x3_8), (2, .int x2_7), (0, .ref (q 0)), (1, .int x1)]) hx hb dX10_keptBy_44 hl (k := 3) rfl (by rw [e_8]; rfl) (by decide) rfl (fun ls hl => ?_)
        refine lv_goto (tgt := 4) hx hb dX10_keptBy_47 (by decide) ?_
        exact ih _ _ hw ls (lv_sub hl [2, 3, 1, 0] rfl)
      · have hw := hw.2 c_6
        refine lv_iconst (v := (1 : Int32)) hx hb dX10_keptBy_37 (by decide) ?_
        refine lv_goto (tgt := 42) hx hb dX10_keptBy_38 (by decide) ?_
        refine lv_iadd hx hb dX10_keptBy_42 ?_
        refine lv_topi (fun x2_9 e_9 => ?_)
        have hw := hw x2_9 e_9
        refine lv_istore_n (lv' := [(2, .int x2_9), (0, .ref (q 0)), (1, .int x1), (3, .int x3)]) hx hb dX10_keptBy_43 rfl hl (by decide) rfl (fun ls hl => ?_)
        obtain ⟨x3_10, e_10⟩ : ∃ z : Int32, z = x3 + (1 : Int32) := ⟨_, rfl⟩
        have hw := hw x3_10 e_10
        refine lv_iinc (v := x3_10) (lv' := [(3, .int x3_10), (2, .int x2_9), (0, .ref (q 0)), (1, .int x1)]) hx hb dX10_keptBy_44 hl (k := 3) rfl (by rw [e_10]; rfl) (by decide) rfl (fun ls hl => ?_)
        refine lv_goto (tgt := 4) hx hb dX10_keptBy_47 (by decide) ?_
        exact ih _ _ hw ls (lv_sub hl [2, 3, 1, 0] rfl)
set_option maxHeartbeats 4000000 in
set_option maxRecDepth 100000 in
theorem c_X10_keptBy (l : Launch) {D : va_G} {q : Nat → Nat} {cA : Nat → ClassId} {i_pageLength : Int32} {a_page : Nat → Int32} {i_states : Int32} {i_columns : Int32} {a_entries : Nat → Int32} {i_signals : Int32} {a_signalAt : Nat → Int32} {i_walksAt : Int32} {i_turned : Int32} {i_changed : Int32} {i_read : Int32} {i_newRows : Int32} {i_newEntries : Int32} {i_newColumns : Int32} {i_greatest : Int32} {a_newAt : Nat → Int32} {i_partings : Int32} {a_lowSet : Nat → Int32} {a_highSet : Nat → Int32} {i_leastMany : Int32} {a_leastAt : Nat → Int32} {a_tried : Nat → Int32} {a_keptLow : Nat → Int64} {a_keptHigh : Nat → Int64} {i_laid : Int32} {a_wants : Nat → Int32} {i_wide : Int32} {a_wideAsked : Nat → Int32} {a_wideOnes : Nat → Int32} {i_sum : Int32} {i_flickers : Int32} {a_sumAt : Nat → Int32} {j_h : Int64} {post : Int32 → Prop} {x1 : Int32} (hw : wp_X10_keptBy post i_signals a_signalAt a_lowSet a_highSet x1) : Met l yX10_keptBy (Cond.code yX10_keptBy cX10_keptBy 4 (some .int) :: wsL_law) (rmH 1) (va_Pc [.ref (q 0), .int x1] (fun U => va_P D vwCl (wM q cA i_pageLength a_page i_states i_columns a_entries i_signals a_signalAt i_walksAt i_turned i_changed i_read i_newRows i_newEntries i_newColumns i_greatest a_newAt i_partings a_lowSet a_highSet i_leastMany a_leastAt a_tried a_keptLow a_keptHigh i_laid a_wants i_wide a_wideAsked a_wideOnes i_sum i_flickers a_sumAt j_h) U.heap ∧ va_K D vwCl (tyM cA) U)) (qRi post) 0 0 (fun _ => False) := by
  refine Met.ofW (cc := cX10_keptBy) (maxL := 4) (ret := (some .int)) (by decide) rfl ?_
  intro p e s m args below meth c s₁ B hml hv
  obtain ⟨rfl, hP, hK⟩ := hv
  have X : kC p (headSpec (Cond.code yX10_keptBy cX10_keptBy 4 (some .int) :: wsL_law) (rmH 1)).room s m _ meth c cX10_keptBy RX10 4 (some .int) 1 := ⟨B.exec, B.bytes, hml, findClass_of_methodNamed B.named, fun w h => atoms_spec (ws := Cond.code yX10_keptBy cX10_keptBy 4 (some .int) :: wsL_law) B.pre w (List.mem_cons_of_mem _ h), B.returns, B.notSynchronized, Nat.le_refl _, Nat.le_refl _⟩
  obtain ⟨hx, hb, hml, hown, hts, hr, hlocks, hRf, hRl⟩ := id X
  have hl := lv_entry ([.ref (q 0), .int x1]) (n := 4) (Nat.le_of_ble_eq_true rfl)
  rw [lg_entry_eq]
  generalize (lg_sl ([.ref (q 0), .int x1]) ++ List.replicate (4 - (lg_sl ([.ref (q 0), .int x1])).length) Slot.unset).toArray = ls at hl ⊢
  have hl : lv_has ls 4 [(0, .ref (q 0)), (1, .int x1)] := hl
  refine lv_iconst (v := (0 : Int32)) hx hb dX10_keptBy_0 (by decide) ?_
  refine lv_istore_n (lv' := [(2, .int (0 : Int32)), (0, .ref (q 0)), (1, .int x1)]) hx hb dX10_keptBy_1 rfl hl (by decide) rfl (fun ls hl => ?_)
  refine lv_iconst (v := (0 : Int32)) hx hb dX10_keptBy_2 (by decide) ?_
  refine lv_istore_n (lv' := [(3, .int (0 : Int32)), (2, .int (0 : Int32)), (0, .ref (q 0)), (1, .int x1)]) hx hb dX10_keptBy_3 rfl hl (by decide) rfl (fun ls hl => ?_)
  obtain ⟨n_11, hw⟩ := hw
  refine t_X10_keptBy_4 X hK hP (fun x2_11 hw ls hl => ?_) n_11 _ _ hw ls (lv_sub hl [2, 3, 1, 0] rfl)
  refine lv_iload_n hx hb dX10_keptBy_50 rfl (lv_at hl 0 rfl) ?_
  exact rt_i hx hb hr hlocks hw dX10_keptBy_51
set_option maxHeartbeats 4000000 in
set_option maxRecDepth 100000 in
theorem c_X10_partingNow (l : Launch) {D : va_G} {q : Nat → Nat} {cA : Nat → ClassId} {i_pageLength : Int32} {a_page : Nat → Int32} {i_states : Int32} {i_columns : Int32} {a_entries : Nat → Int32} {i_signals : Int32} {a_signalAt : Nat → Int32} {i_walksAt : Int32} {i_turned : Int32} {i_changed : Int32} {i_read : Int32} {i_newRows : Int32} {i_newEntries : Int32} {i_newColumns : Int32} {i_greatest : Int32} {a_newAt : Nat → Int32} {i_partings : Int32} {a_lowSet : Nat → Int32} {a_highSet : Nat → Int32} {i_leastMany : Int32} {a_leastAt : Nat → Int32} {a_tried : Nat → Int32} {a_keptLow : Nat → Int64} {a_keptHigh : Nat → Int64} {i_laid : Int32} {a_wants : Nat → Int32} {i_wide : Int32} {a_wideAsked : Nat → Int32} {a_wideOnes : Nat → Int32} {i_sum : Int32} {i_flickers : Int32} {a_sumAt : Nat → Int32} {j_h : Int64} {post : Int32 → Prop} {x1 : Int32} {x2 : Int32} (hw : wp_X10_partingNow post i_signals a_signalAt a_lowSet a_highSet x1 x2) : Met l yX10_partingNow (Cond.code yX10_partingNow cX10_partingNow 3 (some .int) :: wsL_law) (rmH 2) (va_Pc [.ref (q 0), .int x1, .int x2] (fun U => va_P D vwCl (wM q cA i_pageLength a_page i_states i_columns a_entries i_signals a_signalAt i_walksAt i_turned i_changed i_read i_newRows i_newEntries i_newColumns i_greatest a_newAt i_partings a_lowSet a_highSet i_leastMany a_leastAt a_tried a_keptLow a_keptHigh i_laid a_wants i_wide a_wideAsked a_wideOnes i_sum i_flickers a_sumAt j_h) U.heap ∧ va_K D vwCl (tyM cA) U)) (qRi post) 0 0 (fun _ => False) := by
  refine Met.ofW (cc := cX10_partingNow) (maxL := 3) (ret := (some .int)) (by decide) rfl ?_
  intro p e s m args below meth c s₁ B hml hv
  obtain ⟨rfl, hP, hK⟩ := hv
  have X : kC p (headSpec (Cond.code yX10_partingNow cX10_partingNow 3 (some .int) :: wsL_law) (rmH 2)).room s m _ meth c cX10_partingNow RX10 3 (some .int) 2 := ⟨B.exec, B.bytes, hml, findClass_of_methodNamed B.named, fun w h => atoms_spec (ws := Cond.code yX10_partingNow cX10_partingNow 3 (some .int) :: wsL_law) B.pre w (List.mem_cons_of_mem _ h), B.returns, B.notSynchronized, Nat.le_refl _, Nat.le_refl _⟩
  obtain ⟨hx, hb, hml, hown, hts, hr, hlocks, hRf, hRl⟩ := id X
  have hl := lv_entry ([.ref (q 0), .int x1, .int x2]) (n := 3) (Nat.le_of_ble_eq_true rfl)
  rw [lg_entry_eq]
  generalize (lg_sl ([.ref (q 0), .int x1, .int x2]) ++ List.replicate (3 - (lg_sl ([.ref (q 0), .int x1, .int x2])).length) Slot.unset).toArray = ls at hl ⊢
  have hl : lv_has ls 3 [(0, .ref (q 0)), (1, .int x1), (2, .int x2)] := hl
  refine lv_iload_n hx hb dX10_partingNow_0 rfl (lv_at hl 2 rfl) ?_
  refine lv_if_ne (tgt := 13) hx hb dX10_partingNow_1 (by decide) (fun c_1 => ?_) (fun c_1 => ?_)
  · have hw := hw.2 c_1
    refine lv_iload_n hx hb dX10_partingNow_13 rfl (lv_at hl 2 rfl) ?_
    refine lv_iconst (v := (1 : Int32)) hx hb dX10_partingNow_14 (by decide) ?_
    refine lv_icmp_ne (tgt := 27) hx hb dX10_partingNow_15 (by decide) (fun c_2 => ?_) (fun c_2 => ?_)
    · have hw := hw.2 c_2
      refine lv_aload_n hx hb dX10_partingNow_27 rfl (lv_at hl 0 rfl) ?_
      refine lv_iload_n hx hb dX10_partingNow_28 rfl (lv_at hl 1 rfl) ?_
      refine ro_i (va_runV (As := [.int x1]) (rest := []) ⟨hx, hb, hml, hown, hts⟩ (c_X10_keptBy l hw) (kRX10_155 (h := 1) hts (Nat.le_trans (Nat.le_of_ble_eq_true rfl) hRf) (Nat.le_trans (Nat.le_of_ble_eq_true rfl) hRl)) (preM hK hP) rfl rfl hl.1 rfl (lv_room (Nat.le_of_ble_eq_true rfl)) dX10_partingNow_29 ⟨Nat.zero_le _, Nat.zero_le _⟩) (fun r_3 hw => ?_)
      exact rt_i hx hb hr hlocks hw dX10_partingNow_32
    · have hw := hw.1 c_2
      refine lv_aload_n hx hb dX10_partingNow_18 rfl (lv_at hl 0 rfl) ?_
      refine gRX10_29 hx hb hown hts hK hP dX10_partingNow_19 ?_
      refine lv_iload_n hx hb dX10_partingNow_22 rfl (lv_at hl 1 rfl) ?_
      have h_4 := hw.1
      have hw := hw.2
      refine ld_a_highSet hx hb hK hP h_4 dX10_partingNow_23 ?_
      refine lv_goto (tgt := 32) hx hb dX10_partingNow_24 (by decide) ?_
      exact rt_i hx hb hr hlocks hw dX10_partingNow_32
  · have hw := hw.1 c_1
    refine lv_aload_n hx hb dX10_partingNow_4 rfl (lv_at hl 0 rfl) ?_
    refine gRX10_26 hx hb hown hts hK hP dX10_partingNow_5 ?_
    refine lv_iload_n hx hb dX10_partingNow_8 rfl (lv_at hl 1 rfl) ?_
    have h_5 := hw.1
    have hw := hw.2
    refine ld_a_lowSet hx hb hK hP h_5 dX10_partingNow_9 ?_
    refine lv_goto (tgt := 32) hx hb dX10_partingNow_10 (by decide) ?_
    exact rt_i hx hb hr hlocks hw dX10_partingNow_32
set_option maxHeartbeats 4000000 in
set_option maxRecDepth 100000 in
theorem c_X10_parting (l : Launch) {D : va_G} {q : Nat → Nat} {cA : Nat → ClassId} {i_pageLength : Int32} {a_page : Nat → Int32} {i_states : Int32} {i_columns : Int32} {a_entries : Nat → Int32} {i_signals : Int32} {a_signalAt : Nat → Int32} {i_walksAt : Int32} {i_turned : Int32} {i_changed : Int32} {i_read : Int32} {i_newRows : Int32} {i_newEntries : Int32} {i_newColumns : Int32} {i_greatest : Int32} {a_newAt : Nat → Int32} {i_partings : Int32} {a_lowSet : Nat → Int32} {a_highSet : Nat → Int32} {i_leastMany : Int32} {a_leastAt : Nat → Int32} {a_tried : Nat → Int32} {a_keptLow : Nat → Int64} {a_keptHigh : Nat → Int64} {i_laid : Int32} {a_wants : Nat → Int32} {i_wide : Int32} {a_wideAsked : Nat → Int32} {a_wideOnes : Nat → Int32} {i_sum : Int32} {i_flickers : Int32} {a_sumAt : Nat → Int32} {j_h : Int64} {post : Int32 → Prop} {x1 : Int32} {x2 : Int32} (hw : wp_X10_parting post i_states i_columns a_entries i_signals a_signalAt i_partings a_lowSet a_highSet x1 x2) : Met l yX10_parting (Cond.code yX10_parting cX10_parting 3 (some .int) :: wsL_law) (rmH 3) (va_Pc [.ref (q 0), .int x1, .int x2] (fun U => va_P D vwCl (wM q cA i_pageLength a_page i_states i_columns a_entries i_signals a_signalAt i_walksAt i_turned i_changed i_read i_newRows i_newEntries i_newColumns i_greatest a_newAt i_partings a_lowSet a_highSet i_leastMany a_leastAt a_tried a_keptLow a_keptHigh i_laid a_wants i_wide a_wideAsked a_wideOnes i_sum i_flickers a_sumAt j_h) U.heap ∧ va_K D vwCl (tyM cA) U)) (qRi post) 0 0 (fun _ => False) := by
  refine Met.ofW (cc := cX10_parting) (maxL := 3) (ret := (some .int)) (by decide) rfl ?_
  intro p e s m args below meth c s₁ B hml hv
  obtain ⟨rfl, hP, hK⟩ := hv
  have X : kC p (headSpec (Cond.code yX10_parting cX10_parting 3 (some .int) :: wsL_law) (rmH 3)).room s m _ meth c cX10_parting RX10 3 (some .int) 3 := ⟨B.exec, B.bytes, hml, findClass_of_methodNamed B.named, fun w h => atoms_spec (ws := Cond.code yX10_parting cX10_parting 3 (some .int) :: wsL_law) B.pre w (List.mem_cons_of_mem _ h), B.returns, B.notSynchronized, Nat.le_refl _, Nat.le_refl _⟩
  obtain ⟨hx, hb, hml, hown, hts, hr, hlocks, hRf, hRl⟩ := id X
  have hl := lv_entry ([.ref (q 0), .int x1, .int x2]) (n := 3) (Nat.le_of_ble_eq_true rfl)
  rw [lg_entry_eq]
  generalize (lg_sl ([.ref (q 0), .int x1, .int x2]) ++ List.replicate (3 - (lg_sl ([.ref (q 0), .int x1, .int x2])).length) Slot.unset).toArray = ls at hl ⊢
  have hl : lv_has ls 3 [(0, .ref (q 0)), (1, .int x1), (2, .int x2)] := hl
  refine lv_iload_n hx hb dX10_parting_0 rfl (lv_at hl 2 rfl) ?_
  refine lv_iconst (v := (0 : Int32)) hx hb dX10_parting_1 (by decide) ?_
  refine lv_iconst (v := (2 : Int32)) hx hb dX10_parting_2 (by decide) ?_
  refine ro_i (va_runS (As := [.int x2, .int (0 : Int32), .int (2 : Int32)]) (rest := []) ⟨hx, hb, hml, hown, hts⟩ (c_X10_within l hw) (kRX10_60 (h := 0) hts (Nat.le_trans (Nat.le_of_ble_eq_true rfl) hRf) (Nat.le_trans (Nat.le_of_ble_eq_true rfl) hRl)) pre_0 rfl rfl hl.1 rfl (lv_room (Nat.le_of_ble_eq_true rfl)) dX10_parting_3 ⟨Nat.zero_le _, Nat.zero_le _⟩) (fun r_1 hw => ?_)
  refine lv_if_ne (tgt := 13) hx hb dX10_parting_6 (by decide) (fun c_2 => ?_) (fun c_2 => ?_)
  · have hw := hw.2 c_2
    refine lv_aload_n hx hb dX10_parting_13 rfl (lv_at hl 0 rfl) ?_
    refine ro_i (va_runV (As := []) (rest := []) ⟨hx, hb, hml, hown, hts⟩ (c_X10_isNormal l hw) (kRX10_125 (h := 2) hts (Nat.le_trans (Nat.le_of_ble_eq_true rfl) hRf) (Nat.le_trans (Nat.le_of_ble_eq_true rfl) hRl)) (preM hK hP) rfl rfl hl.1 rfl (lv_room (Nat.le_of_ble_eq_true rfl)) dX10_parting_14 ⟨Nat.zero_le _, Nat.zero_le _⟩) (fun r_3 hw => ?_)
    refine lv_if_ne (tgt := 24) hx hb dX10_parting_17 (by decide) (fun c_4 => ?_) (fun c_4 => ?_)
    · have hw := hw.2 c_4
      refine lv_iload_n hx hb dX10_parting_24 rfl (lv_at hl 1 rfl) ?_
      refine lv_iconst (v := (0 : Int32)) hx hb dX10_parting_25 (by decide) ?_
      refine lv_aload_n hx hb dX10_parting_26 rfl (lv_at hl 0 rfl) ?_
      refine gRX10_133 hx hb hown hts hK hP dX10_parting_27 ?_
      refine lv_iconst (v := (1 : Int32)) hx hb dX10_parting_30 (by decide) ?_
      refine lv_isub hx hb dX10_parting_31 ?_
      refine ro_i (va_runS (As := [.int x1, .int (0 : Int32), .int (i_partings - (1 : Int32))]) (rest := []) ⟨hx, hb, hml, hown, hts⟩ (c_X10_within l hw) (kRX10_60 (h := 0) hts (Nat.le_trans (Nat.le_of_ble_eq_true rfl) hRf) (Nat.le_trans (Nat.le_of_ble_eq_true rfl) hRl)) pre_0 rfl rfl hl.1 rfl (lv_room (Nat.le_of_ble_eq_true rfl)) dX10_parting_32 ⟨Nat.zero_le _, Nat.zero_le _⟩) (fun r_5 hw => ?_)
      refine lv_if_eq (tgt := 47) hx hb dX10_parting_35 (by decide) (fun c_6 => ?_) (fun c_6 => ?_)
      · have hw := hw.1 c_6
        refine lv_sipush (v := ((-1001) : Int32)) hx hb dX10_parting_47 (by decide +kernel) ?_
        exact rt_i hx hb hr hlocks hw dX10_parting_50
      · have hw := hw.2 c_6
        refine lv_aload_n hx hb dX10_parting_38 rfl (lv_at hl 0 rfl) ?_
        refine lv_iload_n hx hb dX10_parting_39 rfl (lv_at hl 1 rfl) ?_
        refine lv_iload_n hx hb dX10_parting_40 rfl (lv_at hl 2 rfl) ?_
        refine ro_i (va_runV (As := [.int x1, .int x2]) (rest := []) ⟨hx, hb, hml, hown, hts⟩ (c_X10_partingNow l hw) (kRX10_158 (h := 2) hts (Nat.le_trans (Nat.le_of_ble_eq_true rfl) hRf) (Nat.le_trans (Nat.le_of_ble_eq_true rfl) hRl)) (preM hK hP) rfl rfl hl.1 rfl (lv_room (Nat.le_of_ble_eq_true rfl)) dX10_parting_41 ⟨Nat.zero_le _, Nat.zero_le _⟩) (fun r_7 hw => ?_)
        refine lv_goto (tgt := 50) hx hb dX10_parting_44 (by decide) ?_
        exact rt_i hx hb hr hlocks hw dX10_parting_50
    · have hw := hw.1 c_4
      refine lv_sipush (v := ((-1003) : Int32)) hx hb dX10_parting_20 (by decide +kernel) ?_
      exact rt_i hx hb hr hlocks hw dX10_parting_23
  · have hw := hw.1 c_2
    refine lv_sipush (v := ((-1002) : Int32)) hx hb dX10_parting_9 (by decide +kernel) ?_
    exact rt_i hx hb hr hlocks hw dX10_parting_12
set_option maxHeartbeats 4000000 in
set_option maxRecDepth 100000 in
theorem c_X9_least (l : Launch) {D : va_G} {q : Nat → Nat} {cA : Nat → ClassId} {Fc_unkept : Int32} {Fc_tablesRead : Int32} {Pg_letters : Nat → Int32} {Pg_size : Int32} {Pg_fault : Int32} {Pg_rows : Int32} {Pg_inRow : Int32} {Pg_width : Int32} {Fl_entries : Nat → Int32} {Fl_states : Int32} {Fl_columns : Int32} {Fl_moves : Int32} {Fl_stables : Int32} {Fl_amiss : Int32} {Fl_normal : Int32} {Pt_lessers : Nat → Int32} {Pt_greaters : Nat → Int32} {Pt_size : Int32} {Lc_signals : Nat → Int32} {Lc_kept : Nat → Int64} {Lc_keptFrom : Nat → Int64} {Lc_candidates : Int32} {Lc_size : Int32} {Sc_signals : Nat → Int32} {Sc_codes : Nat → Int32} {Sc_size : Int32} {Ai_codes : Nat → Int32} {Ai_bits : Int32} {Cu_seen : Nat → Int32} {Cu_inThrees : Nat → Int32} {Cu_all : Int32} {Lo_asked : Nat → Nat → Int32} {Lo_ones : Nat → Nat → Int32} {Lo_sum : Nat → Nat → Int32} {Lo_wideSize : Nat → Int32} {Lo_sumSize : Nat → Int32} {Lo_flickers : Nat → Int32} {Lo_ready : Nat → Int32} {Wa_at : Int32} {Wa_turns : Int32} {Wa_changes : Int32} {post : Int32 → Prop} {x1 : Int32} (hw : wp_X9_least post Fl_normal Lc_signals Lc_size x1) : Met l yX9_least (Cond.code yX9_least cX9_least 2 (some .int) :: wsL_law) (rmH 0) (va_Pc [.ref (q 0), .int x1] (fun U => va_P D vwCl (wC q cA Fc_unkept Fc_tablesRead Pg_letters Pg_size Pg_fault Pg_rows Pg_inRow Pg_width Fl_entries Fl_states Fl_columns Fl_moves Fl_stables Fl_amiss Fl_normal Pt_lessers Pt_greaters Pt_size Lc_signals Lc_kept Lc_keptFrom Lc_candidates Lc_size Sc_signals Sc_codes Sc_size Ai_codes Ai_bits Cu_seen Cu_inThrees Cu_all Lo_asked Lo_ones Lo_sum Lo_wideSize Lo_sumSize Lo_flickers Lo_ready Wa_at Wa_turns Wa_changes) U.heap ∧ va_K D vwCl (tyC cA) U ∧ nwC U)) (qRi post) 0 0 (fun _ => False) := by
  refine Met.ofW (cc := cX9_least) (maxL := 2) (ret := (some .int)) (by decide) rfl ?_
  intro p e s m args below meth c s₁ B hml hv
  obtain ⟨rfl, hP, hK, hN⟩ := hv
  have X : kC p (headSpec (Cond.code yX9_least cX9_least 2 (some .int) :: wsL_law) (rmH 0)).room s m _ meth c cX9_least RX9 2 (some .int) 0 := ⟨B.exec, B.bytes, hml, findClass_of_methodNamed B.named, fun w h => atoms_spec (ws := Cond.code yX9_least cX9_least 2 (some .int) :: wsL_law) B.pre w (List.mem_cons_of_mem _ h), B.returns, B.notSynchronized, Nat.le_refl _, Nat.le_refl _⟩
  obtain ⟨hx, hb, hml, hown, hts, hr, hlocks, hRf, hRl⟩ := id X
  have hl := lv_entry ([.ref (q 0), .int x1]) (n := 2) (Nat.le_of_ble_eq_true rfl)
  rw [lg_entry_eq]
  generalize (lg_sl ([.ref (q 0), .int x1]) ++ List.replicate (2 - (lg_sl ([.ref (q 0), .int x1])).length) Slot.unset).toArray = ls at hl ⊢
  have hl : lv_has ls 2 [(0, .ref (q 0)), (1, .int x1)] := hl
  refine lv_iload_n hx hb dX9_least_0 rfl (lv_at hl 1 rfl) ?_
  refine lv_iconst (v := ((-1) : Int32)) hx hb dX9_least_1 (by decide) ?_
  refine lv_icmp_lt (tgt := 10) hx hb dX9_least_2 (by decide) (fun c_1 => ?_) (fun c_1 => ?_)
  · have hw := hw.1 c_1
    refine lv_sipush (v := ((-1002) : Int32)) hx hb dX9_least_10 (by decide +kernel) ?_
    exact rt_i hx hb hr hlocks hw dX9_least_13
  · have hw := hw.2 c_1
    refine lv_iload_n hx hb dX9_least_5 rfl (lv_at hl 1 rfl) ?_
    refine lv_iconst (v := (5 : Int32)) hx hb dX9_least_6 (by decide) ?_
    refine lv_icmp_lt (tgt := 14) hx hb dX9_least_7 (by decide) (fun c_2 => ?_) (fun c_2 => ?_)
    · have hw := hw.1 c_2
      refine lv_aload_n hx hb dX9_least_14 rfl (lv_at hl 0 rfl) ?_
      refine gRX9_19 hx hb hown hts hK hP dX9_least_15 ?_
      refine gRX9_110 hx hb hown hts hK hN hP dX9_least_18 ?_
      refine lv_if_ne (tgt := 28) hx hb dX9_least_21 (by decide) (fun c_3 => ?_) (fun c_3 => ?_)
      · have hw := hw.2 c_3
        refine lv_iload_n hx hb dX9_least_28 rfl (lv_at hl 1 rfl) ?_
        refine lv_iconst (v := ((-1) : Int32)) hx hb dX9_least_29 (by decide) ?_
        refine lv_icmp_ne (tgt := 55) hx hb dX9_least_30 (by decide) (fun c_4 => ?_) (fun c_4 => ?_)
        · have hw := hw.2 c_4
          refine lv_iload_n hx hb dX9_least_55 rfl (lv_at hl 1 rfl) ?_
          refine lv_aload_n hx hb dX9_least_56 rfl (lv_at hl 0 rfl) ?_
          refine gRX9_33 hx hb hown hts hK hP dX9_least_57 ?_
          refine gRX9_163 hx hb hown hts hK hN hP dX9_least_60 ?_
          refine lv_icmp_ge (tgt := 78) hx hb dX9_least_63 (by decide) (fun c_5 => ?_) (fun c_5 => ?_)
          · have hw := hw.1 c_5
            refine lv_iconst (v := ((-1) : Int32)) hx hb dX9_least_78 (by decide) ?_
            exact rt_i hx hb hr hlocks hw dX9_least_79
          · have hw := hw.2 c_5
            refine lv_aload_n hx hb dX9_least_66 rfl (lv_at hl 0 rfl) ?_
            refine gRX9_33 hx hb hown hts hK hP dX9_least_67 ?_
            refine gRX9_164 hx hb hown hts hK hN hP dX9_least_70 ?_
            refine lv_iload_n hx hb dX9_least_73 rfl (lv_at hl 1 rfl) ?_
            have h_6 := hw.1
            have hw := hw.2
            refine ld_Lc_signals hx hb hK hP h_6 dX9_least_74 ?_
            refine lv_goto (tgt := 79) hx hb dX9_least_75 (by decide) ?_
            exact rt_i hx hb hr hlocks hw dX9_least_79
        · have hw := hw.1 c_4
          refine lv_aload_n hx hb dX9_least_33 rfl (lv_at hl 0 rfl) ?_
          refine gRX9_33 hx hb hown hts hK hP dX9_least_34 ?_
          refine gRX9_163 hx hb hown hts hK hN hP dX9_least_37 ?_
          refine lv_if_le (tgt := 53) hx hb dX9_least_40 (by decide) (fun c_7 => ?_) (fun c_7 => ?_)
          · have hw := hw.1 c_7
            refine lv_iconst (v := ((-1) : Int32)) hx hb dX9_least_53 (by decide) ?_
            exact rt_i hx hb hr hlocks hw dX9_least_54
          · have hw := hw.2 c_7
            refine lv_aload_n hx hb dX9_least_43 rfl (lv_at hl 0 rfl) ?_
            refine gRX9_33 hx hb hown hts hK hP dX9_least_44 ?_
            refine gRX9_163 hx hb hown hts hK hN hP dX9_least_47 ?_
            refine lv_goto (tgt := 54) hx hb dX9_least_50 (by decide) ?_
            exact rt_i hx hb hr hlocks hw dX9_least_54
      · have hw := hw.1 c_3
        refine lv_sipush (v := ((-1003) : Int32)) hx hb dX9_least_24 (by decide +kernel) ?_
        exact rt_i hx hb hr hlocks hw dX9_least_27
    · have hw := hw.2 c_2
      refine lv_sipush (v := ((-1002) : Int32)) hx hb dX9_least_10 (by decide +kernel) ?_
      exact rt_i hx hb hr hlocks hw dX9_least_13
set_option maxHeartbeats 4000000 in
set_option maxRecDepth 100000 in
theorem c_X10_leastNow (l : Launch) {D : va_G} {q : Nat → Nat} {cA : Nat → ClassId} {i_pageLength : Int32} {a_page : Nat → Int32} {i_states : Int32} {i_columns : Int32} {a_entries : Nat → Int32} {i_signals : Int32} {a_signalAt : Nat → Int32} {i_walksAt : Int32} {i_turned : Int32} {i_changed : Int32} {i_read : Int32} {i_newRows : Int32} {i_newEntries : Int32} {i_newColumns : Int32} {i_greatest : Int32} {a_newAt : Nat → Int32} {i_partings : Int32} {a_lowSet : Nat → Int32} {a_highSet : Nat → Int32} {i_leastMany : Int32} {a_leastAt : Nat → Int32} {a_tried : Nat → Int32} {a_keptLow : Nat → Int64} {a_keptHigh : Nat → Int64} {i_laid : Int32} {a_wants : Nat → Int32} {i_wide : Int32} {a_wideAsked : Nat → Int32} {a_wideOnes : Nat → Int32} {i_sum : Int32} {i_flickers : Int32} {a_sumAt : Nat → Int32} {j_h : Int64} {post : Int32 → Prop} {x1 : Int32} (hw : wp_X10_leastNow post i_leastMany a_leastAt x1) : Met l yX10_leastNow (Cond.code yX10_leastNow cX10_leastNow 2 (some .int) :: wsL_law) (rmH 0) (va_Pc [.ref (q 0), .int x1] (fun U => va_P D vwCl (wM q cA i_pageLength a_page i_states i_columns a_entries i_signals a_signalAt i_walksAt i_turned i_changed i_read i_newRows i_newEntries i_newColumns i_greatest a_newAt i_partings a_lowSet a_highSet i_leastMany a_leastAt a_tried a_keptLow a_keptHigh i_laid a_wants i_wide a_wideAsked a_wideOnes i_sum i_flickers a_sumAt j_h) U.heap ∧ va_K D vwCl (tyM cA) U)) (qRi post) 0 0 (fun _ => False) := by
  refine Met.ofW (cc := cX10_leastNow) (maxL := 2) (ret := (some .int)) (by decide) rfl ?_
  intro p e s m args below meth c s₁ B hml hv
  obtain ⟨rfl, hP, hK⟩ := hv
  have X : kC p (headSpec (Cond.code yX10_leastNow cX10_leastNow 2 (some .int) :: wsL_law) (rmH 0)).room s m _ meth c cX10_leastNow RX10 2 (some .int) 0 := ⟨B.exec, B.bytes, hml, findClass_of_methodNamed B.named, fun w h => atoms_spec (ws := Cond.code yX10_leastNow cX10_leastNow 2 (some .int) :: wsL_law) B.pre w (List.mem_cons_of_mem _ h), B.returns, B.notSynchronized, Nat.le_refl _, Nat.le_refl _⟩
  obtain ⟨hx, hb, hml, hown, hts, hr, hlocks, hRf, hRl⟩ := id X
  have hl := lv_entry ([.ref (q 0), .int x1]) (n := 2) (Nat.le_of_ble_eq_true rfl)
  rw [lg_entry_eq]
  generalize (lg_sl ([.ref (q 0), .int x1]) ++ List.replicate (2 - (lg_sl ([.ref (q 0), .int x1])).length) Slot.unset).toArray = ls at hl ⊢
  have hl : lv_has ls 2 [(0, .ref (q 0)), (1, .int x1)] := hl
  refine lv_iload_n hx hb dX10_leastNow_0 rfl (lv_at hl 1 rfl) ?_
  refine lv_iconst (v := ((-1) : Int32)) hx hb dX10_leastNow_1 (by decide) ?_
  refine lv_icmp_eq (tgt := 13) hx hb dX10_leastNow_2 (by decide) (fun c_1 => ?_) (fun c_1 => ?_)
  · have hw := hw.1 c_1
    refine lv_aload_n hx hb dX10_leastNow_13 rfl (lv_at hl 0 rfl) ?_
    refine gRX10_32 hx hb hown hts hK hP dX10_leastNow_14 ?_
    exact rt_i hx hb hr hlocks hw dX10_leastNow_17
  · have hw := hw.2 c_1
    refine lv_aload_n hx hb dX10_leastNow_5 rfl (lv_at hl 0 rfl) ?_
    refine gRX10_32 hx hb hown hts hK hP dX10_leastNow_6 ?_
    refine lv_iconst (v := ((-1) : Int32)) hx hb dX10_leastNow_9 (by decide) ?_
    refine lv_icmp_ne (tgt := 18) hx hb dX10_leastNow_10 (by decide) (fun c_2 => ?_) (fun c_2 => ?_)
    · have hw := hw.2 c_2
      refine lv_iload_n hx hb dX10_leastNow_18 rfl (lv_at hl 1 rfl) ?_
      refine lv_aload_n hx hb dX10_leastNow_19 rfl (lv_at hl 0 rfl) ?_
      refine gRX10_32 hx hb hown hts hK hP dX10_leastNow_20 ?_
      refine lv_icmp_ge (tgt := 35) hx hb dX10_leastNow_23 (by decide) (fun c_3 => ?_) (fun c_3 => ?_)
      · have hw := hw.1 c_3
        refine lv_iconst (v := ((-1) : Int32)) hx hb dX10_leastNow_35 (by decide) ?_
        exact rt_i hx hb hr hlocks hw dX10_leastNow_36
      · have hw := hw.2 c_3
        refine lv_aload_n hx hb dX10_leastNow_26 rfl (lv_at hl 0 rfl) ?_
        refine gRX10_35 hx hb hown hts hK hP dX10_leastNow_27 ?_
        refine lv_iload_n hx hb dX10_leastNow_30 rfl (lv_at hl 1 rfl) ?_
        have h_4 := hw.1
        have hw := hw.2
        refine ld_a_leastAt hx hb hK hP h_4 dX10_leastNow_31 ?_
        refine lv_goto (tgt := 36) hx hb dX10_leastNow_32 (by decide) ?_
        exact rt_i hx hb hr hlocks hw dX10_leastNow_36
    · have hw := hw.1 c_2
      refine lv_aload_n hx hb dX10_leastNow_13 rfl (lv_at hl 0 rfl) ?_
      refine gRX10_32 hx hb hown hts hK hP dX10_leastNow_14 ?_
      exact rt_i hx hb hr hlocks hw dX10_leastNow_17
set_option maxHeartbeats 4000000 in
set_option maxRecDepth 100000 in
theorem c_X10_least (l : Launch) {D : va_G} {q : Nat → Nat} {cA : Nat → ClassId} {i_pageLength : Int32} {a_page : Nat → Int32} {i_states : Int32} {i_columns : Int32} {a_entries : Nat → Int32} {i_signals : Int32} {a_signalAt : Nat → Int32} {i_walksAt : Int32} {i_turned : Int32} {i_changed : Int32} {i_read : Int32} {i_newRows : Int32} {i_newEntries : Int32} {i_newColumns : Int32} {i_greatest : Int32} {a_newAt : Nat → Int32} {i_partings : Int32} {a_lowSet : Nat → Int32} {a_highSet : Nat → Int32} {i_leastMany : Int32} {a_leastAt : Nat → Int32} {a_tried : Nat → Int32} {a_keptLow : Nat → Int64} {a_keptHigh : Nat → Int64} {i_laid : Int32} {a_wants : Nat → Int32} {i_wide : Int32} {a_wideAsked : Nat → Int32} {a_wideOnes : Nat → Int32} {i_sum : Int32} {i_flickers : Int32} {a_sumAt : Nat → Int32} {j_h : Int64} {post : Int32 → Prop} {x1 : Int32} (hw : wp_X10_least post i_states i_columns a_entries i_leastMany a_leastAt x1) : Met l yX10_least (Cond.code yX10_least cX10_least 2 (some .int) :: wsL_law) (rmH 3) (va_Pc [.ref (q 0), .int x1] (fun U => va_P D vwCl (wM q cA i_pageLength a_page i_states i_columns a_entries i_signals a_signalAt i_walksAt i_turned i_changed i_read i_newRows i_newEntries i_newColumns i_greatest a_newAt i_partings a_lowSet a_highSet i_leastMany a_leastAt a_tried a_keptLow a_keptHigh i_laid a_wants i_wide a_wideAsked a_wideOnes i_sum i_flickers a_sumAt j_h) U.heap ∧ va_K D vwCl (tyM cA) U)) (qRi post) 0 0 (fun _ => False) := by
  refine Met.ofW (cc := cX10_least) (maxL := 2) (ret := (some .int)) (by decide) rfl ?_
  intro p e s m args below meth c s₁ B hml hv
  obtain ⟨rfl, hP, hK⟩ := hv
  have X : kC p (headSpec (Cond.code yX10_least cX10_least 2 (some .int) :: wsL_law) (rmH 3)).room s m _ meth c cX10_least RX10 2 (some .int) 3 := ⟨B.exec, B.bytes, hml, findClass_of_methodNamed B.named, fun w h => atoms_spec (ws := Cond.code yX10_least cX10_least 2 (some .int) :: wsL_law) B.pre w (List.mem_cons_of_mem _ h), B.returns, B.notSynchronized, Nat.le_refl _, Nat.le_refl _⟩
  obtain ⟨hx, hb, hml, hown, hts, hr, hlocks, hRf, hRl⟩ := id X
  have hl := lv_entry ([.ref (q 0), .int x1]) (n := 2) (Nat.le_of_ble_eq_true rfl)
  rw [lg_entry_eq]
  generalize (lg_sl ([.ref (q 0), .int x1]) ++ List.replicate (2 - (lg_sl ([.ref (q 0), .int x1])).length) Slot.unset).toArray = ls at hl ⊢
  have hl : lv_has ls 2 [(0, .ref (q 0)), (1, .int x1)] := hl
  refine lv_iload_n hx hb dX10_least_0 rfl (lv_at hl 1 rfl) ?_
  refine lv_iconst (v := ((-1) : Int32)) hx hb dX10_least_1 (by decide) ?_
  refine lv_iconst (v := (4 : Int32)) hx hb dX10_least_2 (by decide) ?_
  refine ro_i (va_runS (As := [.int x1, .int ((-1) : Int32), .int (4 : Int32)]) (rest := []) ⟨hx, hb, hml, hown, hts⟩ (c_X10_within l hw) (kRX10_60 (h := 0) hts (Nat.le_trans (Nat.le_of_ble_eq_true rfl) hRf) (Nat.le_trans (Nat.le_of_ble_eq_true rfl) hRl)) pre_0 rfl rfl hl.1 rfl (lv_room (Nat.le_of_ble_eq_true rfl)) dX10_least_3 ⟨Nat.zero_le _, Nat.zero_le _⟩) (fun r_1 hw => ?_)
  refine lv_if_ne (tgt := 13) hx hb dX10_least_6 (by decide) (fun c_2 => ?_) (fun c_2 => ?_)
  · have hw := hw.2 c_2
    refine lv_aload_n hx hb dX10_least_13 rfl (lv_at hl 0 rfl) ?_
    refine ro_i (va_runV (As := []) (rest := []) ⟨hx, hb, hml, hown, hts⟩ (c_X10_isNormal l hw) (kRX10_125 (h := 2) hts (Nat.le_trans (Nat.le_of_ble_eq_true rfl) hRf) (Nat.le_trans (Nat.le_of_ble_eq_true rfl) hRl)) (preM hK hP) rfl rfl hl.1 rfl (lv_room (Nat.le_of_ble_eq_true rfl)) dX10_least_14 ⟨Nat.zero_le _, Nat.zero_le _⟩) (fun r_3 hw => ?_)
    refine lv_if_eq (tgt := 28) hx hb dX10_least_17 (by decide) (fun c_4 => ?_) (fun c_4 => ?_)
    · have hw := hw.1 c_4
      refine lv_sipush (v := ((-1003) : Int32)) hx hb dX10_least_28 (by decide +kernel) ?_
      exact rt_i hx hb hr hlocks hw dX10_least_31
    · have hw := hw.2 c_4
      refine lv_aload_n hx hb dX10_least_20 rfl (lv_at hl 0 rfl) ?_
      refine lv_iload_n hx hb dX10_least_21 rfl (lv_at hl 1 rfl) ?_
      refine ro_i (va_runV (As := [.int x1]) (rest := []) ⟨hx, hb, hml, hown, hts⟩ (c_X10_leastNow l hw) (kRX10_175 (h := 0) hts (Nat.le_trans (Nat.le_of_ble_eq_true rfl) hRf) (Nat.le_trans (Nat.le_of_ble_eq_true rfl) hRl)) (preM hK hP) rfl rfl hl.1 rfl (lv_room (Nat.le_of_ble_eq_true rfl)) dX10_least_22 ⟨Nat.zero_le _, Nat.zero_le _⟩) (fun r_5 hw => ?_)
      refine lv_goto (tgt := 31) hx hb dX10_least_25 (by decide) ?_
      exact rt_i hx hb hr hlocks hw dX10_least_31
  · have hw := hw.1 c_2
    refine lv_sipush (v := ((-1002) : Int32)) hx hb dX10_least_9 (by decide +kernel) ?_
    exact rt_i hx hb hr hlocks hw dX10_least_12
set_option maxHeartbeats 4000000 in
set_option maxRecDepth 100000 in
theorem c_X2_allStates (l : Launch) {D : va_G} {q : Nat → Nat} {cA : Nat → ClassId} {Fc_unkept : Int32} {Fc_tablesRead : Int32} {Pg_letters : Nat → Int32} {Pg_size : Int32} {Pg_fault : Int32} {Pg_rows : Int32} {Pg_inRow : Int32} {Pg_width : Int32} {Fl_entries : Nat → Int32} {Fl_states : Int32} {Fl_columns : Int32} {Fl_moves : Int32} {Fl_stables : Int32} {Fl_amiss : Int32} {Fl_normal : Int32} {Pt_lessers : Nat → Int32} {Pt_greaters : Nat → Int32} {Pt_size : Int32} {Lc_signals : Nat → Int32} {Lc_kept : Nat → Int64} {Lc_keptFrom : Nat → Int64} {Lc_candidates : Int32} {Lc_size : Int32} {Sc_signals : Nat → Int32} {Sc_codes : Nat → Int32} {Sc_size : Int32} {Ai_codes : Nat → Int32} {Ai_bits : Int32} {Cu_seen : Nat → Int32} {Cu_inThrees : Nat → Int32} {Cu_all : Int32} {Lo_asked : Nat → Nat → Int32} {Lo_ones : Nat → Nat → Int32} {Lo_sum : Nat → Nat → Int32} {Lo_wideSize : Nat → Int32} {Lo_sumSize : Nat → Int32} {Lo_flickers : Nat → Int32} {Lo_ready : Nat → Int32} {Wa_at : Int32} {Wa_turns : Int32} {Wa_changes : Int32} {post : Int32 → Prop}  (hw : wp_X2_allStates post Fl_states ) : Met l yX2_allStates (Cond.code yX2_allStates cX2_allStates 1 (some .int) :: wsL_law) (rmH 0) (va_Pc [.ref (q 3)] (fun U => va_P D vwCl (wC q cA Fc_unkept Fc_tablesRead Pg_letters Pg_size Pg_fault Pg_rows Pg_inRow Pg_width Fl_entries Fl_states Fl_columns Fl_moves Fl_stables Fl_amiss Fl_normal Pt_lessers Pt_greaters Pt_size Lc_signals Lc_kept Lc_keptFrom Lc_candidates Lc_size Sc_signals Sc_codes Sc_size Ai_codes Ai_bits Cu_seen Cu_inThrees Cu_all Lo_asked Lo_ones Lo_sum Lo_wideSize Lo_sumSize Lo_flickers Lo_ready Wa_at Wa_turns Wa_changes) U.heap ∧ va_K D vwCl (tyC cA) U ∧ nwC U)) (qRi post) 0 0 (fun _ => False) := by
  refine Met.ofW (cc := cX2_allStates) (maxL := 1) (ret := (some .int)) (by decide) rfl ?_
  intro p e s m args below meth c s₁ B hml hv
  obtain ⟨rfl, hP, hK, hN⟩ := hv
  have X : kC p (headSpec (Cond.code yX2_allStates cX2_allStates 1 (some .int) :: wsL_law) (rmH 0)).room s m _ meth c cX2_allStates RX2 1 (some .int) 0 := ⟨B.exec, B.bytes, hml, findClass_of_methodNamed B.named, fun w h => atoms_spec (ws := Cond.code yX2_allStates cX2_allStates 1 (some .int) :: wsL_law) B.pre w (List.mem_cons_of_mem _ h), B.returns, B.notSynchronized, Nat.le_refl _, Nat.le_refl _⟩
  obtain ⟨hx, hb, hml, hown, hts, hr, hlocks, hRf, hRl⟩ := id X
  have hl := lv_entry ([.ref (q 3)]) (n := 1) (Nat.le_of_ble_eq_true rfl)
  rw [lg_entry_eq]
  generalize (lg_sl ([.ref (q 3)]) ++ List.replicate (1 - (lg_sl ([.ref (q 3)])).length) Slot.unset).toArray = ls at hl ⊢
  have hl : lv_has ls 1 [(0, .ref (q 3))] := hl
  refine lv_iconst (v := (1 : Int32)) hx hb dX2_allStates_0 (by decide) ?_
  refine lv_aload_n hx hb dX2_allStates_1 rfl (lv_at hl 0 rfl) ?_
  refine gRX2_24 hx hb hown hts hK hP dX2_allStates_2 ?_
  refine lv_ishl hx hb dX2_allStates_5 ?_
  refine lv_iconst (v := (1 : Int32)) hx hb dX2_allStates_6 (by decide) ?_
  refine lv_isub hx hb dX2_allStates_7 ?_
  exact rt_i hx hb hr hlocks hw dX2_allStates_8
abbrev Z_X9_put (D : va_G) (q : Nat → Nat) (cA : Nat → ClassId) (Fc_tablesRead : Int32) (Pg_letters : Nat → Int32) (Pg_size : Int32) (Pg_fault : Int32) (Pg_rows : Int32) (Pg_inRow : Int32) (Pg_width : Int32) (Fl_entries : Nat → Int32) (Fl_states : Int32) (Fl_columns : Int32) (Fl_moves : Int32) (Fl_stables : Int32) (Fl_amiss : Int32) (Fl_normal : Int32) (Pt_lessers : Nat → Int32) (Pt_greaters : Nat → Int32) (Pt_size : Int32) (Lc_signals : Nat → Int32) (Lc_kept : Nat → Int64) (Lc_keptFrom : Nat → Int64) (Lc_candidates : Int32) (Lc_size : Int32) (Cu_seen : Nat → Int32) (Cu_inThrees : Nat → Int32) (Cu_all : Int32) (Lo_asked : Nat → Nat → Int32) (Lo_ones : Nat → Nat → Int32) (Lo_sum : Nat → Nat → Int32) (Lo_wideSize : Nat → Int32) (Lo_sumSize : Nat → Int32) (Lo_flickers : Nat → Int32) (Wa_at : Int32) (Wa_turns : Int32) (Wa_changes : Int32) (post : Int32 → Int32 → (Nat → Int32) → (Nat → Int32) → Int32 → (Nat → Int32) → Int32 → (Nat → Int32) → Prop) : Int32 → State → Prop := fun r t => ∃ (y_Fc_unkept : Int32) (y_Sc_signals : Nat → Int32) (y_Sc_codes : Nat → Int32) (y_Sc_size : Int32) (y_Ai_codes : Nat → Int32) (y_Ai_bits : Int32) (y_Lo_ready : Nat → Int32), post r y_Fc_unkept y_Sc_signals y_Sc_codes y_Sc_size y_Ai_codes y_Ai_bits y_Lo_ready ∧ va_P D vwCl (wC q cA y_Fc_unkept Fc_tablesRead Pg_letters Pg_size Pg_fault Pg_rows Pg_inRow Pg_width Fl_entries Fl_states Fl_columns Fl_moves Fl_stables Fl_amiss Fl_normal Pt_lessers Pt_greaters Pt_size Lc_signals Lc_kept Lc_keptFrom Lc_candidates Lc_size y_Sc_signals y_Sc_codes y_Sc_size y_Ai_codes y_Ai_bits Cu_seen Cu_inThrees Cu_all Lo_asked Lo_ones Lo_sum Lo_wideSize Lo_sumSize Lo_flickers y_Lo_ready Wa_at Wa_turns Wa_changes) t.heap
set_option maxHeartbeats 4000000 in
set_option maxRecDepth 100000 in
theorem c_X9_put (l : Launch) {D : va_G} {q : Nat → Nat} {cA : Nat → ClassId} {Fc_unkept : Int32} {Fc_tablesRead : Int32} {Pg_letters : Nat → Int32} {Pg_size : Int32} {Pg_fault : Int32} {Pg_rows : Int32} {Pg_inRow : Int32} {Pg_width : Int32} {Fl_entries : Nat → Int32} {Fl_states : Int32} {Fl_columns : Int32} {Fl_moves : Int32} {Fl_stables : Int32} {Fl_amiss : Int32} {Fl_normal : Int32} {Pt_lessers : Nat → Int32} {Pt_greaters : Nat → Int32} {Pt_size : Int32} {Lc_signals : Nat → Int32} {Lc_kept : Nat → Int64} {Lc_keptFrom : Nat → Int64} {Lc_candidates : Int32} {Lc_size : Int32} {Sc_signals : Nat → Int32} {Sc_codes : Nat → Int32} {Sc_size : Int32} {Ai_codes : Nat → Int32} {Ai_bits : Int32} {Cu_seen : Nat → Int32} {Cu_inThrees : Nat → Int32} {Cu_all : Int32} {Lo_asked : Nat → Nat → Int32} {Lo_ones : Nat → Nat → Int32} {Lo_sum : Nat → Nat → Int32} {Lo_wideSize : Nat → Int32} {Lo_sumSize : Nat → Int32} {Lo_flickers : Nat → Int32} {Lo_ready : Nat → Int32} {Wa_at : Int32} {Wa_turns : Int32} {Wa_changes : Int32} {A : Nat → Prop} {post : Int32 → Int32 → (Nat → Int32) → (Nat → Int32) → Int32 → (Nat → Int32) → Int32 → (Nat → Int32) → Prop} {x1 : Int32} (hw : wp_X9_put post Fc_unkept Fl_entries Fl_states Fl_columns Fl_normal Pt_lessers Pt_greaters Pt_size Sc_signals Sc_codes Sc_size Ai_codes Ai_bits Lo_ready x1) : Met l yX9_put (Cond.code yX9_put cX9_put 2 (some .int) :: wsL_law) (rmH 5) (va_Pc [.ref (q 0), .int x1] (fun U => va_P D vwCl (wC q cA Fc_unkept Fc_tablesRead Pg_letters Pg_size Pg_fault Pg_rows Pg_inRow Pg_width Fl_entries Fl_states Fl_columns Fl_moves Fl_stables Fl_amiss Fl_normal Pt_lessers Pt_greaters Pt_size Lc_signals Lc_kept Lc_keptFrom Lc_candidates Lc_size Sc_signals Sc_codes Sc_size Ai_codes Ai_bits Cu_seen Cu_inThrees Cu_all Lo_asked Lo_ones Lo_sum Lo_wideSize Lo_sumSize Lo_flickers Lo_ready Wa_at Wa_turns Wa_changes) U.heap ∧ va_K D vwCl (tyC cA) U ∧ nwC U ∧ va_D A (wC q cA Fc_unkept Fc_tablesRead Pg_letters Pg_size Pg_fault Pg_rows Pg_inRow Pg_width Fl_entries Fl_states Fl_columns Fl_moves Fl_stables Fl_amiss Fl_normal Pt_lessers Pt_greaters Pt_size Lc_signals Lc_kept Lc_keptFrom Lc_candidates Lc_size Sc_signals Sc_codes Sc_size Ai_codes Ai_bits Cu_seen Cu_inThrees Cu_all Lo_asked Lo_ones Lo_sum Lo_wideSize Lo_sumSize Lo_flickers Lo_ready Wa_at Wa_turns Wa_changes))) (qWi (Z_X9_put D q cA Fc_tablesRead Pg_letters Pg_size Pg_fault Pg_rows Pg_inRow Pg_width Fl_entries Fl_states Fl_columns Fl_moves Fl_stables Fl_amiss Fl_normal Pt_lessers Pt_greaters Pt_size Lc_signals Lc_kept Lc_keptFrom Lc_candidates Lc_size Cu_seen Cu_inThrees Cu_all Lo_asked Lo_ones Lo_sum Lo_wideSize Lo_sumSize Lo_flickers Wa_at Wa_turns Wa_changes post) A) 0 0 A := by
  refine Met.ofW (cc := cX9_put) (maxL := 2) (ret := (some .int)) (by decide) rfl ?_
  intro p e s m args below meth c s₁ B hml hv
  obtain ⟨rfl, hP, hK, hN, hD⟩ := hv
  have X : kC p (headSpec (Cond.code yX9_put cX9_put 2 (some .int) :: wsL_law) (rmH 5)).room s m _ meth c cX9_put RX9 2 (some .int) 5 := ⟨B.exec, B.bytes, hml, findClass_of_methodNamed B.named, fun w h => atoms_spec (ws := Cond.code yX9_put cX9_put 2 (some .int) :: wsL_law) B.pre w (List.mem_cons_of_mem _ h), B.returns, B.notSynchronized, Nat.le_refl _, Nat.le_refl _⟩
  obtain ⟨hx, hb, hml, hown, hts, hr, hlocks, hRf, hRl⟩ := id X
  have hS : va_S A s.heap s.heap [] := va_S.rf
  have hl := lv_entry ([.ref (q 0), .int x1]) (n := 2) (Nat.le_of_ble_eq_true rfl)
  rw [lg_entry_eq]
  generalize (lg_sl ([.ref (q 0), .int x1]) ++ List.replicate (2 - (lg_sl ([.ref (q 0), .int x1])).length) Slot.unset).toArray = ls at hl ⊢
  have hl : lv_has ls 2 [(0, .ref (q 0)), (1, .int x1)] := hl
  refine lv_aload_n hx hb dX9_put_0 rfl (lv_at hl 0 rfl) ?_
  refine gRX9_19 hx hb hown hts hK hP dX9_put_1 ?_
  refine gRX9_110 hx hb hown hts hK hN hP dX9_put_4 ?_
  refine lv_if_ne (tgt := 14) hx hb dX9_put_7 (by decide) (fun c_1 => ?_) (fun c_1 => ?_)
  · have hw := hw.2 c_1
    refine lv_iload_n hx hb dX9_put_14 rfl (lv_at hl 1 rfl) ?_
    refine lv_aload_n hx hb dX9_put_15 rfl (lv_at hl 0 rfl) ?_
    refine gRX9_19 hx hb hown hts hK hP dX9_put_16 ?_
    refine ro_i (va_runV (As := []) (rest := [.int x1]) ⟨hx, hb, hml, hown, hts⟩ (c_X2_allStates l hw) (kRX9_168 (h := 0) hts (Nat.le_trans (Nat.le_of_ble_eq_true rfl) hRf) (Nat.le_trans (Nat.le_of_ble_eq_true rfl) hRl)) (preX2 hK hN hP) rfl rfl hl.1 rfl (lv_room (Nat.le_of_ble_eq_true rfl)) dX9_put_19 ⟨Nat.zero_le _, Nat.zero_le _⟩) (fun r_2 hw => ?_)
    refine lv_iconst (v := ((-1) : Int32)) hx hb dX9_put_22 (by decide) ?_
    refine lv_ixor hx hb dX9_put_23 ?_
    refine lv_iand hx hb dX9_put_24 ?_
    refine lv_if_eq (tgt := 32) hx hb dX9_put_25 (by decide) (fun c_3 => ?_) (fun c_3 => ?_)
    · have hw := hw.1 c_3
      refine lv_aload_n hx hb dX9_put_32 rfl (lv_at hl 0 rfl) ?_
      refine gRX9_40 hx hb hown hts hK hP dX9_put_33 ?_
      refine lv_iload_n hx hb dX9_put_36 rfl (lv_at hl 1 rfl) ?_
      refine wr_i (va_runV (As := [.int x1]) (rest := []) ⟨hx, hb, hml, hown, hts⟩ (c_X7_add l hw) (kRX9_172 (h := 0) hts (Nat.le_trans (Nat.le_of_ble_eq_true rfl) hRf) (Nat.le_trans (Nat.le_of_ble_eq_true rfl) hRl)) (preX7w hK hN hP hD) rfl rfl hl.1 rfl (lv_room (Nat.le_of_ble_eq_true rfl)) dX9_put_37 ⟨Nat.zero_le _, Nat.zero_le _⟩) hS (fun r_4 t H locs ht hw hS => ?_)
      obtain ⟨ysignals_4, ycodes_4, ysize_4, hw, hP⟩ := hw
      rw [ht] at hP
      have hP : va_P D vwCl (wC q cA Fc_unkept Fc_tablesRead Pg_letters Pg_size Pg_fault Pg_rows Pg_inRow Pg_width Fl_entries Fl_states Fl_columns Fl_moves Fl_stables Fl_amiss Fl_normal Pt_lessers Pt_greaters Pt_size Lc_signals Lc_kept Lc_keptFrom Lc_candidates Lc_size ysignals_4 ycodes_4 ysize_4 Ai_codes Ai_bits Cu_seen Cu_inThrees Cu_all Lo_asked Lo_ones Lo_sum Lo_wideSize Lo_sumSize Lo_flickers Lo_ready Wa_at Wa_turns Wa_changes) H := hP
      have hD : va_D A (wC q cA Fc_unkept Fc_tablesRead Pg_letters Pg_size Pg_fault Pg_rows Pg_inRow Pg_width Fl_entries Fl_states Fl_columns Fl_moves Fl_stables Fl_amiss Fl_normal Pt_lessers Pt_greaters Pt_size Lc_signals Lc_kept Lc_keptFrom Lc_candidates Lc_size ysignals_4 ycodes_4 ysize_4 Ai_codes Ai_bits Cu_seen Cu_inThrees Cu_all Lo_asked Lo_ones Lo_sum Lo_wideSize Lo_sumSize Lo_flickers Lo_ready Wa_at Wa_turns Wa_changes) := dC hD
      refine lv_if_ne (tgt := 47) hx hb dX9_put_40 (by decide) (fun c_5 => ?_) (fun c_5 => ?_)
      · have hw := hw.2 c_5
        refine lv_aload_n hx hb dX9_put_47 rfl (lv_at hl 0 rfl) ?_
        refine wr_v (va_runV (As := []) (rest := []) ⟨hx, hb, hml, hown, hts⟩ (c_X9_settle l hw) (kRX9_129 (h := 4) hts (Nat.le_trans (Nat.le_of_ble_eq_true rfl) hRf) (Nat.le_trans (Nat.le_of_ble_eq_true rfl) hRl)) (preX9w hK hN hP hD) rfl rfl hl.1 rfl (lv_room (Nat.le_of_ble_eq_true rfl)) dX9_put_48 ⟨Nat.zero_le _, Nat.zero_le _⟩) hS (fun t H locs ht hw hS => ?_)
        obtain ⟨yunkept_6, ycodes_6, ybits_6, yready_6, hw, hP⟩ := hw
        rw [ht] at hP
        have hP : va_P D vwCl (wC q cA yunkept_6 Fc_tablesRead Pg_letters Pg_size Pg_fault Pg_rows Pg_inRow Pg_width Fl_entries Fl_states Fl_columns Fl_moves Fl_stables Fl_amiss Fl_normal Pt_lessers Pt_greaters Pt_size Lc_signals Lc_kept Lc_keptFrom Lc_candidates Lc_size ysignals_4 ycodes_4 ysize_4 ycodes_6 ybits_6 Cu_seen Cu_inThrees Cu_all Lo_asked Lo_ones Lo_sum Lo_wideSize Lo_sumSize Lo_flickers yready_6 Wa_at Wa_turns Wa_changes) H := hP
        have hD : va_D A (wC q cA yunkept_6 Fc_tablesRead Pg_letters Pg_size Pg_fault Pg_rows Pg_inRow Pg_width Fl_entries Fl_states Fl_columns Fl_moves Fl_stables Fl_amiss Fl_normal Pt_lessers Pt_greaters Pt_size Lc_signals Lc_kept Lc_keptFrom Lc_candidates Lc_size ysignals_4 ycodes_4 ysize_4 ycodes_6 ybits_6 Cu_seen Cu_inThrees Cu_all Lo_asked Lo_ones Lo_sum Lo_wideSize Lo_sumSize Lo_flickers yready_6 Wa_at Wa_turns Wa_changes) := dC hD
        refine lv_aload_n hx hb dX9_put_51 rfl (lv_at hl 0 rfl) ?_
        refine gRX9_40 hx hb hown hts hK hP dX9_put_52 ?_
        refine gRX9_175 hx hb hown hts hK hN hP dX9_put_55 ?_
        exact rw_i hx hb hr hlocks (fun t ht => ⟨yunkept_6, ysignals_4, ycodes_4, ysize_4, ycodes_6, ybits_6, yready_6, hw, by rw [ht]; exact hP⟩) hS dX9_put_58
      · have hw := hw.1 c_5
        refine lv_sipush (v := ((-1004) : Int32)) hx hb dX9_put_43 (by decide +kernel) ?_
        exact rw_i hx hb hr hlocks (fun t ht => ⟨Fc_unkept, ysignals_4, ycodes_4, ysize_4, Ai_codes, Ai_bits, Lo_ready, hw, by rw [ht]; exact hP⟩) hS dX9_put_46
    · have hw := hw.2 c_3
      refine lv_sipush (v := ((-1002) : Int32)) hx hb dX9_put_28 (by decide +kernel) ?_
      exact rw_i hx hb hr hlocks (fun t ht => ⟨Fc_unkept, Sc_signals, Sc_codes, Sc_size, Ai_codes, Ai_bits, Lo_ready, hw, by rw [ht]; exact hP⟩) hS dX9_put_31
  · have hw := hw.1 c_1
    refine lv_sipush (v := ((-1003) : Int32)) hx hb dX9_put_10 (by decide +kernel) ?_
    exact rw_i hx hb hr hlocks (fun t ht => ⟨Fc_unkept, Sc_signals, Sc_codes, Sc_size, Ai_codes, Ai_bits, Lo_ready, hw, by rw [ht]; exact hP⟩) hS dX9_put_13
abbrev Z_X10_put (D : va_G) (q : Nat → Nat) (cA : Nat → ClassId) (i_pageLength : Int32) (a_page : Nat → Int32) (i_states : Int32) (i_columns : Int32) (a_entries : Nat → Int32) (i_walksAt : Int32) (i_turned : Int32) (i_changed : Int32) (i_read : Int32) (i_newRows : Int32) (i_newEntries : Int32) (i_newColumns : Int32) (i_greatest : Int32) (a_newAt : Nat → Int32) (i_partings : Int32) (a_lowSet : Nat → Int32) (a_highSet : Nat → Int32) (i_leastMany : Int32) (a_leastAt : Nat → Int32) (a_tried : Nat → Int32) (a_keptLow : Nat → Int64) (a_keptHigh : Nat → Int64) (a_wants : Nat → Int32) (i_wide : Int32) (a_wideAsked : Nat → Int32) (a_wideOnes : Nat → Int32) (i_sum : Int32) (i_flickers : Int32) (a_sumAt : Nat → Int32) (j_h : Int64) (post : Int32 → Int32 → (Nat → Int32) → Int32 → Prop) : Int32 → State → Prop := fun r t => ∃ (y_i_signals : Int32) (y_a_signalAt : Nat → Int32) (y_i_laid : Int32), post r y_i_signals y_a_signalAt y_i_laid ∧ va_P D vwCl (wM q cA i_pageLength a_page i_states i_columns a_entries y_i_signals y_a_signalAt i_walksAt i_turned i_changed i_read i_newRows i_newEntries i_newColumns i_greatest a_newAt i_partings a_lowSet a_highSet i_leastMany a_leastAt a_tried a_keptLow a_keptHigh y_i_laid a_wants i_wide a_wideAsked a_wideOnes i_sum i_flickers a_sumAt j_h) t.heap
set_option maxHeartbeats 4000000 in
set_option maxRecDepth 100000 in
theorem c_X10_put (l : Launch) {D : va_G} {q : Nat → Nat} {cA : Nat → ClassId} {i_pageLength : Int32} {a_page : Nat → Int32} {i_states : Int32} {i_columns : Int32} {a_entries : Nat → Int32} {i_signals : Int32} {a_signalAt : Nat → Int32} {i_walksAt : Int32} {i_turned : Int32} {i_changed : Int32} {i_read : Int32} {i_newRows : Int32} {i_newEntries : Int32} {i_newColumns : Int32} {i_greatest : Int32} {a_newAt : Nat → Int32} {i_partings : Int32} {a_lowSet : Nat → Int32} {a_highSet : Nat → Int32} {i_leastMany : Int32} {a_leastAt : Nat → Int32} {a_tried : Nat → Int32} {a_keptLow : Nat → Int64} {a_keptHigh : Nat → Int64} {i_laid : Int32} {a_wants : Nat → Int32} {i_wide : Int32} {a_wideAsked : Nat → Int32} {a_wideOnes : Nat → Int32} {i_sum : Int32} {i_flickers : Int32} {a_sumAt : Nat → Int32} {j_h : Int64} {A : Nat → Prop} {post : Int32 → Int32 → (Nat → Int32) → Int32 → Prop} {x1 : Int32} (hw : wp_X10_put post i_states i_columns a_entries i_signals a_signalAt i_laid x1) : Met l yX10_put (Cond.code yX10_put cX10_put 2 (some .int) :: wsL_law) (rmH 3) (va_Pc [.ref (q 0), .int x1] (fun U => va_P D vwCl (wM q cA i_pageLength a_page i_states i_columns a_entries i_signals a_signalAt i_walksAt i_turned i_changed i_read i_newRows i_newEntries i_newColumns i_greatest a_newAt i_partings a_lowSet a_highSet i_leastMany a_leastAt a_tried a_keptLow a_keptHigh i_laid a_wants i_wide a_wideAsked a_wideOnes i_sum i_flickers a_sumAt j_h) U.heap ∧ va_K D vwCl (tyM cA) U ∧ va_D A (wM q cA i_pageLength a_page i_states i_columns a_entries i_signals a_signalAt i_walksAt i_turned i_changed i_read i_newRows i_newEntries i_newColumns i_greatest a_newAt i_partings a_lowSet a_highSet i_leastMany a_leastAt a_tried a_keptLow a_keptHigh i_laid a_wants i_wide a_wideAsked a_wideOnes i_sum i_flickers a_sumAt j_h))) (qWi (Z_X10_put D q cA i_pageLength a_page i_states i_columns a_entries i_walksAt i_turned i_changed i_read i_newRows i_newEntries i_newColumns i_greatest a_newAt i_partings a_lowSet a_highSet i_leastMany a_leastAt a_tried a_keptLow a_keptHigh a_wants i_wide a_wideAsked a_wideOnes i_sum i_flickers a_sumAt j_h post) A) 0 0 A := by
  refine Met.ofW (cc := cX10_put) (maxL := 2) (ret := (some .int)) (by decide) rfl ?_
  intro p e s m args below meth c s₁ B hml hv
  obtain ⟨rfl, hP, hK, hD⟩ := hv
  have X : kC p (headSpec (Cond.code yX10_put cX10_put 2 (some .int) :: wsL_law) (rmH 3)).room s m _ meth c cX10_put RX10 2 (some .int) 3 := ⟨B.exec, B.bytes, hml, findClass_of_methodNamed B.named, fun w h => atoms_spec (ws := Cond.code yX10_put cX10_put 2 (some .int) :: wsL_law) B.pre w (List.mem_cons_of_mem _ h), B.returns, B.notSynchronized, Nat.le_refl _, Nat.le_refl _⟩
  obtain ⟨hx, hb, hml, hown, hts, hr, hlocks, hRf, hRl⟩ := id X
  have hS : va_S A s.heap s.heap [] := va_S.rf
  have hl := lv_entry ([.ref (q 0), .int x1]) (n := 2) (Nat.le_of_ble_eq_true rfl)
  rw [lg_entry_eq]
  generalize (lg_sl ([.ref (q 0), .int x1]) ++ List.replicate (2 - (lg_sl ([.ref (q 0), .int x1])).length) Slot.unset).toArray = ls at hl ⊢
  have hl : lv_has ls 2 [(0, .ref (q 0)), (1, .int x1)] := hl
  refine lv_aload_n hx hb dX10_put_0 rfl (lv_at hl 0 rfl) ?_
  refine ro_i (va_runV (As := []) (rest := []) ⟨hx, hb, hml, hown, hts⟩ (c_X10_isNormal l hw) (kRX10_125 (h := 2) hts (Nat.le_trans (Nat.le_of_ble_eq_true rfl) hRf) (Nat.le_trans (Nat.le_of_ble_eq_true rfl) hRl)) (preM hK hP) rfl rfl hl.1 rfl (lv_room (Nat.le_of_ble_eq_true rfl)) dX10_put_1 ⟨Nat.zero_le _, Nat.zero_le _⟩) (fun r_1 hw => ?_)
  refine lv_if_ne (tgt := 11) hx hb dX10_put_4 (by decide) (fun c_2 => ?_) (fun c_2 => ?_)
  · have hw := hw.2 c_2
    refine lv_iload_n hx hb dX10_put_11 rfl (lv_at hl 1 rfl) ?_
    refine lv_iconst (v := (0 : Int32)) hx hb dX10_put_12 (by decide) ?_
    refine lv_iconst (v := (1 : Int32)) hx hb dX10_put_13 (by decide) ?_
    refine lv_aload_n hx hb dX10_put_14 rfl (lv_at hl 0 rfl) ?_
    refine gRX10_87 hx hb hown hts hK hP dX10_put_15 ?_
    refine lv_ishl hx hb dX10_put_18 ?_
    refine lv_iconst (v := (1 : Int32)) hx hb dX10_put_19 (by decide) ?_
    refine lv_isub hx hb dX10_put_20 ?_
    refine ro_i (va_runS (As := [.int x1, .int (0 : Int32), .int (((1 : Int32) <<< (i_states &&& 31)) - (1 : Int32))]) (rest := []) ⟨hx, hb, hml, hown, hts⟩ (c_X10_within l hw) (kRX10_60 (h := 0) hts (Nat.le_trans (Nat.le_of_ble_eq_true rfl) hRf) (Nat.le_trans (Nat.le_of_ble_eq_true rfl) hRl)) pre_0 rfl rfl hl.1 rfl (lv_room (Nat.le_of_ble_eq_true rfl)) dX10_put_21 ⟨Nat.zero_le _, Nat.zero_le _⟩) (fun r_3 hw => ?_)
    refine lv_if_ne (tgt := 31) hx hb dX10_put_24 (by decide) (fun c_4 => ?_) (fun c_4 => ?_)
    · have hw := hw.2 c_4
      refine lv_aload_n hx hb dX10_put_31 rfl (lv_at hl 0 rfl) ?_
      refine gRX10_99 hx hb hown hts hK hP dX10_put_32 ?_
      refine lv_iconst (v := (5 : Int32)) hx hb dX10_put_35 (by decide) ?_
      refine lv_icmp_ne (tgt := 43) hx hb dX10_put_36 (by decide) (fun c_5 => ?_) (fun c_5 => ?_)
      · have hw := hw.2 c_5
        refine lv_aload_n hx hb dX10_put_43 rfl (lv_at hl 0 rfl) ?_
        refine gRX10_16 hx hb hown hts hK hP dX10_put_44 ?_
        refine lv_aload_n hx hb dX10_put_47 rfl (lv_at hl 0 rfl) ?_
        refine gRX10_99 hx hb hown hts hK hP dX10_put_48 ?_
        refine lv_iload_n hx hb dX10_put_51 rfl (lv_at hl 1 rfl) ?_
        have h_6 := hw.1
        have hw := hw.2
        refine st_a_signalAt hx hb hK hP hD hS h_6 dX10_put_52 (fun H locs a_6 e_6 hP hD hS => ?_)
        have hw := hw a_6 e_6
        refine lv_aload_n hx hb dX10_put_53 rfl (lv_at hl 0 rfl) ?_
        refine lv_dup hx hb dX10_put_54 rfl ?_
        refine gRX10_99 hx hb hown hts hK hP dX10_put_55 ?_
        refine lv_iconst (v := (1 : Int32)) hx hb dX10_put_58 (by decide) ?_
        refine lv_iadd hx hb dX10_put_59 ?_
        refine lv_topi (fun f_7 e_7 => ?_)
        have hw := hw f_7 e_7
        refine pRX10_99 hx hb hown hts hK hP hD hS dX10_put_60 (fun H locs hP hD hS => ?_)
        refine lv_aload_n hx hb dX10_put_63 rfl (lv_at hl 0 rfl) ?_
        refine wr_v (va_runV (As := []) (rest := []) ⟨hx, hb, hml, hown, hts⟩ (c_X10_altered l hw) (kRX10_111 (h := 0) hts (Nat.le_trans (Nat.le_of_ble_eq_true rfl) hRf) (Nat.le_trans (Nat.le_of_ble_eq_true rfl) hRl)) (preMw hK hP hD) rfl rfl hl.1 rfl (lv_room (Nat.le_of_ble_eq_true rfl)) dX10_put_64 ⟨Nat.zero_le _, Nat.zero_le _⟩) hS (fun t H locs ht hw hS => ?_)
        obtain ⟨ylaid_8, hw, hP⟩ := hw
        rw [ht] at hP
        have hP : va_P D vwCl (wM q cA i_pageLength a_page i_states i_columns a_entries f_7 a_6 i_walksAt i_turned i_changed i_read i_newRows i_newEntries i_newColumns i_greatest a_newAt i_partings a_lowSet a_highSet i_leastMany a_leastAt a_tried a_keptLow a_keptHigh ylaid_8 a_wants i_wide a_wideAsked a_wideOnes i_sum i_flickers a_sumAt j_h) H := hP
        have hD : va_D A (wM q cA i_pageLength a_page i_states i_columns a_entries f_7 a_6 i_walksAt i_turned i_changed i_read i_newRows i_newEntries i_newColumns i_greatest a_newAt i_partings a_lowSet a_highSet i_leastMany a_leastAt a_tried a_keptLow a_keptHigh ylaid_8 a_wants i_wide a_wideAsked a_wideOnes i_sum i_flickers a_sumAt j_h) := dM hD
        refine lv_aload_n hx hb dX10_put_67 rfl (lv_at hl 0 rfl) ?_
        refine gRX10_99 hx hb hown hts hK hP dX10_put_68 ?_
        exact rw_i hx hb hr hlocks (fun t ht => ⟨f_7, a_6, ylaid_8, hw, by rw [ht]; exact hP⟩) hS dX10_put_71
      · have hw := hw.1 c_5
        refine lv_sipush (v := ((-1004) : Int32)) hx hb dX10_put_39 (by decide +kernel) ?_
        exact rw_i hx hb hr hlocks (fun t ht => ⟨i_signals, a_signalAt, i_laid, hw, by rw [ht]; exact hP⟩) hS dX10_put_42
    · have hw := hw.1 c_4
      refine lv_sipush (v := ((-1002) : Int32)) hx hb dX10_put_27 (by decide +kernel) ?_
      exact rw_i hx hb hr hlocks (fun t ht => ⟨i_signals, a_signalAt, i_laid, hw, by rw [ht]; exact hP⟩) hS dX10_put_30
  · have hw := hw.1 c_2
    refine lv_sipush (v := ((-1003) : Int32)) hx hb dX10_put_7 (by decide +kernel) ?_
    exact rw_i hx hb hr hlocks (fun t ht => ⟨i_signals, a_signalAt, i_laid, hw, by rw [ht]; exact hP⟩) hS dX10_put_10
