set_option maxHeartbeats 4000000 in
set_option maxRecDepth 100000 in
theorem c_X10_points (l : Launch) {D : va_G} {q : Nat → Nat} {cA : Nat → ClassId} {i_pageLength : Int32} {a_page : Nat → Int32} {i_states : Int32} {i_columns : Int32} {a_entries : Nat → Int32} {i_signals : Int32} {a_signalAt : Nat → Int32} {i_walksAt : Int32} {i_turned : Int32} {i_changed : Int32} {i_read : Int32} {i_newRows : Int32} {i_newEntries : Int32} {i_newColumns : Int32} {i_greatest : Int32} {a_newAt : Nat → Int32} {i_partings : Int32} {a_lowSet : Nat → Int32} {a_highSet : Nat → Int32} {i_leastMany : Int32} {a_leastAt : Nat → Int32} {a_tried : Nat → Int32} {a_keptLow : Nat → Int64} {a_keptHigh : Nat → Int64} {i_laid : Int32} {a_wants : Nat → Int32} {i_wide : Int32} {a_wideAsked : Nat → Int32} {a_wideOnes : Nat → Int32} {i_sum : Int32} {i_flickers : Int32} {a_sumAt : Nat → Int32} {j_h : Int64} {post : Int32 → Prop}  (hw : wp_X10_points post i_signals ) : Met l yX10_points (Cond.code yX10_points cX10_points 1 (some .int) :: wsL_law) (rmH 0) (va_Pc [.ref (q 0)] (fun U => va_P D vwCl (wM q cA i_pageLength a_page i_states i_columns a_entries i_signals a_signalAt i_walksAt i_turned i_changed i_read i_newRows i_newEntries i_newColumns i_greatest a_newAt i_partings a_lowSet a_highSet i_leastMany a_leastAt a_tried a_keptLow a_keptHigh i_laid a_wants i_wide a_wideAsked a_wideOnes i_sum i_flickers a_sumAt j_h) U.heap ∧ va_K D vwCl (tyM cA) U)) (qRi post) 0 0 (fun _ => False) := by
  refine Met.ofW (cc := cX10_points) (maxL := 1) (ret := (some .int)) (by decide) rfl ?_
  intro p e s m args below meth c s₁ B hml hv
  obtain ⟨rfl, hP, hK⟩ := hv
  have X : kC p (headSpec (Cond.code yX10_points cX10_points 1 (some .int) :: wsL_law) (rmH 0)).room s m _ meth c cX10_points RX10 1 (some .int) 0 := ⟨B.exec, B.bytes, hml, findClass_of_methodNamed B.named, fun w h => atoms_spec (ws := Cond.code yX10_points cX10_points 1 (some .int) :: wsL_law) B.pre w (List.mem_cons_of_mem _ h), B.returns, B.notSynchronized, Nat.le_refl _, Nat.le_refl _⟩
  obtain ⟨hx, hb, hml, hown, hts, hr, hlocks, hRf, hRl⟩ := id X
  have hl := lv_entry ([.ref (q 0)]) (n := 1) (Nat.le_of_ble_eq_true rfl)
  rw [lg_entry_eq]
  generalize (lg_sl ([.ref (q 0)]) ++ List.replicate (1 - (lg_sl ([.ref (q 0)])).length) Slot.unset).toArray = ls at hl ⊢
  have hl : lv_has ls 1 [(0, .ref (q 0))] := hl
  refine lv_iconst (v := (4 : Int32)) hx hb dX10_points_0 (by decide) ?_
  refine lv_aload_n hx hb dX10_points_1 rfl (lv_at hl 0 rfl) ?_
  refine gRX10_99 hx hb hown hts hK hP dX10_points_2 ?_
  refine lv_ishl hx hb dX10_points_5 ?_
  exact rt_i hx hb hr hlocks hw dX10_points_6
set_option maxHeartbeats 4000000 in
set_option maxRecDepth 100000 in
theorem t_X10_wanted_44 {p : Program} {l : Launch} {e : Env} {R : Room} {s : State} {m : MethodId} {args : Array Value} {below : List Frame} {meth : Method} {c : Code} {D : va_G} {q : Nat → Nat} {cA : Nat → ClassId} {i_pageLength : Int32} {a_page : Nat → Int32} {i_states : Int32} {i_columns : Int32} {a_entries : Nat → Int32} {i_signals : Int32} {a_signalAt : Nat → Int32} {i_walksAt : Int32} {i_turned : Int32} {i_changed : Int32} {i_read : Int32} {i_newRows : Int32} {i_newEntries : Int32} {i_newColumns : Int32} {i_greatest : Int32} {a_newAt : Nat → Int32} {i_partings : Int32} {a_lowSet : Nat → Int32} {a_highSet : Nat → Int32} {i_leastMany : Int32} {a_leastAt : Nat → Int32} {a_tried : Nat → Int32} {a_keptLow : Nat → Int64} {a_keptHigh : Nat → Int64} {i_laid : Int32} {a_wants : Nat → Int32} {i_wide : Int32} {a_wideAsked : Nat → Int32} {a_wideOnes : Nat → Int32} {i_sum : Int32} {i_flickers : Int32} {a_sumAt : Nat → Int32} {j_h : Int64} {post : Int32 → Prop} {x1 : Int32} {x2 : Int32} {v0 : Int32} (X : kC p R s m args meth c cX10_wanted RX10 4 (some .int) 4) (hK : va_K D vwCl (tyM cA) s) (hP : va_P D vwCl (wM q cA i_pageLength a_page i_states i_columns a_entries i_signals a_signalAt i_walksAt i_turned i_changed i_read i_newRows i_newEntries i_newColumns i_greatest a_newAt i_partings a_lowSet a_highSet i_leastMany a_leastAt a_tried a_keptLow a_keptHigh i_laid a_wants i_wide a_wideAsked a_wideOnes i_sum i_flickers a_sumAt j_h) s.heap) (hw : j_X10_wanted_44 post i_states i_columns a_entries i_signals a_signalAt x1 x2 v0) (ls : Array Slot) (hl : lv_has ls 4 [(0, .ref (q 0)), (1, .int x1), (2, .int x2)]) : W p l e R s m args below meth c s.heap [] 0 0 (MQ below (qRi post) args s 0 0 (fun _ => False)) (F0 m 44 ls [.int v0]) := by
  obtain ⟨hx, hb, hml, hown, hts, hr, hlocks, hRf, hRl⟩ := id X
  refine lv_istore_n (lv' := [(3, .int v0), (0, .ref (q 0)), (1, .int x1), (2, .int x2)]) hx hb dX10_wanted_44 rfl hl (by decide) rfl (fun ls hl => ?_)
  refine lv_iload_n hx hb dX10_wanted_45 rfl (lv_at hl 0 rfl) ?_
  refine lv_if_eq (tgt := 58) hx hb dX10_wanted_46 (by decide) (fun c_5 => ?_) (fun c_5 => ?_)
  · have hw := hw.1 c_5
    refine lv_sipush (v := ((-1001) : Int32)) hx hb dX10_wanted_58 (by decide +kernel) ?_
    exact rt_i hx hb hr hlocks hw dX10_wanted_61
  · have hw := hw.2 c_5
    refine lv_aload_n hx hb dX10_wanted_49 rfl (lv_at hl 1 rfl) ?_
    refine lv_iload_n hx hb dX10_wanted_50 rfl (lv_at hl 2 rfl) ?_
    refine lv_iload_n hx hb dX10_wanted_51 rfl (lv_at hl 3 rfl) ?_
    refine ro_i (va_runV (As := [.int x1, .int x2]) (rest := []) ⟨hx, hb, hml, hown, hts⟩ (c_X10_wantedAt l hw) (kRX10_214 (h := 2) hts (Nat.le_trans (Nat.le_of_ble_eq_true rfl) hRf) (Nat.le_trans (Nat.le_of_ble_eq_true rfl) hRl)) (preM hK hP) rfl rfl hl.1 rfl (lv_room (Nat.le_of_ble_eq_true rfl)) dX10_wanted_52 ⟨Nat.zero_le _, Nat.zero_le _⟩) (fun r_6 hw => ?_)
    refine lv_goto (tgt := 61) hx hb dX10_wanted_55 (by decide) ?_
    exact rt_i hx hb hr hlocks hw dX10_wanted_61
set_option maxHeartbeats 4000000 in
set_option maxRecDepth 100000 in
theorem c_X10_wanted (l : Launch) {D : va_G} {q : Nat → Nat} {cA : Nat → ClassId} {i_pageLength : Int32} {a_page : Nat → Int32} {i_states : Int32} {i_columns : Int32} {a_entries : Nat → Int32} {i_signals : Int32} {a_signalAt : Nat → Int32} {i_walksAt : Int32} {i_turned : Int32} {i_changed : Int32} {i_read : Int32} {i_newRows : Int32} {i_newEntries : Int32} {i_newColumns : Int32} {i_greatest : Int32} {a_newAt : Nat → Int32} {i_partings : Int32} {a_lowSet : Nat → Int32} {a_highSet : Nat → Int32} {i_leastMany : Int32} {a_leastAt : Nat → Int32} {a_tried : Nat → Int32} {a_keptLow : Nat → Int64} {a_keptHigh : Nat → Int64} {i_laid : Int32} {a_wants : Nat → Int32} {i_wide : Int32} {a_wideAsked : Nat → Int32} {a_wideOnes : Nat → Int32} {i_sum : Int32} {i_flickers : Int32} {a_sumAt : Nat → Int32} {j_h : Int64} {post : Int32 → Prop} {x1 : Int32} {x2 : Int32} (hw : wp_X10_wanted post i_states i_columns a_entries i_signals a_signalAt i_partings a_lowSet a_highSet x1 x2) : Met l yX10_wanted (Cond.code yX10_wanted cX10_wanted 4 (some .int) :: wsL_law) (rmH 4) (va_Pc [.ref (q 0), .int x1, .int x2] (fun U => va_P D vwCl (wM q cA i_pageLength a_page i_states i_columns a_entries i_signals a_signalAt i_walksAt i_turned i_changed i_read i_newRows i_newEntries i_newColumns i_greatest a_newAt i_partings a_lowSet a_highSet i_leastMany a_leastAt a_tried a_keptLow a_keptHigh i_laid a_wants i_wide a_wideAsked a_wideOnes i_sum i_flickers a_sumAt j_h) U.heap ∧ va_K D vwCl (tyM cA) U)) (qRi post) 0 0 (fun _ => False) := by
  refine Met.ofW (cc := cX10_wanted) (maxL := 4) (ret := (some .int)) (by decide) rfl ?_
  intro p e s m args below meth c s₁ B hml hv
  obtain ⟨rfl, hP, hK⟩ := hv
  have X : kC p (headSpec (Cond.code yX10_wanted cX10_wanted 4 (some .int) :: wsL_law) (rmH 4)).room s m _ meth c cX10_wanted RX10 4 (some .int) 4 := ⟨B.exec, B.bytes, hml, findClass_of_methodNamed B.named, fun w h => atoms_spec (ws := Cond.code yX10_wanted cX10_wanted 4 (some .int) :: wsL_law) B.pre w (List.mem_cons_of_mem _ h), B.returns, B.notSynchronized, Nat.le_refl _, Nat.le_refl _⟩
  obtain ⟨hx, hb, hml, hown, hts, hr, hlocks, hRf, hRl⟩ := id X
  have hl := lv_entry ([.ref (q 0), .int x1, .int x2]) (n := 4) (Nat.le_of_ble_eq_true rfl)
  rw [lg_entry_eq]
  generalize (lg_sl ([.ref (q 0), .int x1, .int x2]) ++ List.replicate (4 - (lg_sl ([.ref (q 0), .int x1, .int x2])).length) Slot.unset).toArray = ls at hl ⊢
  have hl : lv_has ls 4 [(0, .ref (q 0)), (1, .int x1), (2, .int x2)] := hl
  refine lv_aload_n hx hb dX10_wanted_0 rfl (lv_at hl 0 rfl) ?_
  refine ro_i (va_runV (As := []) (rest := []) ⟨hx, hb, hml, hown, hts⟩ (c_X10_isGood l hw) (kRX10_208 (h := 3) hts (Nat.le_trans (Nat.le_of_ble_eq_true rfl) hRf) (Nat.le_trans (Nat.le_of_ble_eq_true rfl) hRl)) (preM hK hP) rfl rfl hl.1 rfl (lv_room (Nat.le_of_ble_eq_true rfl)) dX10_wanted_1 ⟨Nat.zero_le _, Nat.zero_le _⟩) (fun r_1 hw => ?_)
  refine lv_if_ne (tgt := 11) hx hb dX10_wanted_4 (by decide) (fun c_2 => ?_) (fun c_2 => ?_)
  · have hw := hw.2 c_2
    refine lv_iload_n hx hb dX10_wanted_11 rfl (lv_at hl 1 rfl) ?_
    refine lv_iconst (v := (0 : Int32)) hx hb dX10_wanted_12 (by decide) ?_
    refine lv_aload_n hx hb dX10_wanted_13 rfl (lv_at hl 0 rfl) ?_
    refine gRX10_99 hx hb hown hts hK hP dX10_wanted_14 ?_
    refine lv_iconst (v := (1 : Int32)) hx hb dX10_wanted_17 (by decide) ?_
    refine lv_isub hx hb dX10_wanted_18 ?_
    refine ro_i (va_runS (As := [.int x1, .int (0 : Int32), .int (i_signals - (1 : Int32))]) (rest := []) ⟨hx, hb, hml, hown, hts⟩ (c_X10_within l hw) (kRX10_60 (h := 0) hts (Nat.le_trans (Nat.le_of_ble_eq_true rfl) hRf) (Nat.le_trans (Nat.le_of_ble_eq_true rfl) hRl)) pre_0 rfl rfl hl.1 rfl (lv_room (Nat.le_of_ble_eq_true rfl)) dX10_wanted_19 ⟨Nat.zero_le _, Nat.zero_le _⟩) (fun r_3 hw => ?_)
    refine lv_if_eq (tgt := 43) hx hb dX10_wanted_22 (by decide) (fun c_4 => ?_) (fun c_4 => ?_)
    · have hw := hw.1 c_4
      refine lv_iconst (v := (0 : Int32)) hx hb dX10_wanted_43 (by decide) ?_
      exact t_X10_wanted_44 X hK hP hw ls (lv_sub hl [0, 1, 2] rfl)
    · have hw := hw.2 c_4
      refine lv_iload_n hx hb dX10_wanted_25 rfl (lv_at hl 2 rfl) ?_
      refine lv_iconst (v := (0 : Int32)) hx hb dX10_wanted_26 (by decide) ?_
      refine lv_aload_n hx hb dX10_wanted_27 rfl (lv_at hl 0 rfl) ?_
      refine ro_i (va_runV (As := []) (rest := [.int (0 : Int32), .int x2]) ⟨hx, hb, hml, hown, hts⟩ (c_X10_points l hw) (kRX10_211 (h := 0) hts (Nat.le_trans (Nat.le_of_ble_eq_true rfl) hRf) (Nat.le_trans (Nat.le_of_ble_eq_true rfl) hRl)) (preM hK hP) rfl rfl hl.1 rfl (lv_room (Nat.le_of_ble_eq_true rfl)) dX10_wanted_28 ⟨Nat.zero_le _, Nat.zero_le _⟩) (fun r_7 hw => ?_)
      refine lv_iconst (v := (1 : Int32)) hx hb dX10_wanted_31 (by decide) ?_
      refine lv_isub hx hb dX10_wanted_32 ?_
      refine ro_i (va_runS (As := [.int x2, .int (0 : Int32), .int (r_7 - (1 : Int32))]) (rest := []) ⟨hx, hb, hml, hown, hts⟩ (c_X10_within l hw) (kRX10_60 (h := 0) hts (Nat.le_trans (Nat.le_of_ble_eq_true rfl) hRf) (Nat.le_trans (Nat.le_of_ble_eq_true rfl) hRl)) pre_0 rfl rfl hl.1 rfl (lv_room (Nat.le_of_ble_eq_true rfl)) dX10_wanted_33 ⟨Nat.zero_le _, Nat.zero_le _⟩) (fun r_8 hw => ?_)
      refine lv_if_eq (tgt := 43) hx hb dX10_wanted_36 (by decide) (fun c_9 => ?_) (fun c_9 => ?_)
      · have hw := hw.1 c_9
        refine lv_iconst (v := (0 : Int32)) hx hb dX10_wanted_43 (by decide) ?_
        exact t_X10_wanted_44 X hK hP hw ls (lv_sub hl [0, 1, 2] rfl)
      · have hw := hw.2 c_9
        refine lv_iconst (v := (1 : Int32)) hx hb dX10_wanted_39 (by decide) ?_
        refine lv_goto (tgt := 44) hx hb dX10_wanted_40 (by decide) ?_
        exact t_X10_wanted_44 X hK hP hw ls (lv_sub hl [0, 1, 2] rfl)
  · have hw := hw.1 c_2
    refine lv_sipush (v := ((-1003) : Int32)) hx hb dX10_wanted_7 (by decide +kernel) ?_
    exact rt_i hx hb hr hlocks hw dX10_wanted_10
set_option maxHeartbeats 4000000 in
set_option maxRecDepth 100000 in
theorem c_X1_indexOf (l : Launch) {D : va_G} {q : Nat → Nat} {cA : Nat → ClassId} {Fc_unkept : Int32} {Fc_tablesRead : Int32} {Pg_letters : Nat → Int32} {Pg_size : Int32} {Pg_fault : Int32} {Pg_rows : Int32} {Pg_inRow : Int32} {Pg_width : Int32} {Fl_entries : Nat → Int32} {Fl_states : Int32} {Fl_columns : Int32} {Fl_moves : Int32} {Fl_stables : Int32} {Fl_amiss : Int32} {Fl_normal : Int32} {Pt_lessers : Nat → Int32} {Pt_greaters : Nat → Int32} {Pt_size : Int32} {Lc_signals : Nat → Int32} {Lc_kept : Nat → Int64} {Lc_keptFrom : Nat → Int64} {Lc_candidates : Int32} {Lc_size : Int32} {Sc_signals : Nat → Int32} {Sc_codes : Nat → Int32} {Sc_size : Int32} {Ai_codes : Nat → Int32} {Ai_bits : Int32} {Cu_seen : Nat → Int32} {Cu_inThrees : Nat → Int32} {Cu_all : Int32} {Lo_asked : Nat → Nat → Int32} {Lo_ones : Nat → Nat → Int32} {Lo_sum : Nat → Nat → Int32} {Lo_wideSize : Nat → Int32} {Lo_sumSize : Nat → Int32} {Lo_flickers : Nat → Int32} {Lo_ready : Nat → Int32} {Wa_at : Int32} {Wa_turns : Int32} {Wa_changes : Int32} {post : Int32 → Prop} {x1 : Int32} {x2 : Int32} (hw : wp_X1_indexOf post Cu_inThrees Cu_all x1 x2) : Met l yX1_indexOf (Cond.code yX1_indexOf cX1_indexOf 3 (some .int) :: wsL_law) (rmH 0) (va_Pc [.ref (q 17), .int x1, .int x2] (fun U => va_P D vwCl (wC q cA Fc_unkept Fc_tablesRead Pg_letters Pg_size Pg_fault Pg_rows Pg_inRow Pg_width Fl_entries Fl_states Fl_columns Fl_moves Fl_stables Fl_amiss Fl_normal Pt_lessers Pt_greaters Pt_size Lc_signals Lc_kept Lc_keptFrom Lc_candidates Lc_size Sc_signals Sc_codes Sc_size Ai_codes Ai_bits Cu_seen Cu_inThrees Cu_all Lo_asked Lo_ones Lo_sum Lo_wideSize Lo_sumSize Lo_flickers Lo_ready Wa_at Wa_turns Wa_changes) U.heap ∧ va_K D vwCl (tyC cA) U ∧ nwC U)) (qRi post) 0 0 (fun _ => False) := by
  refine Met.ofW (cc := cX1_indexOf) (maxL := 3) (ret := (some .int)) (by decide) rfl ?_
  intro p e s m args below meth c s₁ B hml hv
  obtain ⟨rfl, hP, hK, hN⟩ := hv
  have X : kC p (headSpec (Cond.code yX1_indexOf cX1_indexOf 3 (some .int) :: wsL_law) (rmH 0)).room s m _ meth c cX1_indexOf RX1 3 (some .int) 0 := ⟨B.exec, B.bytes, hml, findClass_of_methodNamed B.named, fun w h => atoms_spec (ws := Cond.code yX1_indexOf cX1_indexOf 3 (some .int) :: wsL_law) B.pre w (List.mem_cons_of_mem _ h), B.returns, B.notSynchronized, Nat.le_refl _, Nat.le_refl _⟩
  obtain ⟨hx, hb, hml, hown, hts, hr, hlocks, hRf, hRl⟩ := id X
  have hl := lv_entry ([.ref (q 17), .int x1, .int x2]) (n := 3) (Nat.le_of_ble_eq_true rfl)
  rw [lg_entry_eq]
  generalize (lg_sl ([.ref (q 17), .int x1, .int x2]) ++ List.replicate (3 - (lg_sl ([.ref (q 17), .int x1, .int x2])).length) Slot.unset).toArray = ls at hl ⊢
  have hl : lv_has ls 3 [(0, .ref (q 17)), (1, .int x1), (2, .int x2)] := hl
  refine lv_aload_n hx hb dX1_indexOf_0 rfl (lv_at hl 0 rfl) ?_
  refine gRX1_15 hx hb hown hts hK hP dX1_indexOf_1 ?_
  refine lv_iload_n hx hb dX1_indexOf_4 rfl (lv_at hl 2 rfl) ?_
  refine lv_iload_n hx hb dX1_indexOf_5 rfl (lv_at hl 1 rfl) ?_
  refine lv_iand hx hb dX1_indexOf_6 ?_
  refine lv_aload_n hx hb dX1_indexOf_7 rfl (lv_at hl 0 rfl) ?_
  refine gRX1_19 hx hb hown hts hK hP dX1_indexOf_8 ?_
  refine lv_iand hx hb dX1_indexOf_11 ?_
  have h_1 := hw.1
  have hw := hw.2
  refine ld_Cu_inThrees hx hb hK hP h_1 dX1_indexOf_12 ?_
  refine lv_iconst (v := (2 : Int32)) hx hb dX1_indexOf_13 (by decide) ?_
  refine lv_aload_n hx hb dX1_indexOf_14 rfl (lv_at hl 0 rfl) ?_
  refine gRX1_15 hx hb hown hts hK hP dX1_indexOf_15 ?_
  refine lv_aload_n hx hb dX1_indexOf_18 rfl (lv_at hl 0 rfl) ?_
  refine gRX1_19 hx hb hown hts hK hP dX1_indexOf_19 ?_
  refine lv_iload_n hx hb dX1_indexOf_22 rfl (lv_at hl 1 rfl) ?_
  refine lv_iconst (v := ((-1) : Int32)) hx hb dX1_indexOf_23 (by decide) ?_
  refine lv_ixor hx hb dX1_indexOf_24 ?_
  refine lv_iand hx hb dX1_indexOf_25 ?_
  have h_2 := hw.1
  have hw := hw.2
  refine ld_Cu_inThrees hx hb hK hP h_2 dX1_indexOf_26 ?_
  refine lv_imul hx hb dX1_indexOf_27 ?_
  refine lv_iadd hx hb dX1_indexOf_28 ?_
  exact rt_i hx hb hr hlocks hw dX1_indexOf_29
set_option maxHeartbeats 4000000 in
set_option maxRecDepth 100000 in
theorem c_X1_seenAtPoint (l : Launch)  {post : Int32 → Prop} {x0 : Int32} (hw : wp_X1_seenAtPoint post  x0) : Met l yX1_seenAtPoint (Cond.code yX1_seenAtPoint cX1_seenAtPoint 1 (some .int) :: wsL_law) (rmH 0) (va_Pc [.int x0] (fun _ => True)) (qRi post) 0 0 (fun _ => False) := by
  refine Met.ofW (cc := cX1_seenAtPoint) (maxL := 1) (ret := (some .int)) (by decide) rfl ?_
  intro p e s m args below meth c s₁ B hml hv
  obtain ⟨rfl, -⟩ := hv
  have X : kC p (headSpec (Cond.code yX1_seenAtPoint cX1_seenAtPoint 1 (some .int) :: wsL_law) (rmH 0)).room s m _ meth c cX1_seenAtPoint RX1 1 (some .int) 0 := ⟨B.exec, B.bytes, hml, findClass_of_methodNamed B.named, fun w h => atoms_spec (ws := Cond.code yX1_seenAtPoint cX1_seenAtPoint 1 (some .int) :: wsL_law) B.pre w (List.mem_cons_of_mem _ h), B.returns, B.notSynchronized, Nat.le_refl _, Nat.le_refl _⟩
  obtain ⟨hx, hb, hml, hown, hts, hr, hlocks, hRf, hRl⟩ := id X
  have hl := lv_entry ([.int x0]) (n := 1) (Nat.le_of_ble_eq_true rfl)
  rw [lg_entry_eq]
  generalize (lg_sl ([.int x0]) ++ List.replicate (1 - (lg_sl ([.int x0])).length) Slot.unset).toArray = ls at hl ⊢
  have hl : lv_has ls 1 [(0, .int x0)] := hl
  refine lv_iload_n hx hb dX1_seenAtPoint_0 rfl (lv_at hl 0 rfl) ?_
  refine lv_iconst (v := ((-1) : Int32)) hx hb dX1_seenAtPoint_1 (by decide) ?_
  refine lv_icmp_ne (tgt := 7) hx hb dX1_seenAtPoint_2 (by decide) (fun c_1 => ?_) (fun c_1 => ?_)
  · have hw := hw.2 c_1
    refine lv_iload_n hx hb dX1_seenAtPoint_7 rfl (lv_at hl 0 rfl) ?_
    refine lv_iconst (v := (1 : Int32)) hx hb dX1_seenAtPoint_8 (by decide) ?_
    refine lv_icmp_ne (tgt := 16) hx hb dX1_seenAtPoint_9 (by decide) (fun c_2 => ?_) (fun c_2 => ?_)
    · have hw := hw.2 c_2
      refine lv_iconst (v := (2 : Int32)) hx hb dX1_seenAtPoint_16 (by decide) ?_
      exact rt_i hx hb hr hlocks hw dX1_seenAtPoint_17
    · have hw := hw.1 c_2
      refine lv_iconst (v := (1 : Int32)) hx hb dX1_seenAtPoint_12 (by decide) ?_
      refine lv_goto (tgt := 17) hx hb dX1_seenAtPoint_13 (by decide) ?_
      exact rt_i hx hb hr hlocks hw dX1_seenAtPoint_17
  · have hw := hw.1 c_1
    refine lv_iconst (v := (0 : Int32)) hx hb dX1_seenAtPoint_5 (by decide) ?_
    exact rt_i hx hb hr hlocks hw dX1_seenAtPoint_6
abbrev Z_X1_look (D : va_G) (q : Nat → Nat) (cA : Nat → ClassId) (Fc_unkept : Int32) (Fc_tablesRead : Int32) (Pg_letters : Nat → Int32) (Pg_size : Int32) (Pg_fault : Int32) (Pg_rows : Int32) (Pg_inRow : Int32) (Pg_width : Int32) (Fl_entries : Nat → Int32) (Fl_states : Int32) (Fl_columns : Int32) (Fl_moves : Int32) (Fl_stables : Int32) (Fl_amiss : Int32) (Fl_normal : Int32) (Pt_lessers : Nat → Int32) (Pt_greaters : Nat → Int32) (Pt_size : Int32) (Lc_signals : Nat → Int32) (Lc_kept : Nat → Int64) (Lc_keptFrom : Nat → Int64) (Lc_candidates : Int32) (Lc_size : Int32) (Sc_signals : Nat → Int32) (Sc_codes : Nat → Int32) (Sc_size : Int32) (Ai_codes : Nat → Int32) (Ai_bits : Int32) (Cu_inThrees : Nat → Int32) (Lo_asked : Nat → Nat → Int32) (Lo_ones : Nat → Nat → Int32) (Lo_sum : Nat → Nat → Int32) (Lo_wideSize : Nat → Int32) (Lo_sumSize : Nat → Int32) (Lo_flickers : Nat → Int32) (Lo_ready : Nat → Int32) (Wa_at : Int32) (Wa_turns : Int32) (Wa_changes : Int32) (post : (Nat → Int32) → Int32 → Prop) : State → Prop := fun t => ∃ (y_Cu_seen : Nat → Int32) (y_Cu_all : Int32), post y_Cu_seen y_Cu_all ∧ va_P D vwCl (wC q cA Fc_unkept Fc_tablesRead Pg_letters Pg_size Pg_fault Pg_rows Pg_inRow Pg_width Fl_entries Fl_states Fl_columns Fl_moves Fl_stables Fl_amiss Fl_normal Pt_lessers Pt_greaters Pt_size Lc_signals Lc_kept Lc_keptFrom Lc_candidates Lc_size Sc_signals Sc_codes Sc_size Ai_codes Ai_bits y_Cu_seen Cu_inThrees y_Cu_all Lo_asked Lo_ones Lo_sum Lo_wideSize Lo_sumSize Lo_flickers Lo_ready Wa_at Wa_turns Wa_changes) t.heap
set_option maxHeartbeats 4000000 in
set_option maxRecDepth 100000 in
theorem t_X1_look_105 {p : Program} {l : Launch} {e : Env} {R : Room} {s : State} {m : MethodId} {args : Array Value} {below : List Frame} {meth : Method} {c : Code} {A : Nat → Prop} {D : va_G} {q : Nat → Nat} {cA : Nat → ClassId} {Fc_unkept : Int32} {Fc_tablesRead : Int32} {Pg_letters : Nat → Int32} {Pg_size : Int32} {Pg_fault : Int32} {Pg_rows : Int32} {Pg_inRow : Int32} {Pg_width : Int32} {Fl_entries : Nat → Int32} {Fl_states : Int32} {Fl_columns : Int32} {Fl_moves : Int32} {Fl_stables : Int32} {Fl_amiss : Int32} {Fl_normal : Int32} {Pt_lessers : Nat → Int32} {Pt_greaters : Nat → Int32} {Pt_size : Int32} {Lc_signals : Nat → Int32} {Lc_kept : Nat → Int64} {Lc_keptFrom : Nat → Int64} {Lc_candidates : Int32} {Lc_size : Int32} {Sc_signals : Nat → Int32} {Sc_codes : Nat → Int32} {Sc_size : Int32} {Ai_codes : Nat → Int32} {Ai_bits : Int32} {Cu_seen : Nat → Int32} {Cu_inThrees : Nat → Int32} {Cu_all : Int32} {Lo_asked : Nat → Nat → Int32} {Lo_ones : Nat → Nat → Int32} {Lo_sum : Nat → Nat → Int32} {Lo_wideSize : Nat → Int32} {Lo_sumSize : Nat → Int32} {Lo_flickers : Nat → Int32} {Lo_ready : Nat → Int32} {Wa_at : Int32} {Wa_turns : Int32} {Wa_changes : Int32} {post : (Nat → Int32) → Int32 → Prop} {KL : Int32 → Int32 → (Nat → Int32) → Prop} {x2 : Int32} {x3 : Int32} {x5 : Int32} {x6 : Int32} {x7 : Int32} {v0 : Int32} (X : kC p R s m args meth c cX1_look RX1 9 none 1) (hK : va_K D vwCl (tyC cA) s) (hN : nwC s) (hL : ∀ (x6 : Int32) (x7 : Int32) (Cu_seen : Nat → Int32), KL x6 x7 Cu_seen → ∀ (ls : Array Slot) (H : Heap) (locs : List Loc), lv_has ls 9 [(0, .ref (q 17)), (1, .ref (q 15)), (2, .int x2), (3, .int x3), (5, .int x5), (6, .int x6), (7, .int x7)] → va_P D vwCl (wC q cA Fc_unkept Fc_tablesRead Pg_letters Pg_size Pg_fault Pg_rows Pg_inRow Pg_width Fl_entries Fl_states Fl_columns Fl_moves Fl_stables Fl_amiss Fl_normal Pt_lessers Pt_greaters Pt_size Lc_signals Lc_kept Lc_keptFrom Lc_candidates Lc_size Sc_signals Sc_codes Sc_size Ai_codes Ai_bits Cu_seen Cu_inThrees Cu_all Lo_asked Lo_ones Lo_sum Lo_wideSize Lo_sumSize Lo_flickers Lo_ready Wa_at Wa_turns Wa_changes) H → va_D A (wC q cA Fc_unkept Fc_tablesRead Pg_letters Pg_size Pg_fault Pg_rows Pg_inRow Pg_width Fl_entries Fl_states Fl_columns Fl_moves Fl_stables Fl_amiss Fl_normal Pt_lessers Pt_greaters Pt_size Lc_signals Lc_kept Lc_keptFrom Lc_candidates Lc_size Sc_signals Sc_codes Sc_size Ai_codes Ai_bits Cu_seen Cu_inThrees Cu_all Lo_asked Lo_ones Lo_sum Lo_wideSize Lo_sumSize Lo_flickers Lo_ready Wa_at Wa_turns Wa_changes) → va_S A s.heap H locs → W p l e R s m args below meth c H locs 0 0 (MQ below (qWv (Z_X1_look D q cA Fc_unkept Fc_tablesRead Pg_letters Pg_size Pg_fault Pg_rows Pg_inRow Pg_width Fl_entries Fl_states Fl_columns Fl_moves Fl_stables Fl_amiss Fl_normal Pt_lessers Pt_greaters Pt_size Lc_signals Lc_kept Lc_keptFrom Lc_candidates Lc_size Sc_signals Sc_codes Sc_size Ai_codes Ai_bits Cu_inThrees Lo_asked Lo_ones Lo_sum Lo_wideSize Lo_sumSize Lo_flickers Lo_ready Wa_at Wa_turns Wa_changes post) A) args s 0 0 A) (F0 m 48 ls [])) (hw : j_X1_look_105 KL Cu_seen Cu_inThrees Cu_all x3 x6 x7 v0) (ls : Array Slot) (H : Heap) (locs : List Loc) (hl : lv_has ls 9 [(0, .ref (q 17)), (1, .ref (q 15)), (2, .int x2), (3, .int x3), (5, .int x5), (6, .int x6), (7, .int x7)]) (hP : va_P D vwCl (wC q cA Fc_unkept Fc_tablesRead Pg_letters Pg_size Pg_fault Pg_rows Pg_inRow Pg_width Fl_entries Fl_states Fl_columns Fl_moves Fl_stables Fl_amiss Fl_normal Pt_lessers Pt_greaters Pt_size Lc_signals Lc_kept Lc_keptFrom Lc_candidates Lc_size Sc_signals Sc_codes Sc_size Ai_codes Ai_bits Cu_seen Cu_inThrees Cu_all Lo_asked Lo_ones Lo_sum Lo_wideSize Lo_sumSize Lo_flickers Lo_ready Wa_at Wa_turns Wa_changes) H) (hD : va_D A (wC q cA Fc_unkept Fc_tablesRead Pg_letters Pg_size Pg_fault Pg_rows Pg_inRow Pg_width Fl_entries Fl_states Fl_columns Fl_moves Fl_stables Fl_amiss Fl_normal Pt_lessers Pt_greaters Pt_size Lc_signals Lc_kept Lc_keptFrom Lc_candidates Lc_size Sc_signals Sc_codes Sc_size Ai_codes Ai_bits Cu_seen Cu_inThrees Cu_all Lo_asked Lo_ones Lo_sum Lo_wideSize Lo_sumSize Lo_flickers Lo_ready Wa_at Wa_turns Wa_changes)) (hS : va_S A s.heap H locs) : W p l e R s m args below meth c H locs 0 0 (MQ below (qWv (Z_X1_look D q cA Fc_unkept Fc_tablesRead Pg_letters Pg_size Pg_fault Pg_rows Pg_inRow Pg_width Fl_entries Fl_states Fl_columns Fl_moves Fl_stables Fl_amiss Fl_normal Pt_lessers Pt_greaters Pt_size Lc_signals Lc_kept Lc_keptFrom Lc_candidates Lc_size Sc_signals Sc_codes Sc_size Ai_codes Ai_bits Cu_inThrees Lo_asked Lo_ones Lo_sum Lo_wideSize Lo_sumSize Lo_flickers Lo_ready Wa_at Wa_turns Wa_changes post) A) args s 0 0 A) (F0 m 105 ls [.int v0]) := by
  obtain ⟨hx, hb, hml, hown, hts, hr, hlocks, hRf, hRl⟩ := id X
  refine lv_istore (lv' := [(8, .int v0), (0, .ref (q 17)), (1, .ref (q 15)), (2, .int x2), (3, .int x3), (5, .int x5), (6, .int x6), (7, .int x7)]) hx hb dX1_look_105 hl (by decide) rfl (fun ls hl => ?_)
  refine lv_aload_n hx hb dX1_look_107 rfl (lv_at hl 1 rfl) ?_
  refine gRX1_11 hx hb hown hts hK hP dX1_look_108 ?_
  refine lv_aload_n hx hb dX1_look_111 rfl (lv_at hl 1 rfl) ?_
  refine lv_iload_n hx hb dX1_look_112 rfl (lv_at hl 4 rfl) ?_
  refine lv_iload hx hb dX1_look_113 (lv_at hl 6 rfl) ?_
  refine ro_i (va_runV (As := [.int x3, .int x6]) (rest := [.ref (q 18)]) ⟨hx, hb, hml, hown, hts⟩ (c_X1_indexOf l hw) (kRX1_42 (h := 0) hts (Nat.le_trans (Nat.le_of_ble_eq_true rfl) hRf) (Nat.le_trans (Nat.le_of_ble_eq_true rfl) hRl)) (preX1 hK hN hP) rfl rfl hl.1 rfl (lv_room (Nat.le_of_ble_eq_true rfl)) dX1_look_115 ⟨Nat.zero_le _, Nat.zero_le _⟩) (fun r_14 hw => ?_)
  refine lv_iload hx hb dX1_look_118 (lv_at hl 0 rfl) ?_
  refine lv_i2b hx hb dX1_look_120 rfl ?_
  have h_15 := hw.1
  have hw := hw.2
  refine st_Cu_seen hx hb hK hP hD hS h_15 dX1_look_121 (fun H locs a_15 e_15 hP hD hS => ?_)
  have hw := hw a_15 e_15
  refine lv_iload hx hb dX1_look_122 (lv_at hl 6 rfl) ?_
  refine lv_iload_n hx hb dX1_look_124 rfl (lv_at hl 4 rfl) ?_
  refine lv_isub hx hb dX1_look_125 ?_
  refine lv_iload_n hx hb dX1_look_126 rfl (lv_at hl 4 rfl) ?_
  refine lv_iand hx hb dX1_look_127 ?_
  refine lv_topi (fun x6_16 e_16 => ?_)
  have hw := hw x6_16 e_16
  refine lv_istore (lv' := [(6, .int x6_16), (8, .int v0), (0, .ref (q 17)), (1, .ref (q 15)), (2, .int x2), (3, .int x3), (5, .int x5), (7, .int x7)]) hx hb dX1_look_128 hl (by decide) rfl (fun ls hl => ?_)
  obtain ⟨x7_17, e_17⟩ : ∃ z : Int32, z = x7 + ((-1) : Int32) := ⟨_, rfl⟩
  have hw := hw x7_17 e_17
  refine lv_iinc (v := x7_17) (lv' := [(7, .int x7_17), (6, .int x6_16), (8, .int v0), (0, .ref (q 17)), (1, .ref (q 15)), (2, .int x2), (3, .int x3), (5, .int x5)]) hx hb dX1_look_130 hl (k := 7) rfl (by rw [e_17]; rfl) (by decide) rfl (fun ls hl => ?_)
  refine lv_goto (tgt := 48) hx hb dX1_look_133 (by decide) ?_
  exact hL _ _ _ hw ls _ _ (lv_sub hl [3, 4, 5, 6, 7, 1, 0] rfl) hP hD hS
set_option maxHeartbeats 4000000 in
set_option maxRecDepth 100000 in
theorem t_X1_look_48 {p : Program} {l : Launch} {e : Env} {R : Room} {s : State} {m : MethodId} {args : Array Value} {below : List Frame} {meth : Method} {c : Code} {A : Nat → Prop} {D : va_G} {q : Nat → Nat} {cA : Nat → ClassId} {Fc_unkept : Int32} {Fc_tablesRead : Int32} {Pg_letters : Nat → Int32} {Pg_size : Int32} {Pg_fault : Int32} {Pg_rows : Int32} {Pg_inRow : Int32} {Pg_width : Int32} {Fl_entries : Nat → Int32} {Fl_states : Int32} {Fl_columns : Int32} {Fl_moves : Int32} {Fl_stables : Int32} {Fl_amiss : Int32} {Fl_normal : Int32} {Pt_lessers : Nat → Int32} {Pt_greaters : Nat → Int32} {Pt_size : Int32} {Lc_signals : Nat → Int32} {Lc_kept : Nat → Int64} {Lc_keptFrom : Nat → Int64} {Lc_candidates : Int32} {Lc_size : Int32} {Sc_signals : Nat → Int32} {Sc_codes : Nat → Int32} {Sc_size : Int32} {Ai_codes : Nat → Int32} {Ai_bits : Int32} {Cu_inThrees : Nat → Int32} {Cu_all : Int32} {Lo_asked : Nat → Nat → Int32} {Lo_ones : Nat → Nat → Int32} {Lo_sum : Nat → Nat → Int32} {Lo_wideSize : Nat → Int32} {Lo_sumSize : Nat → Int32} {Lo_flickers : Nat → Int32} {Lo_ready : Nat → Int32} {Wa_at : Int32} {Wa_turns : Int32} {Wa_changes : Int32} {post : (Nat → Int32) → Int32 → Prop} {KE : (Nat → Int32) → Prop} {x2 : Int32} {x3 : Int32} {x5 : Int32} (X : kC p R s m args meth c cX1_look RX1 9 none 1) (hK : va_K D vwCl (tyC cA) s) (hN : nwC s) (hE : ∀ (Cu_seen : Nat → Int32), KE Cu_seen → ∀ (ls : Array Slot) (H : Heap) (locs : List Loc), lv_has ls 9 [(0, .ref (q 17)), (1, .ref (q 15)), (2, .int x2), (3, .int x3)] → va_P D vwCl (wC q cA Fc_unkept Fc_tablesRead Pg_letters Pg_size Pg_fault Pg_rows Pg_inRow Pg_width Fl_entries Fl_states Fl_columns Fl_moves Fl_stables Fl_amiss Fl_normal Pt_lessers Pt_greaters Pt_size Lc_signals Lc_kept Lc_keptFrom Lc_candidates Lc_size Sc_signals Sc_codes Sc_size Ai_codes Ai_bits Cu_seen Cu_inThrees Cu_all Lo_asked Lo_ones Lo_sum Lo_wideSize Lo_sumSize Lo_flickers Lo_ready Wa_at Wa_turns Wa_changes) H → va_D A (wC q cA Fc_unkept Fc_tablesRead Pg_letters Pg_size Pg_fault Pg_rows Pg_inRow Pg_width Fl_entries Fl_states Fl_columns Fl_moves Fl_stables Fl_amiss Fl_normal Pt_lessers Pt_greaters Pt_size Lc_signals Lc_kept Lc_keptFrom Lc_candidates Lc_size Sc_signals Sc_codes Sc_size Ai_codes Ai_bits Cu_seen Cu_inThrees Cu_all Lo_asked Lo_ones Lo_sum Lo_wideSize Lo_sumSize Lo_flickers Lo_ready Wa_at Wa_turns Wa_changes) → va_S A s.heap H locs → W p l e R s m args below meth c H locs 0 0 (MQ below (qWv (Z_X1_look D q cA Fc_unkept Fc_tablesRead Pg_letters Pg_size Pg_fault Pg_rows Pg_inRow Pg_width Fl_entries Fl_states Fl_columns Fl_moves Fl_stables Fl_amiss Fl_normal Pt_lessers Pt_greaters Pt_size Lc_signals Lc_kept Lc_keptFrom Lc_candidates Lc_size Sc_signals Sc_codes Sc_size Ai_codes Ai_bits Cu_inThrees Lo_asked Lo_ones Lo_sum Lo_wideSize Lo_sumSize Lo_flickers Lo_ready Wa_at Wa_turns Wa_changes post) A) args s 0 0 A) (F0 m 136 ls [])) : ∀ (n : Nat) (x6 : Int32) (x7 : Int32) (Cu_seen : Nat → Int32), w_X1_look_48 KE Ai_codes Cu_inThrees Cu_all x2 x3 x5 n x6 x7 Cu_seen → ∀ (ls : Array Slot) (H : Heap) (locs : List Loc), lv_has ls 9 [(0, .ref (q 17)), (1, .ref (q 15)), (2, .int x2), (3, .int x3), (5, .int x5), (6, .int x6), (7, .int x7)] → va_P D vwCl (wC q cA Fc_unkept Fc_tablesRead Pg_letters Pg_size Pg_fault Pg_rows Pg_inRow Pg_width Fl_entries Fl_states Fl_columns Fl_moves Fl_stables Fl_amiss Fl_normal Pt_lessers Pt_greaters Pt_size Lc_signals Lc_kept Lc_keptFrom Lc_candidates Lc_size Sc_signals Sc_codes Sc_size Ai_codes Ai_bits Cu_seen Cu_inThrees Cu_all Lo_asked Lo_ones Lo_sum Lo_wideSize Lo_sumSize Lo_flickers Lo_ready Wa_at Wa_turns Wa_changes) H → va_D A (wC q cA Fc_unkept Fc_tablesRead Pg_letters Pg_size Pg_fault Pg_rows Pg_inRow Pg_width Fl_entries Fl_states Fl_columns Fl_moves Fl_stables Fl_amiss Fl_normal Pt_lessers Pt_greaters Pt_size Lc_signals Lc_kept Lc_keptFrom Lc_candidates Lc_size Sc_signals Sc_codes Sc_size Ai_codes Ai_bits Cu_seen Cu_inThrees Cu_all Lo_asked Lo_ones Lo_sum Lo_wideSize Lo_sumSize Lo_flickers Lo_ready Wa_at Wa_turns Wa_changes) → va_S A s.heap H locs → W p l e R s m args below meth c H locs 0 0 (MQ below (qWv (Z_X1_look D q cA Fc_unkept Fc_tablesRead Pg_letters Pg_size Pg_fault Pg_rows Pg_inRow Pg_width Fl_entries Fl_states Fl_columns Fl_moves Fl_stables Fl_amiss Fl_normal Pt_lessers Pt_greaters Pt_size Lc_signals Lc_kept Lc_keptFrom Lc_candidates Lc_size Sc_signals Sc_codes Sc_size Ai_codes Ai_bits Cu_inThrees Lo_asked Lo_ones Lo_sum Lo_wideSize Lo_sumSize Lo_flickers Lo_ready Wa_at Wa_turns Wa_changes post) A) args s 0 0 A) (F0 m 48 ls []) := by
  obtain ⟨hx, hb, hml, hown, hts, hr, hlocks, hRf, hRl⟩ := id X
  intro n
  induction n with
  | zero => intro x6 x7 Cu_seen hw; exact (show False from hw).elim
  | succ n ih =>
    intro x6 x7 Cu_seen hw ls H locs hl hP hD hS
    refine lv_iload hx hb dX1_look_48 (lv_at hl 6 rfl) ?_
    refine lv_if_le (tgt := 136) hx hb dX1_look_50 (by decide) (fun c_8 => ?_) (fun c_8 => ?_)
    · have hw := hw.1 c_8
      exact hE _ hw ls _ _ (lv_sub hl [0, 1, 2, 3] rfl) hP hD hS
    · have hw := hw.2 c_8
      refine lv_iload hx hb dX1_look_53 (lv_at hl 4 rfl) ?_
      refine lv_if_ne (tgt := 71) hx hb dX1_look_55 (by decide) (fun c_9 => ?_) (fun c_9 => ?_)
      · have hw := hw.2 c_9
        refine lv_aload_n hx hb dX1_look_71 rfl (lv_at hl 0 rfl) ?_
        refine gRX1_11 hx hb hown hts hK hP dX1_look_72 ?_
        refine lv_aload_n hx hb dX1_look_75 rfl (lv_at hl 0 rfl) ?_
        refine lv_iload_n hx hb dX1_look_76 rfl (lv_at hl 3 rfl) ?_
        refine lv_iload hx hb dX1_look_77 (lv_at hl 4 rfl) ?_
        refine lv_ior hx hb dX1_look_79 ?_
        refine lv_iload hx hb dX1_look_80 (lv_at hl 5 rfl) ?_
        refine ro_i (va_runV (As := [.int (x3 ||| x5), .int x6]) (rest := [.ref (q 18)]) ⟨hx, hb, hml, hown, hts⟩ (c_X1_indexOf l hw) (kRX1_42 (h := 0) hts (Nat.le_trans (Nat.le_of_ble_eq_true rfl) hRf) (Nat.le_trans (Nat.le_of_ble_eq_true rfl) hRl)) (preX1 hK hN hP) rfl rfl hl.1 rfl (lv_room (Nat.le_of_ble_eq_true rfl)) dX1_look_82 ⟨Nat.zero_le _, Nat.zero_le _⟩) (fun r_10 hw => ?_)
        have h_11 := hw.1
        have hw := hw.2
        refine ld_Cu_seen hx hb hK hP h_11 dX1_look_85 ?_
        refine lv_aload_n hx hb dX1_look_86 rfl (lv_at hl 0 rfl) ?_
        refine gRX1_11 hx hb hown hts hK hP dX1_look_87 ?_
        refine lv_aload_n hx hb dX1_look_90 rfl (lv_at hl 0 rfl) ?_
        refine lv_iload_n hx hb dX1_look_91 rfl (lv_at hl 3 rfl) ?_
        refine lv_iload hx hb dX1_look_92 (lv_at hl 4 rfl) ?_
        refine lv_ior hx hb dX1_look_94 ?_
        refine lv_iload hx hb dX1_look_95 (lv_at hl 5 rfl) ?_
        refine lv_iload hx hb dX1_look_97 (lv_at hl 4 rfl) ?_
        refine lv_ior hx hb dX1_look_99 ?_
        refine ro_i (va_runV (As := [.int (x3 ||| x5), .int (x6 ||| x5)]) (rest := [.ref (q 18), .int (Cu_seen r_10.toNatClampNeg)]) ⟨hx, hb, hml, hown, hts⟩ (c_X1_indexOf l hw) (kRX1_42 (h := 0) hts (Nat.le_trans (Nat.le_of_ble_eq_true rfl) hRf) (Nat.le_trans (Nat.le_of_ble_eq_true rfl) hRl)) (preX1 hK hN hP) rfl rfl hl.1 rfl (lv_room (Nat.le_of_ble_eq_true rfl)) dX1_look_100 ⟨Nat.zero_le _, Nat.zero_le _⟩) (fun r_12 hw => ?_)
        have h_13 := hw.1
        have hw := hw.2
        refine ld_Cu_seen hx hb hK hP h_13 dX1_look_103 ?_
        refine lv_ior hx hb dX1_look_104 ?_
        exact t_X1_look_105 X hK hN ih hw ls _ _ (lv_sub hl [0, 1, 2, 3, 4, 5, 6] rfl) hP hD hS
      · have hw := hw.1 c_9
        refine lv_aload_n hx hb dX1_look_58 rfl (lv_at hl 1 rfl) ?_
        refine lv_iload_n hx hb dX1_look_59 rfl (lv_at hl 2 rfl) ?_
        refine lv_iload hx hb dX1_look_60 (lv_at hl 5 rfl) ?_
        refine ro_i (va_runV (As := [.int x2, .int x6]) (rest := []) ⟨hx, hb, hml, hown, hts⟩ (c_X0_at l hw) (kRX1_35 (h := 0) hts (Nat.le_trans (Nat.le_of_ble_eq_true rfl) hRf) (Nat.le_trans (Nat.le_of_ble_eq_true rfl) hRl)) (preX0 hK hN hP) rfl rfl hl.1 rfl (lv_room (Nat.le_of_ble_eq_true rfl)) dX1_look_62 ⟨Nat.zero_le _, Nat.zero_le _⟩) (fun r_18 hw => ?_)
        refine ro_i (va_runS (As := [.int r_18]) (rest := []) ⟨hx, hb, hml, hown, hts⟩ (c_X1_seenAtPoint l hw) (kRX1_39 (h := 0) hts (Nat.le_trans (Nat.le_of_ble_eq_true rfl) hRf) (Nat.le_trans (Nat.le_of_ble_eq_true rfl) hRl)) pre_0 rfl rfl hl.1 rfl (lv_room (Nat.le_of_ble_eq_true rfl)) dX1_look_65 ⟨Nat.zero_le _, Nat.zero_le _⟩) (fun r_19 hw => ?_)
        refine lv_goto (tgt := 105) hx hb dX1_look_68 (by decide) ?_
        exact t_X1_look_105 X hK hN ih hw ls _ _ (lv_sub hl [0, 1, 2, 3, 4, 5, 6] rfl) hP hD hS
set_option maxHeartbeats 4000000 in
set_option maxRecDepth 100000 in
theorem t_X1_look_15 {p : Program} {l : Launch} {e : Env} {R : Room} {s : State} {m : MethodId} {args : Array Value} {below : List Frame} {meth : Method} {c : Code} {A : Nat → Prop} {D : va_G} {q : Nat → Nat} {cA : Nat → ClassId} {Fc_unkept : Int32} {Fc_tablesRead : Int32} {Pg_letters : Nat → Int32} {Pg_size : Int32} {Pg_fault : Int32} {Pg_rows : Int32} {Pg_inRow : Int32} {Pg_width : Int32} {Fl_entries : Nat → Int32} {Fl_states : Int32} {Fl_columns : Int32} {Fl_moves : Int32} {Fl_stables : Int32} {Fl_amiss : Int32} {Fl_normal : Int32} {Pt_lessers : Nat → Int32} {Pt_greaters : Nat → Int32} {Pt_size : Int32} {Lc_signals : Nat → Int32} {Lc_kept : Nat → Int64} {Lc_keptFrom : Nat → Int64} {Lc_candidates : Int32} {Lc_size : Int32} {Sc_signals : Nat → Int32} {Sc_codes : Nat → Int32} {Sc_size : Int32} {Ai_codes : Nat → Int32} {Ai_bits : Int32} {Cu_inThrees : Nat → Int32} {Cu_all : Int32} {Lo_asked : Nat → Nat → Int32} {Lo_ones : Nat → Nat → Int32} {Lo_sum : Nat → Nat → Int32} {Lo_wideSize : Nat → Int32} {Lo_sumSize : Nat → Int32} {Lo_flickers : Nat → Int32} {Lo_ready : Nat → Int32} {Wa_at : Int32} {Wa_turns : Int32} {Wa_changes : Int32} {post : (Nat → Int32) → Int32 → Prop} {KE : (Nat → Int32) → Prop} {x2 : Int32} (X : kC p R s m args meth c cX1_look RX1 9 none 1) (hK : va_K D vwCl (tyC cA) s) (hN : nwC s) (hE : ∀ (Cu_seen : Nat → Int32), KE Cu_seen → ∀ (ls : Array Slot) (H : Heap) (locs : List Loc), lv_has ls 9 [] → va_P D vwCl (wC q cA Fc_unkept Fc_tablesRead Pg_letters Pg_size Pg_fault Pg_rows Pg_inRow Pg_width Fl_entries Fl_states Fl_columns Fl_moves Fl_stables Fl_amiss Fl_normal Pt_lessers Pt_greaters Pt_size Lc_signals Lc_kept Lc_keptFrom Lc_candidates Lc_size Sc_signals Sc_codes Sc_size Ai_codes Ai_bits Cu_seen Cu_inThrees Cu_all Lo_asked Lo_ones Lo_sum Lo_wideSize Lo_sumSize Lo_flickers Lo_ready Wa_at Wa_turns Wa_changes) H → va_D A (wC q cA Fc_unkept Fc_tablesRead Pg_letters Pg_size Pg_fault Pg_rows Pg_inRow Pg_width Fl_entries Fl_states Fl_columns Fl_moves Fl_stables Fl_amiss Fl_normal Pt_lessers Pt_greaters Pt_size Lc_signals Lc_kept Lc_keptFrom Lc_candidates Lc_size Sc_signals Sc_codes Sc_size Ai_codes Ai_bits Cu_seen Cu_inThrees Cu_all Lo_asked Lo_ones Lo_sum Lo_wideSize Lo_sumSize Lo_flickers Lo_ready Wa_at Wa_turns Wa_changes) → va_S A s.heap H locs → W p l e R s m args below meth c H locs 0 0 (MQ below (qWv (Z_X1_look D q cA Fc_unkept Fc_tablesRead Pg_letters Pg_size Pg_fault Pg_rows Pg_inRow Pg_width Fl_entries Fl_states Fl_columns Fl_moves Fl_stables Fl_amiss Fl_normal Pt_lessers Pt_greaters Pt_size Lc_signals Lc_kept Lc_keptFrom Lc_candidates Lc_size Sc_signals Sc_codes Sc_size Ai_codes Ai_bits Cu_inThrees Lo_asked Lo_ones Lo_sum Lo_wideSize Lo_sumSize Lo_flickers Lo_ready Wa_at Wa_turns Wa_changes post) A) args s 0 0 A) (F0 m 142 ls [])) : ∀ (n : Nat) (x3 : Int32) (Cu_seen : Nat → Int32), w_X1_look_15 KE Ai_codes Cu_inThrees Cu_all x2 n x3 Cu_seen → ∀ (ls : Array Slot) (H : Heap) (locs : List Loc), lv_has ls 9 [(0, .ref (q 17)), (1, .ref (q 15)), (2, .int x2), (3, .int x3)] → va_P D vwCl (wC q cA Fc_unkept Fc_tablesRead Pg_letters Pg_size Pg_fault Pg_rows Pg_inRow Pg_width Fl_entries Fl_states Fl_columns Fl_moves Fl_stables Fl_amiss Fl_normal Pt_lessers Pt_greaters Pt_size Lc_signals Lc_kept Lc_keptFrom Lc_candidates Lc_size Sc_signals Sc_codes Sc_size Ai_codes Ai_bits Cu_seen Cu_inThrees Cu_all Lo_asked Lo_ones Lo_sum Lo_wideSize Lo_sumSize Lo_flickers Lo_ready Wa_at Wa_turns Wa_changes) H → va_D A (wC q cA Fc_unkept Fc_tablesRead Pg_letters Pg_size Pg_fault Pg_rows Pg_inRow Pg_width Fl_entries Fl_states Fl_columns Fl_moves Fl_stables Fl_amiss Fl_normal Pt_lessers Pt_greaters Pt_size Lc_signals Lc_kept Lc_keptFrom Lc_candidates Lc_size Sc_signals Sc_codes Sc_size Ai_codes Ai_bits Cu_seen Cu_inThrees Cu_all Lo_asked Lo_ones Lo_sum Lo_wideSize Lo_sumSize Lo_flickers Lo_ready Wa_at Wa_turns Wa_changes) → va_S A s.heap H locs → W p l e R s m args below meth c H locs 0 0 (MQ below (qWv (Z_X1_look D q cA Fc_unkept Fc_tablesRead Pg_letters Pg_size Pg_fault Pg_rows Pg_inRow Pg_width Fl_entries Fl_states Fl_columns Fl_moves Fl_stables Fl_amiss Fl_normal Pt_lessers Pt_greaters Pt_size Lc_signals Lc_kept Lc_keptFrom Lc_candidates Lc_size Sc_signals Sc_codes Sc_size Ai_codes Ai_bits Cu_inThrees Lo_asked Lo_ones Lo_sum Lo_wideSize Lo_sumSize Lo_flickers Lo_ready Wa_at Wa_turns Wa_changes post) A) args s 0 0 A) (F0 m 15 ls []) := by
  obtain ⟨hx, hb, hml, hown, hts, hr, hlocks, hRf, hRl⟩ := id X
  intro n
  induction n with
  | zero => intro x3 Cu_seen hw; exact (show False from hw).elim
  | succ n ih =>
    intro x3 Cu_seen hw ls H locs hl hP hD hS
    refine lv_iload_n hx hb dX1_look_15 rfl (lv_at hl 3 rfl) ?_
    refine lv_if_lt (tgt := 142) hx hb dX1_look_16 (by decide) (fun c_3 => ?_) (fun c_3 => ?_)
    · have hw := hw.1 c_3
      exact hE _ hw ls _ _ (lv_sub hl [] rfl) hP hD hS
    · have hw := hw.2 c_3
      refine lv_aload_n hx hb dX1_look_19 rfl (lv_at hl 0 rfl) ?_
      refine gRX1_19 hx hb hown hts hK hP dX1_look_20 ?_
      refine lv_iload_n hx hb dX1_look_23 rfl (lv_at hl 3 rfl) ?_
      refine lv_iconst (v := ((-1) : Int32)) hx hb dX1_look_24 (by decide) ?_
      refine lv_ixor hx hb dX1_look_25 ?_
      refine lv_iand hx hb dX1_look_26 ?_
      refine lv_topi (fun x4_4 e_4 => ?_)
      have hw := hw x4_4 e_4
      refine lv_istore (lv' := [(4, .int x4_4), (0, .ref (q 17)), (1, .ref (q 15)), (2, .int x2), (3, .int x3)]) hx hb dX1_look_27 hl (by decide) rfl (fun ls hl => ?_)
      refine lv_iload hx hb dX1_look_29 (lv_at hl 0 rfl) ?_
      refine lv_iload hx hb dX1_look_31 (lv_at hl 0 rfl) ?_
      refine lv_ineg hx hb dX1_look_33 ?_
      refine lv_iand hx hb dX1_look_34 ?_
      refine lv_topi (fun x5_5 e_5 => ?_)
      have hw := hw x5_5 e_5
      refine lv_istore (lv' := [(5, .int x5_5), (4, .int x4_4), (0, .ref (q 17)), (1, .ref (q 15)), (2, .int x2), (3, .int x3)]) hx hb dX1_look_35 hl (by decide) rfl (fun ls hl => ?_)
      refine lv_iconst (v := (0 : Int32)) hx hb dX1_look_37 (by decide) ?_
      refine lv_istore (lv' := [(6, .int (0 : Int32)), (5, .int x5_5), (4, .int x4_4), (0, .ref (q 17)), (1, .ref (q 15)), (2, .int x2), (3, .int x3)]) hx hb dX1_look_38 hl (by decide) rfl (fun ls hl => ?_)
      refine lv_iconst (v := (1 : Int32)) hx hb dX1_look_40 (by decide) ?_
      refine lv_iload_n hx hb dX1_look_41 rfl (lv_at hl 6 rfl) ?_
      refine ro_i (va_runS (As := [.int x3]) (rest := [.int (1 : Int32)]) ⟨hx, hb, hml, hown, hts⟩ (c_J6_bitCount l hw) (kRX1_29 (h := 0) hts (Nat.le_trans (Nat.le_of_ble_eq_true rfl) hRf) (Nat.le_trans (Nat.le_of_ble_eq_true rfl) hRl)) pre_0 rfl rfl hl.1 rfl (lv_room (Nat.le_of_ble_eq_true rfl)) dX1_look_42 ⟨Nat.zero_le _, Nat.zero_le _⟩) (fun r_6 hw => ?_)
      refine lv_ishl hx hb dX1_look_45 ?_
      refine lv_topi (fun x7_7 e_7 => ?_)
      have hw := hw x7_7 e_7
      refine lv_istore (lv' := [(7, .int x7_7), (6, .int (0 : Int32)), (5, .int x5_5), (4, .int x4_4), (0, .ref (q 17)), (1, .ref (q 15)), (2, .int x2), (3, .int x3)]) hx hb dX1_look_46 hl (by decide) rfl (fun ls hl => ?_)
      obtain ⟨n_20, hw⟩ := hw
      refine t_X1_look_48 X hK hN (fun yseen_20 hw ls H locs hl hP hD hS => ?_) n_20 _ _ _ hw ls _ _ (lv_sub hl [4, 5, 6, 7, 2, 1, 0] rfl) hP hD hS
      obtain ⟨x3_21, e_21⟩ : ∃ z : Int32, z = x3 + ((-1) : Int32) := ⟨_, rfl⟩
      have hw := hw x3_21 e_21
      refine lv_iinc (v := x3_21) (lv' := [(3, .int x3_21), (0, .ref (q 17)), (1, .ref (q 15)), (2, .int x2)]) hx hb dX1_look_136 hl (k := 3) rfl (by rw [e_21]; rfl) (by decide) rfl (fun ls hl => ?_)
      refine lv_goto (tgt := 15) hx hb dX1_look_139 (by decide) ?_
      exact ih _ _ hw ls _ _ (lv_sub hl [1, 2, 3, 0] rfl) hP hD hS
set_option maxHeartbeats 4000000 in
set_option maxRecDepth 100000 in
theorem c_X1_look (l : Launch) {D : va_G} {q : Nat → Nat} {cA : Nat → ClassId} {Fc_unkept : Int32} {Fc_tablesRead : Int32} {Pg_letters : Nat → Int32} {Pg_size : Int32} {Pg_fault : Int32} {Pg_rows : Int32} {Pg_inRow : Int32} {Pg_width : Int32} {Fl_entries : Nat → Int32} {Fl_states : Int32} {Fl_columns : Int32} {Fl_moves : Int32} {Fl_stables : Int32} {Fl_amiss : Int32} {Fl_normal : Int32} {Pt_lessers : Nat → Int32} {Pt_greaters : Nat → Int32} {Pt_size : Int32} {Lc_signals : Nat → Int32} {Lc_kept : Nat → Int64} {Lc_keptFrom : Nat → Int64} {Lc_candidates : Int32} {Lc_size : Int32} {Sc_signals : Nat → Int32} {Sc_codes : Nat → Int32} {Sc_size : Int32} {Ai_codes : Nat → Int32} {Ai_bits : Int32} {Cu_seen : Nat → Int32} {Cu_inThrees : Nat → Int32} {Cu_all : Int32} {Lo_asked : Nat → Nat → Int32} {Lo_ones : Nat → Nat → Int32} {Lo_sum : Nat → Nat → Int32} {Lo_wideSize : Nat → Int32} {Lo_sumSize : Nat → Int32} {Lo_flickers : Nat → Int32} {Lo_ready : Nat → Int32} {Wa_at : Int32} {Wa_turns : Int32} {Wa_changes : Int32} {A : Nat → Prop} {post : (Nat → Int32) → Int32 → Prop} {x2 : Int32} (hw : wp_X1_look post Ai_codes Ai_bits Cu_seen Cu_inThrees Cu_all x2) : Met l yX1_look (Cond.code yX1_look cX1_look 9 none :: wsL_law) (rmH 1) (va_Pc [.ref (q 17), .ref (q 15), .int x2] (fun U => va_P D vwCl (wC q cA Fc_unkept Fc_tablesRead Pg_letters Pg_size Pg_fault Pg_rows Pg_inRow Pg_width Fl_entries Fl_states Fl_columns Fl_moves Fl_stables Fl_amiss Fl_normal Pt_lessers Pt_greaters Pt_size Lc_signals Lc_kept Lc_keptFrom Lc_candidates Lc_size Sc_signals Sc_codes Sc_size Ai_codes Ai_bits Cu_seen Cu_inThrees Cu_all Lo_asked Lo_ones Lo_sum Lo_wideSize Lo_sumSize Lo_flickers Lo_ready Wa_at Wa_turns Wa_changes) U.heap ∧ va_K D vwCl (tyC cA) U ∧ nwC U ∧ va_D A (wC q cA Fc_unkept Fc_tablesRead Pg_letters Pg_size Pg_fault Pg_rows Pg_inRow Pg_width Fl_entries Fl_states Fl_columns Fl_moves Fl_stables Fl_amiss Fl_normal Pt_lessers Pt_greaters Pt_size Lc_signals Lc_kept Lc_keptFrom Lc_candidates Lc_size Sc_signals Sc_codes Sc_size Ai_codes Ai_bits Cu_seen Cu_inThrees Cu_all Lo_asked Lo_ones Lo_sum Lo_wideSize Lo_sumSize Lo_flickers Lo_ready Wa_at Wa_turns Wa_changes))) (qWv (Z_X1_look D q cA Fc_unkept Fc_tablesRead Pg_letters Pg_size Pg_fault Pg_rows Pg_inRow Pg_width Fl_entries Fl_states Fl_columns Fl_moves Fl_stables Fl_amiss Fl_normal Pt_lessers Pt_greaters Pt_size Lc_signals Lc_kept Lc_keptFrom Lc_candidates Lc_size Sc_signals Sc_codes Sc_size Ai_codes Ai_bits Cu_inThrees Lo_asked Lo_ones Lo_sum Lo_wideSize Lo_sumSize Lo_flickers Lo_ready Wa_at Wa_turns Wa_changes post) A) 0 0 A := by
  refine Met.ofW (cc := cX1_look) (maxL := 9) (ret := none) (by decide) rfl ?_
  intro p e s m args below meth c s₁ B hml hv
  obtain ⟨rfl, hP, hK, hN, hD⟩ := hv
  have X : kC p (headSpec (Cond.code yX1_look cX1_look 9 none :: wsL_law) (rmH 1)).room s m _ meth c cX1_look RX1 9 none 1 := ⟨B.exec, B.bytes, hml, findClass_of_methodNamed B.named, fun w h => atoms_spec (ws := Cond.code yX1_look cX1_look 9 none :: wsL_law) B.pre w (List.mem_cons_of_mem _ h), B.returns, B.notSynchronized, Nat.le_refl _, Nat.le_refl _⟩
  obtain ⟨hx, hb, hml, hown, hts, hr, hlocks, hRf, hRl⟩ := id X
  have hS : va_S A s.heap s.heap [] := va_S.rf
  have hl := lv_entry ([.ref (q 17), .ref (q 15), .int x2]) (n := 9) (Nat.le_of_ble_eq_true rfl)
  rw [lg_entry_eq]
  generalize (lg_sl ([.ref (q 17), .ref (q 15), .int x2]) ++ List.replicate (9 - (lg_sl ([.ref (q 17), .ref (q 15), .int x2])).length) Slot.unset).toArray = ls at hl ⊢
  have hl : lv_has ls 9 [(0, .ref (q 17)), (1, .ref (q 15)), (2, .int x2)] := hl
  refine lv_aload_n hx hb dX1_look_0 rfl (lv_at hl 0 rfl) ?_
  refine lv_aload_n hx hb dX1_look_1 rfl (lv_at hl 1 rfl) ?_
  refine ro_i (va_runV (As := []) (rest := [.ref (q 17)]) ⟨hx, hb, hml, hown, hts⟩ (c_X0_points l hw) (kRX1_23 (h := 0) hts (Nat.le_trans (Nat.le_of_ble_eq_true rfl) hRf) (Nat.le_trans (Nat.le_of_ble_eq_true rfl) hRl)) (preX0 hK hN hP) rfl rfl hl.1 rfl (lv_room (Nat.le_of_ble_eq_true rfl)) dX1_look_2 ⟨Nat.zero_le _, Nat.zero_le _⟩) (fun r_1 hw => ?_)
  refine lv_iconst (v := (1 : Int32)) hx hb dX1_look_5 (by decide) ?_
  refine lv_isub hx hb dX1_look_6 ?_
  refine lv_topi (fun f_2 e_2 => ?_)
  have hw := hw f_2 e_2
  refine pRX1_19 hx hb hown hts hK hP hD hS dX1_look_7 (fun H locs hP hD hS => ?_)
  refine lv_aload_n hx hb dX1_look_10 rfl (lv_at hl 0 rfl) ?_
  refine gRX1_19 hx hb hown hts hK hP dX1_look_11 ?_
  refine lv_istore_n (lv' := [(3, .int f_2), (0, .ref (q 17)), (1, .ref (q 15)), (2, .int x2)]) hx hb dX1_look_14 rfl hl (by decide) rfl (fun ls hl => ?_)
  obtain ⟨n_22, hw⟩ := hw
  refine t_X1_look_15 X hK hN (fun yseen_22 hw ls H locs hl hP hD hS => ?_) n_22 _ _ hw ls _ _ (lv_sub hl [1, 2, 3, 0] rfl) hP hD hS
  exact rw_v hx hb hr hlocks (fun t ht => ⟨yseen_22, f_2, hw, by rw [ht]; exact hP⟩) hS dX1_look_142
set_option maxHeartbeats 4000000 in
set_option maxRecDepth 100000 in
theorem t_X1_isWide_19 {p : Program} {l : Launch} {e : Env} {R : Room} {s : State} {m : MethodId} {args : Array Value} {below : List Frame} {meth : Method} {c : Code} {D : va_G} {q : Nat → Nat} {cA : Nat → ClassId} {Fc_unkept : Int32} {Fc_tablesRead : Int32} {Pg_letters : Nat → Int32} {Pg_size : Int32} {Pg_fault : Int32} {Pg_rows : Int32} {Pg_inRow : Int32} {Pg_width : Int32} {Fl_entries : Nat → Int32} {Fl_states : Int32} {Fl_columns : Int32} {Fl_moves : Int32} {Fl_stables : Int32} {Fl_amiss : Int32} {Fl_normal : Int32} {Pt_lessers : Nat → Int32} {Pt_greaters : Nat → Int32} {Pt_size : Int32} {Lc_signals : Nat → Int32} {Lc_kept : Nat → Int64} {Lc_keptFrom : Nat → Int64} {Lc_candidates : Int32} {Lc_size : Int32} {Sc_signals : Nat → Int32} {Sc_codes : Nat → Int32} {Sc_size : Int32} {Ai_codes : Nat → Int32} {Ai_bits : Int32} {Cu_seen : Nat → Int32} {Cu_inThrees : Nat → Int32} {Cu_all : Int32} {Lo_asked : Nat → Nat → Int32} {Lo_ones : Nat → Nat → Int32} {Lo_sum : Nat → Nat → Int32} {Lo_wideSize : Nat → Int32} {Lo_sumSize : Nat → Int32} {Lo_flickers : Nat → Int32} {Lo_ready : Nat → Int32} {Wa_at : Int32} {Wa_turns : Int32} {Wa_changes : Int32} {post : Int32 → Prop} {KE : Prop} {x1 : Int32} {x2 : Int32} (X : kC p R s m args meth c cX1_isWide RX1 5 (some .boolean) 1) (hK : va_K D vwCl (tyC cA) s) (hN : nwC s) (hP : va_P D vwCl (wC q cA Fc_unkept Fc_tablesRead Pg_letters Pg_size Pg_fault Pg_rows Pg_inRow Pg_width Fl_entries Fl_states Fl_columns Fl_moves Fl_stables Fl_amiss Fl_normal Pt_lessers Pt_greaters Pt_size Lc_signals Lc_kept Lc_keptFrom Lc_candidates Lc_size Sc_signals Sc_codes Sc_size Ai_codes Ai_bits Cu_seen Cu_inThrees Cu_all Lo_asked Lo_ones Lo_sum Lo_wideSize Lo_sumSize Lo_flickers Lo_ready Wa_at Wa_turns Wa_changes) s.heap) (hE : KE  → ∀ (ls : Array Slot), lv_has ls 5 [] → W p l e R s m args below meth c s.heap [] 0 0 (MQ below (qRi post) args s 0 0 (fun _ => False)) (F0 m 70 ls [])) : ∀ (n : Nat) (x3 : Int32), w_X1_isWide_19 post KE Cu_seen Cu_inThrees Cu_all x1 x2 n x3 → ∀ (ls : Array Slot), lv_has ls 5 [(0, .ref (q 17)), (1, .int x1), (2, .int x2), (3, .int x3)] → W p l e R s m args below meth c s.heap [] 0 0 (MQ below (qRi post) args s 0 0 (fun _ => False)) (F0 m 19 ls []) := by
  obtain ⟨hx, hb, hml, hown, hts, hr, hlocks, hRf, hRl⟩ := id X
  intro n
  induction n with
  | zero => intro x3 hw; exact (show False from hw).elim
  | succ n ih =>
    intro x3 hw ls hl
    refine lv_iload_n hx hb dX1_isWide_19 rfl (lv_at hl 3 rfl) ?_
    refine lv_bipush (v := (7 : Int32)) hx hb dX1_isWide_20 (by decide +kernel) ?_
    refine lv_icmp_ge (tgt := 70) hx hb dX1_isWide_22 (by decide) (fun c_4 => ?_) (fun c_4 => ?_)
    · have hw := hw.1 c_4
      exact hE hw ls (lv_sub hl [] rfl)
    · have hw := hw.2 c_4
      refine lv_iconst (v := (1 : Int32)) hx hb dX1_isWide_25 (by decide) ?_
      refine lv_iload_n hx hb dX1_isWide_26 rfl (lv_at hl 3 rfl) ?_
      refine lv_ishl hx hb dX1_isWide_27 ?_
      refine lv_topi (fun x4_5 e_5 => ?_)
      have hw := hw x4_5 e_5
      refine lv_istore (lv' := [(4, .int x4_5), (0, .ref (q 17)), (1, .int x1), (2, .int x2), (3, .int x3)]) hx hb dX1_isWide_28 hl (by decide) rfl (fun ls hl => ?_)
      refine lv_iload_n hx hb dX1_isWide_30 rfl (lv_at hl 2 rfl) ?_
      refine lv_iload hx hb dX1_isWide_31 (lv_at hl 0 rfl) ?_
      refine lv_iand hx hb dX1_isWide_33 ?_
      refine lv_if_eq (tgt := 64) hx hb dX1_isWide_34 (by decide) (fun c_6 => ?_) (fun c_6 => ?_)
      · have hw := hw.1 c_6
        obtain ⟨x3_7, e_7⟩ : ∃ z : Int32, z = x3 + (1 : Int32) := ⟨_, rfl⟩
        have hw := hw x3_7 e_7
        refine lv_iinc (v := x3_7) (lv' := [(3, .int x3_7), (4, .int x4_5), (0, .ref (q 17)), (1, .int x1), (2, .int x2)]) hx hb dX1_isWide_64 hl (k := 4) rfl (by rw [e_7]; rfl) (by decide) rfl (fun ls hl => ?_)
        refine lv_goto (tgt := 19) hx hb dX1_isWide_67 (by decide) ?_
        exact ih _ hw ls (lv_sub hl [2, 3, 4, 0] rfl)
      · have hw := hw.2 c_6
        refine lv_aload_n hx hb dX1_isWide_37 rfl (lv_at hl 1 rfl) ?_
        refine gRX1_11 hx hb hown hts hK hP dX1_isWide_38 ?_
        refine lv_aload_n hx hb dX1_isWide_41 rfl (lv_at hl 1 rfl) ?_
        refine lv_iload_n hx hb dX1_isWide_42 rfl (lv_at hl 2 rfl) ?_
        refine lv_iload hx hb dX1_isWide_43 (lv_at hl 0 rfl) ?_
        refine lv_iconst (v := ((-1) : Int32)) hx hb dX1_isWide_45 (by decide) ?_
        refine lv_ixor hx hb dX1_isWide_46 ?_
        refine lv_iand hx hb dX1_isWide_47 ?_
        refine lv_iload_n hx hb dX1_isWide_48 rfl (lv_at hl 3 rfl) ?_
        refine lv_iload hx hb dX1_isWide_49 (lv_at hl 0 rfl) ?_
        refine lv_iconst (v := ((-1) : Int32)) hx hb dX1_isWide_51 (by decide) ?_
        refine lv_ixor hx hb dX1_isWide_52 ?_
        refine lv_iand hx hb dX1_isWide_53 ?_
        refine ro_i (va_runV (As := [.int (x1 &&& (x4_5 ^^^ ((-1) : Int32))), .int (x2 &&& (x4_5 ^^^ ((-1) : Int32)))]) (rest := [.ref (q 18)]) ⟨hx, hb, hml, hown, hts⟩ (c_X1_indexOf l hw) (kRX1_42 (h := 0) hts (Nat.le_trans (Nat.le_of_ble_eq_true rfl) hRf) (Nat.le_trans (Nat.le_of_ble_eq_true rfl) hRl)) (preX1 hK hN hP) rfl rfl hl.1 rfl (lv_room (Nat.le_of_ble_eq_true rfl)) dX1_isWide_54 ⟨Nat.zero_le _, Nat.zero_le _⟩) (fun r_8 hw => ?_)
        have h_9 := hw.1
        have hw := hw.2
        refine ld_Cu_seen hx hb hK hP h_9 dX1_isWide_57 ?_
        refine lv_iconst (v := (1 : Int32)) hx hb dX1_isWide_58 (by decide) ?_
        refine lv_icmp_ne (tgt := 64) hx hb dX1_isWide_59 (by decide) (fun c_10 => ?_) (fun c_10 => ?_)
        · have hw := hw.2 c_10
          obtain ⟨x3_11, e_11⟩ : ∃ z : Int32, z = x3 + (1 : Int32) := ⟨_, rfl⟩
          have hw := hw x3_11 e_11
          refine lv_iinc (v := x3_11) (lv' := [(3, .int x3_11), (4, .int x4_5), (0, .ref (q 17)), (1, .int x1), (2, .int x2)]) hx hb dX1_isWide_64 hl (k := 4) rfl (by rw [e_11]; rfl) (by decide) rfl (fun ls hl => ?_)
          refine lv_goto (tgt := 19) hx hb dX1_isWide_67 (by decide) ?_
          exact ih _ hw ls (lv_sub hl [2, 3, 4, 0] rfl)
        · have hw := hw.1 c_10
          refine lv_iconst (v := (0 : Int32)) hx hb dX1_isWide_62 (by decide) ?_
          exact rt_z hx hb hr hlocks rfl hw dX1_isWide_63
set_option maxHeartbeats 4000000 in
set_option maxRecDepth 100000 in
theorem c_X1_isWide (l : Launch) {D : va_G} {q : Nat → Nat} {cA : Nat → ClassId} {Fc_unkept : Int32} {Fc_tablesRead : Int32} {Pg_letters : Nat → Int32} {Pg_size : Int32} {Pg_fault : Int32} {Pg_rows : Int32} {Pg_inRow : Int32} {Pg_width : Int32} {Fl_entries : Nat → Int32} {Fl_states : Int32} {Fl_columns : Int32} {Fl_moves : Int32} {Fl_stables : Int32} {Fl_amiss : Int32} {Fl_normal : Int32} {Pt_lessers : Nat → Int32} {Pt_greaters : Nat → Int32} {Pt_size : Int32} {Lc_signals : Nat → Int32} {Lc_kept : Nat → Int64} {Lc_keptFrom : Nat → Int64} {Lc_candidates : Int32} {Lc_size : Int32} {Sc_signals : Nat → Int32} {Sc_codes : Nat → Int32} {Sc_size : Int32} {Ai_codes : Nat → Int32} {Ai_bits : Int32} {Cu_seen : Nat → Int32} {Cu_inThrees : Nat → Int32} {Cu_all : Int32} {Lo_asked : Nat → Nat → Int32} {Lo_ones : Nat → Nat → Int32} {Lo_sum : Nat → Nat → Int32} {Lo_wideSize : Nat → Int32} {Lo_sumSize : Nat → Int32} {Lo_flickers : Nat → Int32} {Lo_ready : Nat → Int32} {Wa_at : Int32} {Wa_turns : Int32} {Wa_changes : Int32} {post : Int32 → Prop} {x1 : Int32} {x2 : Int32} (hw : wp_X1_isWide post Cu_seen Cu_inThrees Cu_all x1 x2) : Met l yX1_isWide (Cond.code yX1_isWide cX1_isWide 5 (some .boolean) :: wsL_law) (rmH 1) (va_Pc [.ref (q 17), .int x1, .int x2] (fun U => va_P D vwCl (wC q cA Fc_unkept Fc_tablesRead Pg_letters Pg_size Pg_fault Pg_rows Pg_inRow Pg_width Fl_entries Fl_states Fl_columns Fl_moves Fl_stables Fl_amiss Fl_normal Pt_lessers Pt_greaters Pt_size Lc_signals Lc_kept Lc_keptFrom Lc_candidates Lc_size Sc_signals Sc_codes Sc_size Ai_codes Ai_bits Cu_seen Cu_inThrees Cu_all Lo_asked Lo_ones Lo_sum Lo_wideSize Lo_sumSize Lo_flickers Lo_ready Wa_at Wa_turns Wa_changes) U.heap ∧ va_K D vwCl (tyC cA) U ∧ nwC U)) (qRi post) 0 0 (fun _ => False) := by
  refine Met.ofW (cc := cX1_isWide) (maxL := 5) (ret := (some .boolean)) (by decide) rfl ?_
  intro p e s m args below meth c s₁ B hml hv
  obtain ⟨rfl, hP, hK, hN⟩ := hv
  have X : kC p (headSpec (Cond.code yX1_isWide cX1_isWide 5 (some .boolean) :: wsL_law) (rmH 1)).room s m _ meth c cX1_isWide RX1 5 (some .boolean) 1 := ⟨B.exec, B.bytes, hml, findClass_of_methodNamed B.named, fun w h => atoms_spec (ws := Cond.code yX1_isWide cX1_isWide 5 (some .boolean) :: wsL_law) B.pre w (List.mem_cons_of_mem _ h), B.returns, B.notSynchronized, Nat.le_refl _, Nat.le_refl _⟩
  obtain ⟨hx, hb, hml, hown, hts, hr, hlocks, hRf, hRl⟩ := id X
  have hl := lv_entry ([.ref (q 17), .int x1, .int x2]) (n := 5) (Nat.le_of_ble_eq_true rfl)
  rw [lg_entry_eq]
  generalize (lg_sl ([.ref (q 17), .int x1, .int x2]) ++ List.replicate (5 - (lg_sl ([.ref (q 17), .int x1, .int x2])).length) Slot.unset).toArray = ls at hl ⊢
  have hl : lv_has ls 5 [(0, .ref (q 17)), (1, .int x1), (2, .int x2)] := hl
  refine lv_aload_n hx hb dX1_isWide_0 rfl (lv_at hl 0 rfl) ?_
  refine gRX1_11 hx hb hown hts hK hP dX1_isWide_1 ?_
  refine lv_aload_n hx hb dX1_isWide_4 rfl (lv_at hl 0 rfl) ?_
  refine lv_iload_n hx hb dX1_isWide_5 rfl (lv_at hl 1 rfl) ?_
  refine lv_iload_n hx hb dX1_isWide_6 rfl (lv_at hl 2 rfl) ?_
  refine ro_i (va_runV (As := [.int x1, .int x2]) (rest := [.ref (q 18)]) ⟨hx, hb, hml, hown, hts⟩ (c_X1_indexOf l hw) (kRX1_42 (h := 0) hts (Nat.le_trans (Nat.le_of_ble_eq_true rfl) hRf) (Nat.le_trans (Nat.le_of_ble_eq_true rfl) hRl)) (preX1 hK hN hP) rfl rfl hl.1 rfl (lv_room (Nat.le_of_ble_eq_true rfl)) dX1_isWide_7 ⟨Nat.zero_le _, Nat.zero_le _⟩) (fun r_1 hw => ?_)
  have h_2 := hw.1
  have hw := hw.2
  refine ld_Cu_seen hx hb hK hP h_2 dX1_isWide_10 ?_
  refine lv_iconst (v := (1 : Int32)) hx hb dX1_isWide_11 (by decide) ?_
  refine lv_icmp_eq (tgt := 17) hx hb dX1_isWide_12 (by decide) (fun c_3 => ?_) (fun c_3 => ?_)
  · have hw := hw.1 c_3
    refine lv_iconst (v := (0 : Int32)) hx hb dX1_isWide_17 (by decide) ?_
    refine lv_istore_n (lv' := [(3, .int (0 : Int32)), (0, .ref (q 17)), (1, .int x1), (2, .int x2)]) hx hb dX1_isWide_18 rfl hl (by decide) rfl (fun ls hl => ?_)
    obtain ⟨n_12, hw⟩ := hw
    refine t_X1_isWide_19 X hK hN hP (fun  hw ls hl => ?_) n_12 _ hw ls (lv_sub hl [1, 2, 3, 0] rfl)
    refine lv_iconst (v := (1 : Int32)) hx hb dX1_isWide_70 (by decide) ?_
    exact rt_z hx hb hr hlocks rfl hw dX1_isWide_71
  · have hw := hw.2 c_3
    refine lv_iconst (v := (0 : Int32)) hx hb dX1_isWide_15 (by decide) ?_
    exact rt_z hx hb hr hlocks rfl hw dX1_isWide_16
abbrev Z_X4_collectWide (D : va_G) (q : Nat → Nat) (cA : Nat → ClassId) (Fc_unkept : Int32) (Fc_tablesRead : Int32) (Pg_letters : Nat → Int32) (Pg_size : Int32) (Pg_fault : Int32) (Pg_rows : Int32) (Pg_inRow : Int32) (Pg_width : Int32) (Fl_entries : Nat → Int32) (Fl_states : Int32) (Fl_columns : Int32) (Fl_moves : Int32) (Fl_stables : Int32) (Fl_amiss : Int32) (Fl_normal : Int32) (Pt_lessers : Nat → Int32) (Pt_greaters : Nat → Int32) (Pt_size : Int32) (Lc_signals : Nat → Int32) (Lc_kept : Nat → Int64) (Lc_keptFrom : Nat → Int64) (Lc_candidates : Int32) (Lc_size : Int32) (Sc_signals : Nat → Int32) (Sc_codes : Nat → Int32) (Sc_size : Int32) (Ai_codes : Nat → Int32) (Ai_bits : Int32) (Cu_seen : Nat → Int32) (Cu_inThrees : Nat → Int32) (Cu_all : Int32) (Lo_asked : Nat → Nat → Int32) (Lo_ones : Nat → Nat → Int32) (Lo_sum : Nat → Nat → Int32) (lo_sum : Nat → Int32) (Lo_wideSize : Nat → Int32) (Lo_sumSize : Nat → Int32) (lo_sumSize : Int32) (Lo_flickers : Nat → Int32) (lo_flickers : Int32) (Lo_ready : Nat → Int32) (lo_ready : Int32) (Wa_at : Int32) (Wa_turns : Int32) (Wa_changes : Int32) (k : Nat) (post : (Nat → Int32) → (Nat → Int32) → Int32 → Prop) : State → Prop := fun t => ∃ (y_lo_asked : Nat → Int32) (y_lo_ones : Nat → Int32) (y_lo_wideSize : Int32), post y_lo_asked y_lo_ones y_lo_wideSize ∧ va_P D vwCl (wC q cA Fc_unkept Fc_tablesRead Pg_letters Pg_size Pg_fault Pg_rows Pg_inRow Pg_width Fl_entries Fl_states Fl_columns Fl_moves Fl_stables Fl_amiss Fl_normal Pt_lessers Pt_greaters Pt_size Lc_signals Lc_kept Lc_keptFrom Lc_candidates Lc_size Sc_signals Sc_codes Sc_size Ai_codes Ai_bits Cu_seen Cu_inThrees Cu_all (va_up Lo_asked k y_lo_asked) (va_up Lo_ones k y_lo_ones) (va_up Lo_sum k lo_sum) (va_up Lo_wideSize k y_lo_wideSize) (va_up Lo_sumSize k lo_sumSize) (va_up Lo_flickers k lo_flickers) (va_up Lo_ready k lo_ready) Wa_at Wa_turns Wa_changes) t.heap
set_option maxHeartbeats 4000000 in
set_option maxRecDepth 100000 in
theorem t_X4_collectWide_25 {p : Program} {l : Launch} {e : Env} {R : Room} {s : State} {m : MethodId} {args : Array Value} {below : List Frame} {meth : Method} {c : Code} {A : Nat → Prop} {D : va_G} {q : Nat → Nat} {cA : Nat → ClassId} {Fc_unkept : Int32} {Fc_tablesRead : Int32} {Pg_letters : Nat → Int32} {Pg_size : Int32} {Pg_fault : Int32} {Pg_rows : Int32} {Pg_inRow : Int32} {Pg_width : Int32} {Fl_entries : Nat → Int32} {Fl_states : Int32} {Fl_columns : Int32} {Fl_moves : Int32} {Fl_stables : Int32} {Fl_amiss : Int32} {Fl_normal : Int32} {Pt_lessers : Nat → Int32} {Pt_greaters : Nat → Int32} {Pt_size : Int32} {Lc_signals : Nat → Int32} {Lc_kept : Nat → Int64} {Lc_keptFrom : Nat → Int64} {Lc_candidates : Int32} {Lc_size : Int32} {Sc_signals : Nat → Int32} {Sc_codes : Nat → Int32} {Sc_size : Int32} {Ai_codes : Nat → Int32} {Ai_bits : Int32} {Cu_seen : Nat → Int32} {Cu_inThrees : Nat → Int32} {Cu_all : Int32} {Lo_asked : Nat → Nat → Int32} {Lo_ones : Nat → Nat → Int32} {Lo_sum : Nat → Nat → Int32} {lo_sum : Nat → Int32} {Lo_wideSize : Nat → Int32} {Lo_sumSize : Nat → Int32} {lo_sumSize : Int32} {Lo_flickers : Nat → Int32} {lo_flickers : Int32} {Lo_ready : Nat → Int32} {lo_ready : Int32} {Wa_at : Int32} {Wa_turns : Int32} {Wa_changes : Int32} {k : Nat} {post : (Nat → Int32) → (Nat → Int32) → Int32 → Prop} {KE : (Nat → Int32) → (Nat → Int32) → Int32 → Prop} {x2 : Int32} (hk : k < 5) (X : kC p R s m args meth c cX4_collectWide RX4 5 none 2) (hK : va_K D vwCl (tyC cA) s) (hN : nwC s) (hE : ∀ (lo_asked : Nat → Int32) (lo_ones : Nat → Int32) (lo_wideSize : Int32), KE lo_asked lo_ones lo_wideSize → ∀ (ls : Array Slot) (H : Heap) (locs : List Loc), lv_has ls 5 [(0, .ref (q (22 + 4 * k))), (1, .ref (q 17)), (2, .int x2)] → va_P D vwCl (wC q cA Fc_unkept Fc_tablesRead Pg_letters Pg_size Pg_fault Pg_rows Pg_inRow Pg_width Fl_entries Fl_states Fl_columns Fl_moves Fl_stables Fl_amiss Fl_normal Pt_lessers Pt_greaters Pt_size Lc_signals Lc_kept Lc_keptFrom Lc_candidates Lc_size Sc_signals Sc_codes Sc_size Ai_codes Ai_bits Cu_seen Cu_inThrees Cu_all (va_up Lo_asked k lo_asked) (va_up Lo_ones k lo_ones) (va_up Lo_sum k lo_sum) (va_up Lo_wideSize k lo_wideSize) (va_up Lo_sumSize k lo_sumSize) (va_up Lo_flickers k lo_flickers) (va_up Lo_ready k lo_ready) Wa_at Wa_turns Wa_changes) H → va_D A (wC q cA Fc_unkept Fc_tablesRead Pg_letters Pg_size Pg_fault Pg_rows Pg_inRow Pg_width Fl_entries Fl_states Fl_columns Fl_moves Fl_stables Fl_amiss Fl_normal Pt_lessers Pt_greaters Pt_size Lc_signals Lc_kept Lc_keptFrom Lc_candidates Lc_size Sc_signals Sc_codes Sc_size Ai_codes Ai_bits Cu_seen Cu_inThrees Cu_all (va_up Lo_asked k lo_asked) (va_up Lo_ones k lo_ones) (va_up Lo_sum k lo_sum) (va_up Lo_wideSize k lo_wideSize) (va_up Lo_sumSize k lo_sumSize) (va_up Lo_flickers k lo_flickers) (va_up Lo_ready k lo_ready) Wa_at Wa_turns Wa_changes) → va_S A s.heap H locs → W p l e R s m args below meth c H locs 0 0 (MQ below (qWv (Z_X4_collectWide D q cA Fc_unkept Fc_tablesRead Pg_letters Pg_size Pg_fault Pg_rows Pg_inRow Pg_width Fl_entries Fl_states Fl_columns Fl_moves Fl_stables Fl_amiss Fl_normal Pt_lessers Pt_greaters Pt_size Lc_signals Lc_kept Lc_keptFrom Lc_candidates Lc_size Sc_signals Sc_codes Sc_size Ai_codes Ai_bits Cu_seen Cu_inThrees Cu_all Lo_asked Lo_ones Lo_sum lo_sum Lo_wideSize Lo_sumSize lo_sumSize Lo_flickers lo_flickers Lo_ready lo_ready Wa_at Wa_turns Wa_changes k post) A) args s 0 0 A) (F0 m 91 ls [])) : ∀ (n : Nat) (x3 : Int32) (x4 : Int32) (lo_asked : Nat → Int32) (lo_ones : Nat → Int32) (lo_wideSize : Int32), w_X4_collectWide_25 KE Cu_seen Cu_inThrees Cu_all x2 n x3 x4 lo_asked lo_ones lo_wideSize → ∀ (ls : Array Slot) (H : Heap) (locs : List Loc), lv_has ls 5 [(0, .ref (q (22 + 4 * k))), (1, .ref (q 17)), (2, .int x2), (3, .int x3), (4, .int x4)] → va_P D vwCl (wC q cA Fc_unkept Fc_tablesRead Pg_letters Pg_size Pg_fault Pg_rows Pg_inRow Pg_width Fl_entries Fl_states Fl_columns Fl_moves Fl_stables Fl_amiss Fl_normal Pt_lessers Pt_greaters Pt_size Lc_signals Lc_kept Lc_keptFrom Lc_candidates Lc_size Sc_signals Sc_codes Sc_size Ai_codes Ai_bits Cu_seen Cu_inThrees Cu_all (va_up Lo_asked k lo_asked) (va_up Lo_ones k lo_ones) (va_up Lo_sum k lo_sum) (va_up Lo_wideSize k lo_wideSize) (va_up Lo_sumSize k lo_sumSize) (va_up Lo_flickers k lo_flickers) (va_up Lo_ready k lo_ready) Wa_at Wa_turns Wa_changes) H → va_D A (wC q cA Fc_unkept Fc_tablesRead Pg_letters Pg_size Pg_fault Pg_rows Pg_inRow Pg_width Fl_entries Fl_states Fl_columns Fl_moves Fl_stables Fl_amiss Fl_normal Pt_lessers Pt_greaters Pt_size Lc_signals Lc_kept Lc_keptFrom Lc_candidates Lc_size Sc_signals Sc_codes Sc_size Ai_codes Ai_bits Cu_seen Cu_inThrees Cu_all (va_up Lo_asked k lo_asked) (va_up Lo_ones k lo_ones) (va_up Lo_sum k lo_sum) (va_up Lo_wideSize k lo_wideSize) (va_up Lo_sumSize k lo_sumSize) (va_up Lo_flickers k lo_flickers) (va_up Lo_ready k lo_ready) Wa_at Wa_turns Wa_changes) → va_S A s.heap H locs → W p l e R s m args below meth c H locs 0 0 (MQ below (qWv (Z_X4_collectWide D q cA Fc_unkept Fc_tablesRead Pg_letters Pg_size Pg_fault Pg_rows Pg_inRow Pg_width Fl_entries Fl_states Fl_columns Fl_moves Fl_stables Fl_amiss Fl_normal Pt_lessers Pt_greaters Pt_size Lc_signals Lc_kept Lc_keptFrom Lc_candidates Lc_size Sc_signals Sc_codes Sc_size Ai_codes Ai_bits Cu_seen Cu_inThrees Cu_all Lo_asked Lo_ones Lo_sum lo_sum Lo_wideSize Lo_sumSize lo_sumSize Lo_flickers lo_flickers Lo_ready lo_ready Wa_at Wa_turns Wa_changes k post) A) args s 0 0 A) (F0 m 25 ls []) := by
  obtain ⟨hx, hb, hml, hown, hts, hr, hlocks, hRf, hRl⟩ := id X
  intro n
  induction n with
  | zero => intro x3 x4 lo_asked lo_ones lo_wideSize hw; exact (show False from hw).elim
  | succ n ih =>
    intro x3 x4 lo_asked lo_ones lo_wideSize hw ls H locs hl hP hD hS
    refine lv_iload hx hb dX4_collectWide_25 (lv_at hl 4 rfl) ?_
    refine lv_if_le (tgt := 91) hx hb dX4_collectWide_27 (by decide) (fun c_4 => ?_) (fun c_4 => ?_)
    · have hw := hw.1 c_4
      exact hE _ _ _ hw ls _ _ (lv_sub hl [0, 1, 2] rfl) hP hD hS
    · have hw := hw.2 c_4
      refine lv_aload_n hx hb dX4_collectWide_30 rfl (lv_at hl 0 rfl) ?_
      refine gRX4_21 (k := k) hk hx hb hown hts hK hP dX4_collectWide_31 ?_
      rw [show va_up Lo_wideSize k lo_wideSize k = lo_wideSize from by simp [va_up]]
      refine lv_sipush (v := (672 : Int32)) hx hb dX4_collectWide_34 (by decide +kernel) ?_
      refine lv_icmp_ge (tgt := 79) hx hb dX4_collectWide_37 (by decide) (fun c_5 => ?_) (fun c_5 => ?_)
      · have hw := hw.1 c_5
        refine lv_iload_n hx hb dX4_collectWide_79 rfl (lv_at hl 3 rfl) ?_
        refine lv_iload_n hx hb dX4_collectWide_80 rfl (lv_at hl 2 rfl) ?_
        refine lv_isub hx hb dX4_collectWide_81 ?_
        refine lv_iload_n hx hb dX4_collectWide_82 rfl (lv_at hl 2 rfl) ?_
        refine lv_iand hx hb dX4_collectWide_83 ?_
        refine lv_topi (fun x3_6 e_6 => ?_)
        have hw := hw x3_6 e_6
        refine lv_istore_n (lv' := [(3, .int x3_6), (0, .ref (q (22 + 4 * k))), (1, .ref (q 17)), (2, .int x2), (4, .int x4)]) hx hb dX4_collectWide_84 rfl hl (by decide) rfl (fun ls hl => ?_)
        obtain ⟨x4_7, e_7⟩ : ∃ z : Int32, z = x4 + ((-1) : Int32) := ⟨_, rfl⟩
        have hw := hw x4_7 e_7
        refine lv_iinc (v := x4_7) (lv' := [(4, .int x4_7), (3, .int x3_6), (0, .ref (q (22 + 4 * k))), (1, .ref (q 17)), (2, .int x2)]) hx hb dX4_collectWide_85 hl (k := 4) rfl (by rw [e_7]; rfl) (by decide) rfl (fun ls hl => ?_)
        refine lv_goto (tgt := 25) hx hb dX4_collectWide_88 (by decide) ?_
        exact ih _ _ _ _ _ hw ls _ _ (lv_sub hl [2, 3, 4, 1, 0] rfl) hP hD hS
      · have hw := hw.2 c_5
        refine lv_aload_n hx hb dX4_collectWide_40 rfl (lv_at hl 1 rfl) ?_
        refine lv_iload_n hx hb dX4_collectWide_41 rfl (lv_at hl 2 rfl) ?_
        refine lv_iload_n hx hb dX4_collectWide_42 rfl (lv_at hl 3 rfl) ?_
        refine ro_i (va_runV (As := [.int x2, .int x3]) (rest := []) ⟨hx, hb, hml, hown, hts⟩ (c_X1_isWide l hw) (kRX4_36 (h := 1) hts (Nat.le_trans (Nat.le_of_ble_eq_true rfl) hRf) (Nat.le_trans (Nat.le_of_ble_eq_true rfl) hRl)) (preX1 hK hN hP) rfl rfl hl.1 rfl (lv_room (Nat.le_of_ble_eq_true rfl)) dX4_collectWide_43 ⟨Nat.zero_le _, Nat.zero_le _⟩) (fun r_8 hw => ?_)
        refine lv_if_eq (tgt := 79) hx hb dX4_collectWide_46 (by decide) (fun c_9 => ?_) (fun c_9 => ?_)
        · have hw := hw.1 c_9
          refine lv_iload_n hx hb dX4_collectWide_79 rfl (lv_at hl 3 rfl) ?_
          refine lv_iload_n hx hb dX4_collectWide_80 rfl (lv_at hl 2 rfl) ?_
          refine lv_isub hx hb dX4_collectWide_81 ?_
          refine lv_iload_n hx hb dX4_collectWide_82 rfl (lv_at hl 2 rfl) ?_
          refine lv_iand hx hb dX4_collectWide_83 ?_
          refine lv_topi (fun x3_10 e_10 => ?_)
          have hw := hw x3_10 e_10
          refine lv_istore_n (lv' := [(3, .int x3_10), (0, .ref (q (22 + 4 * k))), (1, .ref (q 17)), (2, .int x2), (4, .int x4)]) hx hb dX4_collectWide_84 rfl hl (by decide) rfl (fun ls hl => ?_)
          obtain ⟨x4_11, e_11⟩ : ∃ z : Int32, z = x4 + ((-1) : Int32) := ⟨_, rfl⟩
          have hw := hw x4_11 e_11
          refine lv_iinc (v := x4_11) (lv' := [(4, .int x4_11), (3, .int x3_10), (0, .ref (q (22 + 4 * k))), (1, .ref (q 17)), (2, .int x2)]) hx hb dX4_collectWide_85 hl (k := 4) rfl (by rw [e_11]; rfl) (by decide) rfl (fun ls hl => ?_)
          refine lv_goto (tgt := 25) hx hb dX4_collectWide_88 (by decide) ?_
          exact ih _ _ _ _ _ hw ls _ _ (lv_sub hl [2, 3, 4, 1, 0] rfl) hP hD hS
        · have hw := hw.2 c_9
          refine lv_aload_n hx hb dX4_collectWide_49 rfl (lv_at hl 0 rfl) ?_
          refine gRX4_11 (k := k) hk hx hb hown hts hK hP dX4_collectWide_50 ?_
          refine lv_aload_n hx hb dX4_collectWide_53 rfl (lv_at hl 0 rfl) ?_
          refine gRX4_21 (k := k) hk hx hb hown hts hK hP dX4_collectWide_54 ?_
          rw [show va_up Lo_wideSize k lo_wideSize k = lo_wideSize from by simp [va_up]]
          refine lv_iload_n hx hb dX4_collectWide_57 rfl (lv_at hl 2 rfl) ?_
          have h_12 := hw.1
          have hw := hw.2
          refine st_Lo_asked (k := k) hk hx hb hK hP hD hS h_12 dX4_collectWide_58 (fun H locs a_12 e_12 hP hD hS => ?_)
          rw [show va_up Lo_asked k lo_asked k = lo_asked from by simp [va_up]] at e_12
          simp only [bx_uu] at hP hD
          have hw := hw a_12 e_12
          refine lv_aload_n hx hb dX4_collectWide_59 rfl (lv_at hl 0 rfl) ?_
          refine gRX4_15 (k := k) hk hx hb hown hts hK hP dX4_collectWide_60 ?_
          refine lv_aload_n hx hb dX4_collectWide_63 rfl (lv_at hl 0 rfl) ?_
          refine gRX4_21 (k := k) hk hx hb hown hts hK hP dX4_collectWide_64 ?_
          rw [show va_up Lo_wideSize k lo_wideSize k = lo_wideSize from by simp [va_up]]
          refine lv_iload_n hx hb dX4_collectWide_67 rfl (lv_at hl 3 rfl) ?_
          have h_13 := hw.1
          have hw := hw.2
          refine st_Lo_ones (k := k) hk hx hb hK hP hD hS h_13 dX4_collectWide_68 (fun H locs a_13 e_13 hP hD hS => ?_)
          rw [show va_up Lo_ones k lo_ones k = lo_ones from by simp [va_up]] at e_13
          simp only [bx_uu] at hP hD
          have hw := hw a_13 e_13
          refine lv_aload_n hx hb dX4_collectWide_69 rfl (lv_at hl 0 rfl) ?_
          refine lv_dup hx hb dX4_collectWide_70 rfl ?_
          refine gRX4_21 (k := k) hk hx hb hown hts hK hP dX4_collectWide_71 ?_
          rw [show va_up Lo_wideSize k lo_wideSize k = lo_wideSize from by simp [va_up]]
          refine lv_iconst (v := (1 : Int32)) hx hb dX4_collectWide_74 (by decide) ?_
          refine lv_iadd hx hb dX4_collectWide_75 ?_
          refine lv_topi (fun f_14 e_14 => ?_)
          have hw := hw f_14 e_14
          refine pRX4_21 (k := k) hk hx hb hown hts hK hP hD hS dX4_collectWide_76 (fun H locs hP hD hS => ?_)
          simp only [bx_uu] at hP hD
          refine lv_iload_n hx hb dX4_collectWide_79 rfl (lv_at hl 3 rfl) ?_
          refine lv_iload_n hx hb dX4_collectWide_80 rfl (lv_at hl 2 rfl) ?_
          refine lv_isub hx hb dX4_collectWide_81 ?_
          refine lv_iload_n hx hb dX4_collectWide_82 rfl (lv_at hl 2 rfl) ?_
          refine lv_iand hx hb dX4_collectWide_83 ?_
          refine lv_topi (fun x3_15 e_15 => ?_)
          have hw := hw x3_15 e_15
          refine lv_istore_n (lv' := [(3, .int x3_15), (0, .ref (q (22 + 4 * k))), (1, .ref (q 17)), (2, .int x2), (4, .int x4)]) hx hb dX4_collectWide_84 rfl hl (by decide) rfl (fun ls hl => ?_)
          obtain ⟨x4_16, e_16⟩ : ∃ z : Int32, z = x4 + ((-1) : Int32) := ⟨_, rfl⟩
          have hw := hw x4_16 e_16
          refine lv_iinc (v := x4_16) (lv' := [(4, .int x4_16), (3, .int x3_15), (0, .ref (q (22 + 4 * k))), (1, .ref (q 17)), (2, .int x2)]) hx hb dX4_collectWide_85 hl (k := 4) rfl (by rw [e_16]; rfl) (by decide) rfl (fun ls hl => ?_)
          refine lv_goto (tgt := 25) hx hb dX4_collectWide_88 (by decide) ?_
          exact ih _ _ _ _ _ hw ls _ _ (lv_sub hl [2, 3, 4, 1, 0] rfl) hP hD hS
set_option maxHeartbeats 4000000 in
set_option maxRecDepth 100000 in
theorem t_X4_collectWide_7 {p : Program} {l : Launch} {e : Env} {R : Room} {s : State} {m : MethodId} {args : Array Value} {below : List Frame} {meth : Method} {c : Code} {A : Nat → Prop} {D : va_G} {q : Nat → Nat} {cA : Nat → ClassId} {Fc_unkept : Int32} {Fc_tablesRead : Int32} {Pg_letters : Nat → Int32} {Pg_size : Int32} {Pg_fault : Int32} {Pg_rows : Int32} {Pg_inRow : Int32} {Pg_width : Int32} {Fl_entries : Nat → Int32} {Fl_states : Int32} {Fl_columns : Int32} {Fl_moves : Int32} {Fl_stables : Int32} {Fl_amiss : Int32} {Fl_normal : Int32} {Pt_lessers : Nat → Int32} {Pt_greaters : Nat → Int32} {Pt_size : Int32} {Lc_signals : Nat → Int32} {Lc_kept : Nat → Int64} {Lc_keptFrom : Nat → Int64} {Lc_candidates : Int32} {Lc_size : Int32} {Sc_signals : Nat → Int32} {Sc_codes : Nat → Int32} {Sc_size : Int32} {Ai_codes : Nat → Int32} {Ai_bits : Int32} {Cu_seen : Nat → Int32} {Cu_inThrees : Nat → Int32} {Cu_all : Int32} {Lo_asked : Nat → Nat → Int32} {Lo_ones : Nat → Nat → Int32} {Lo_sum : Nat → Nat → Int32} {lo_sum : Nat → Int32} {Lo_wideSize : Nat → Int32} {Lo_sumSize : Nat → Int32} {lo_sumSize : Int32} {Lo_flickers : Nat → Int32} {lo_flickers : Int32} {Lo_ready : Nat → Int32} {lo_ready : Int32} {Wa_at : Int32} {Wa_turns : Int32} {Wa_changes : Int32} {k : Nat} {post : (Nat → Int32) → (Nat → Int32) → Int32 → Prop} {KE : (Nat → Int32) → (Nat → Int32) → Int32 → Prop} (hk : k < 5) (X : kC p R s m args meth c cX4_collectWide RX4 5 none 2) (hK : va_K D vwCl (tyC cA) s) (hN : nwC s) (hE : ∀ (lo_asked : Nat → Int32) (lo_ones : Nat → Int32) (lo_wideSize : Int32), KE lo_asked lo_ones lo_wideSize → ∀ (ls : Array Slot) (H : Heap) (locs : List Loc), lv_has ls 5 [] → va_P D vwCl (wC q cA Fc_unkept Fc_tablesRead Pg_letters Pg_size Pg_fault Pg_rows Pg_inRow Pg_width Fl_entries Fl_states Fl_columns Fl_moves Fl_stables Fl_amiss Fl_normal Pt_lessers Pt_greaters Pt_size Lc_signals Lc_kept Lc_keptFrom Lc_candidates Lc_size Sc_signals Sc_codes Sc_size Ai_codes Ai_bits Cu_seen Cu_inThrees Cu_all (va_up Lo_asked k lo_asked) (va_up Lo_ones k lo_ones) (va_up Lo_sum k lo_sum) (va_up Lo_wideSize k lo_wideSize) (va_up Lo_sumSize k lo_sumSize) (va_up Lo_flickers k lo_flickers) (va_up Lo_ready k lo_ready) Wa_at Wa_turns Wa_changes) H → va_D A (wC q cA Fc_unkept Fc_tablesRead Pg_letters Pg_size Pg_fault Pg_rows Pg_inRow Pg_width Fl_entries Fl_states Fl_columns Fl_moves Fl_stables Fl_amiss Fl_normal Pt_lessers Pt_greaters Pt_size Lc_signals Lc_kept Lc_keptFrom Lc_candidates Lc_size Sc_signals Sc_codes Sc_size Ai_codes Ai_bits Cu_seen Cu_inThrees Cu_all (va_up Lo_asked k lo_asked) (va_up Lo_ones k lo_ones) (va_up Lo_sum k lo_sum) (va_up Lo_wideSize k lo_wideSize) (va_up Lo_sumSize k lo_sumSize) (va_up Lo_flickers k lo_flickers) (va_up Lo_ready k lo_ready) Wa_at Wa_turns Wa_changes) → va_S A s.heap H locs → W p l e R s m args below meth c H locs 0 0 (MQ below (qWv (Z_X4_collectWide D q cA Fc_unkept Fc_tablesRead Pg_letters Pg_size Pg_fault Pg_rows Pg_inRow Pg_width Fl_entries Fl_states Fl_columns Fl_moves Fl_stables Fl_amiss Fl_normal Pt_lessers Pt_greaters Pt_size Lc_signals Lc_kept Lc_keptFrom Lc_candidates Lc_size Sc_signals Sc_codes Sc_size Ai_codes Ai_bits Cu_seen Cu_inThrees Cu_all Lo_asked Lo_ones Lo_sum lo_sum Lo_wideSize Lo_sumSize lo_sumSize Lo_flickers lo_flickers Lo_ready lo_ready Wa_at Wa_turns Wa_changes k post) A) args s 0 0 A) (F0 m 97 ls [])) : ∀ (n : Nat) (x2 : Int32) (lo_asked : Nat → Int32) (lo_ones : Nat → Int32) (lo_wideSize : Int32), w_X4_collectWide_7 KE Cu_seen Cu_inThrees Cu_all n x2 lo_asked lo_ones lo_wideSize → ∀ (ls : Array Slot) (H : Heap) (locs : List Loc), lv_has ls 5 [(0, .ref (q (22 + 4 * k))), (1, .ref (q 17)), (2, .int x2)] → va_P D vwCl (wC q cA Fc_unkept Fc_tablesRead Pg_letters Pg_size Pg_fault Pg_rows Pg_inRow Pg_width Fl_entries Fl_states Fl_columns Fl_moves Fl_stables Fl_amiss Fl_normal Pt_lessers Pt_greaters Pt_size Lc_signals Lc_kept Lc_keptFrom Lc_candidates Lc_size Sc_signals Sc_codes Sc_size Ai_codes Ai_bits Cu_seen Cu_inThrees Cu_all (va_up Lo_asked k lo_asked) (va_up Lo_ones k lo_ones) (va_up Lo_sum k lo_sum) (va_up Lo_wideSize k lo_wideSize) (va_up Lo_sumSize k lo_sumSize) (va_up Lo_flickers k lo_flickers) (va_up Lo_ready k lo_ready) Wa_at Wa_turns Wa_changes) H → va_D A (wC q cA Fc_unkept Fc_tablesRead Pg_letters Pg_size Pg_fault Pg_rows Pg_inRow Pg_width Fl_entries Fl_states Fl_columns Fl_moves Fl_stables Fl_amiss Fl_normal Pt_lessers Pt_greaters Pt_size Lc_signals Lc_kept Lc_keptFrom Lc_candidates Lc_size Sc_signals Sc_codes Sc_size Ai_codes Ai_bits Cu_seen Cu_inThrees Cu_all (va_up Lo_asked k lo_asked) (va_up Lo_ones k lo_ones) (va_up Lo_sum k lo_sum) (va_up Lo_wideSize k lo_wideSize) (va_up Lo_sumSize k lo_sumSize) (va_up Lo_flickers k lo_flickers) (va_up Lo_ready k lo_ready) Wa_at Wa_turns Wa_changes) → va_S A s.heap H locs → W p l e R s m args below meth c H locs 0 0 (MQ below (qWv (Z_X4_collectWide D q cA Fc_unkept Fc_tablesRead Pg_letters Pg_size Pg_fault Pg_rows Pg_inRow Pg_width Fl_entries Fl_states Fl_columns Fl_moves Fl_stables Fl_amiss Fl_normal Pt_lessers Pt_greaters Pt_size Lc_signals Lc_kept Lc_keptFrom Lc_candidates Lc_size Sc_signals Sc_codes Sc_size Ai_codes Ai_bits Cu_seen Cu_inThrees Cu_all Lo_asked Lo_ones Lo_sum lo_sum Lo_wideSize Lo_sumSize lo_sumSize Lo_flickers lo_flickers Lo_ready lo_ready Wa_at Wa_turns Wa_changes k post) A) args s 0 0 A) (F0 m 7 ls []) := by
  obtain ⟨hx, hb, hml, hown, hts, hr, hlocks, hRf, hRl⟩ := id X
  intro n
  induction n with
  | zero => intro x2 lo_asked lo_ones lo_wideSize hw; exact (show False from hw).elim
  | succ n ih =>
    intro x2 lo_asked lo_ones lo_wideSize hw ls H locs hl hP hD hS
    refine lv_iload_n hx hb dX4_collectWide_7 rfl (lv_at hl 2 rfl) ?_
    refine lv_aload_n hx hb dX4_collectWide_8 rfl (lv_at hl 1 rfl) ?_
    refine gRX4_25 hx hb hown hts hK hN hP dX4_collectWide_9 ?_
    refine lv_icmp_gt (tgt := 97) hx hb dX4_collectWide_12 (by decide) (fun c_1 => ?_) (fun c_1 => ?_)
    · have hw := hw.1 c_1
      exact hE _ _ _ hw ls _ _ (lv_sub hl [] rfl) hP hD hS
    · have hw := hw.2 c_1
      refine lv_iconst (v := (0 : Int32)) hx hb dX4_collectWide_15 (by decide) ?_
      refine lv_istore_n (lv' := [(3, .int (0 : Int32)), (0, .ref (q (22 + 4 * k))), (1, .ref (q 17)), (2, .int x2)]) hx hb dX4_collectWide_16 rfl hl (by decide) rfl (fun ls hl => ?_)
      refine lv_iconst (v := (1 : Int32)) hx hb dX4_collectWide_17 (by decide) ?_
      refine lv_iload_n hx hb dX4_collectWide_18 rfl (lv_at hl 3 rfl) ?_
      refine ro_i (va_runS (As := [.int x2]) (rest := [.int (1 : Int32)]) ⟨hx, hb, hml, hown, hts⟩ (c_J6_bitCount l hw) (kRX4_30 (h := 0) hts (Nat.le_trans (Nat.le_of_ble_eq_true rfl) hRf) (Nat.le_trans (Nat.le_of_ble_eq_true rfl) hRl)) pre_0 rfl rfl hl.1 rfl (lv_room (Nat.le_of_ble_eq_true rfl)) dX4_collectWide_19 ⟨Nat.zero_le _, Nat.zero_le _⟩) (fun r_2 hw => ?_)
      refine lv_ishl hx hb dX4_collectWide_22 ?_
      refine lv_topi (fun x4_3 e_3 => ?_)
      have hw := hw x4_3 e_3
      refine lv_istore (lv' := [(4, .int x4_3), (3, .int (0 : Int32)), (0, .ref (q (22 + 4 * k))), (1, .ref (q 17)), (2, .int x2)]) hx hb dX4_collectWide_23 hl (by decide) rfl (fun ls hl => ?_)
      obtain ⟨n_17, hw⟩ := hw
      refine t_X4_collectWide_25 hk X hK hN (fun yasked_17 yones_17 ywideSize_17 hw ls H locs hl hP hD hS => ?_) n_17 _ _ _ _ _ hw ls _ _ (lv_sub hl [2, 3, 4, 1, 0] rfl) hP hD hS
      obtain ⟨x2_18, e_18⟩ : ∃ z : Int32, z = x2 + (1 : Int32) := ⟨_, rfl⟩
      have hw := hw x2_18 e_18
      refine lv_iinc (v := x2_18) (lv' := [(2, .int x2_18), (0, .ref (q (22 + 4 * k))), (1, .ref (q 17))]) hx hb dX4_collectWide_91 hl (k := 2) rfl (by rw [e_18]; rfl) (by decide) rfl (fun ls hl => ?_)
      refine lv_goto (tgt := 7) hx hb dX4_collectWide_94 (by decide) ?_
      exact ih _ _ _ _ hw ls _ _ (lv_sub hl [1, 2, 0] rfl) hP hD hS
set_option maxHeartbeats 4000000 in
set_option maxRecDepth 100000 in
theorem c_X4_collectWide (l : Launch) {D : va_G} {q : Nat → Nat} {cA : Nat → ClassId} {Fc_unkept : Int32} {Fc_tablesRead : Int32} {Pg_letters : Nat → Int32} {Pg_size : Int32} {Pg_fault : Int32} {Pg_rows : Int32} {Pg_inRow : Int32} {Pg_width : Int32} {Fl_entries : Nat → Int32} {Fl_states : Int32} {Fl_columns : Int32} {Fl_moves : Int32} {Fl_stables : Int32} {Fl_amiss : Int32} {Fl_normal : Int32} {Pt_lessers : Nat → Int32} {Pt_greaters : Nat → Int32} {Pt_size : Int32} {Lc_signals : Nat → Int32} {Lc_kept : Nat → Int64} {Lc_keptFrom : Nat → Int64} {Lc_candidates : Int32} {Lc_size : Int32} {Sc_signals : Nat → Int32} {Sc_codes : Nat → Int32} {Sc_size : Int32} {Ai_codes : Nat → Int32} {Ai_bits : Int32} {Cu_seen : Nat → Int32} {Cu_inThrees : Nat → Int32} {Cu_all : Int32} {Lo_asked : Nat → Nat → Int32} {lo_asked : Nat → Int32} {Lo_ones : Nat → Nat → Int32} {lo_ones : Nat → Int32} {Lo_sum : Nat → Nat → Int32} {lo_sum : Nat → Int32} {Lo_wideSize : Nat → Int32} {lo_wideSize : Int32} {Lo_sumSize : Nat → Int32} {lo_sumSize : Int32} {Lo_flickers : Nat → Int32} {lo_flickers : Int32} {Lo_ready : Nat → Int32} {lo_ready : Int32} {Wa_at : Int32} {Wa_turns : Int32} {Wa_changes : Int32} {k : Nat} {A : Nat → Prop} {post : (Nat → Int32) → (Nat → Int32) → Int32 → Prop}  (hk : k < 5) (hw : wp_X4_collectWide post Cu_seen Cu_inThrees Cu_all lo_asked lo_ones lo_wideSize ) : Met l yX4_collectWide (Cond.code yX4_collectWide cX4_collectWide 5 none :: wsL_law) (rmH 2) (va_Pc [.ref (q (22 + 4 * k)), .ref (q 17)] (fun U => va_P D vwCl (wC q cA Fc_unkept Fc_tablesRead Pg_letters Pg_size Pg_fault Pg_rows Pg_inRow Pg_width Fl_entries Fl_states Fl_columns Fl_moves Fl_stables Fl_amiss Fl_normal Pt_lessers Pt_greaters Pt_size Lc_signals Lc_kept Lc_keptFrom Lc_candidates Lc_size Sc_signals Sc_codes Sc_size Ai_codes Ai_bits Cu_seen Cu_inThrees Cu_all (va_up Lo_asked k lo_asked) (va_up Lo_ones k lo_ones) (va_up Lo_sum k lo_sum) (va_up Lo_wideSize k lo_wideSize) (va_up Lo_sumSize k lo_sumSize) (va_up Lo_flickers k lo_flickers) (va_up Lo_ready k lo_ready) Wa_at Wa_turns Wa_changes) U.heap ∧ va_K D vwCl (tyC cA) U ∧ nwC U ∧ va_D A (wC q cA Fc_unkept Fc_tablesRead Pg_letters Pg_size Pg_fault Pg_rows Pg_inRow Pg_width Fl_entries Fl_states Fl_columns Fl_moves Fl_stables Fl_amiss Fl_normal Pt_lessers Pt_greaters Pt_size Lc_signals Lc_kept Lc_keptFrom Lc_candidates Lc_size Sc_signals Sc_codes Sc_size Ai_codes Ai_bits Cu_seen Cu_inThrees Cu_all (va_up Lo_asked k lo_asked) (va_up Lo_ones k lo_ones) (va_up Lo_sum k lo_sum) (va_up Lo_wideSize k lo_wideSize) (va_up Lo_sumSize k lo_sumSize) (va_up Lo_flickers k lo_flickers) (va_up Lo_ready k lo_ready) Wa_at Wa_turns Wa_changes))) (qWv (Z_X4_collectWide D q cA Fc_unkept Fc_tablesRead Pg_letters Pg_size Pg_fault Pg_rows Pg_inRow Pg_width Fl_entries Fl_states Fl_columns Fl_moves Fl_stables Fl_amiss Fl_normal Pt_lessers Pt_greaters Pt_size Lc_signals Lc_kept Lc_keptFrom Lc_candidates Lc_size Sc_signals Sc_codes Sc_size Ai_codes Ai_bits Cu_seen Cu_inThrees Cu_all Lo_asked Lo_ones Lo_sum lo_sum Lo_wideSize Lo_sumSize lo_sumSize Lo_flickers lo_flickers Lo_ready lo_ready Wa_at Wa_turns Wa_changes k post) A) 0 0 A := by
  refine Met.ofW (cc := cX4_collectWide) (maxL := 5) (ret := none) (by decide) rfl ?_
  intro p e s m args below meth c s₁ B hml hv
  obtain ⟨rfl, hP, hK, hN, hD⟩ := hv
  have X : kC p (headSpec (Cond.code yX4_collectWide cX4_collectWide 5 none :: wsL_law) (rmH 2)).room s m _ meth c cX4_collectWide RX4 5 none 2 := ⟨B.exec, B.bytes, hml, findClass_of_methodNamed B.named, fun w h => atoms_spec (ws := Cond.code yX4_collectWide cX4_collectWide 5 none :: wsL_law) B.pre w (List.mem_cons_of_mem _ h), B.returns, B.notSynchronized, Nat.le_refl _, Nat.le_refl _⟩
  obtain ⟨hx, hb, hml, hown, hts, hr, hlocks, hRf, hRl⟩ := id X
  have hS : va_S A s.heap s.heap [] := va_S.rf
  have hl := lv_entry ([.ref (q (22 + 4 * k)), .ref (q 17)]) (n := 5) (Nat.le_of_ble_eq_true rfl)
  rw [lg_entry_eq]
  generalize (lg_sl ([.ref (q (22 + 4 * k)), .ref (q 17)]) ++ List.replicate (5 - (lg_sl ([.ref (q (22 + 4 * k)), .ref (q 17)])).length) Slot.unset).toArray = ls at hl ⊢
  have hl : lv_has ls 5 [(0, .ref (q (22 + 4 * k))), (1, .ref (q 17))] := hl
  refine lv_aload_n hx hb dX4_collectWide_0 rfl (lv_at hl 0 rfl) ?_
  refine lv_iconst (v := (0 : Int32)) hx hb dX4_collectWide_1 (by decide) ?_
  refine pRX4_21 (k := k) hk hx hb hown hts hK hP hD hS dX4_collectWide_2 (fun H locs hP hD hS => ?_)
  simp only [bx_uu] at hP hD
  refine lv_iconst (v := (0 : Int32)) hx hb dX4_collectWide_5 (by decide) ?_
  refine lv_istore_n (lv' := [(2, .int (0 : Int32)), (0, .ref (q (22 + 4 * k))), (1, .ref (q 17))]) hx hb dX4_collectWide_6 rfl hl (by decide) rfl (fun ls hl => ?_)
  obtain ⟨n_19, hw⟩ := hw
  refine t_X4_collectWide_7 hk X hK hN (fun yasked_19 yones_19 ywideSize_19 hw ls H locs hl hP hD hS => ?_) n_19 _ _ _ _ hw ls _ _ (lv_sub hl [1, 2, 0] rfl) hP hD hS
  exact rw_v hx hb hr hlocks (fun t ht => ⟨yasked_19, yones_19, ywideSize_19, hw, by rw [ht]; exact hP⟩) hS dX4_collectWide_97
set_option maxHeartbeats 4000000 in
set_option maxRecDepth 100000 in
theorem c_X4_hasBoth (l : Launch) {D : va_G} {q : Nat → Nat} {cA : Nat → ClassId} {Fc_unkept : Int32} {Fc_tablesRead : Int32} {Pg_letters : Nat → Int32} {Pg_size : Int32} {Pg_fault : Int32} {Pg_rows : Int32} {Pg_inRow : Int32} {Pg_width : Int32} {Fl_entries : Nat → Int32} {Fl_states : Int32} {Fl_columns : Int32} {Fl_moves : Int32} {Fl_stables : Int32} {Fl_amiss : Int32} {Fl_normal : Int32} {Pt_lessers : Nat → Int32} {Pt_greaters : Nat → Int32} {Pt_size : Int32} {Lc_signals : Nat → Int32} {Lc_kept : Nat → Int64} {Lc_keptFrom : Nat → Int64} {Lc_candidates : Int32} {Lc_size : Int32} {Sc_signals : Nat → Int32} {Sc_codes : Nat → Int32} {Sc_size : Int32} {Ai_codes : Nat → Int32} {Ai_bits : Int32} {Cu_seen : Nat → Int32} {Cu_inThrees : Nat → Int32} {Cu_all : Int32} {Lo_asked : Nat → Nat → Int32} {lo_asked : Nat → Int32} {Lo_ones : Nat → Nat → Int32} {lo_ones : Nat → Int32} {Lo_sum : Nat → Nat → Int32} {lo_sum : Nat → Int32} {Lo_wideSize : Nat → Int32} {lo_wideSize : Int32} {Lo_sumSize : Nat → Int32} {lo_sumSize : Int32} {Lo_flickers : Nat → Int32} {lo_flickers : Int32} {Lo_ready : Nat → Int32} {lo_ready : Int32} {Wa_at : Int32} {Wa_turns : Int32} {Wa_changes : Int32} {k : Nat} {post : Int32 → Prop} {x1 : Int32} {x2 : Int32} {x3 : Int32} (hk : k < 5) (hw : wp_X4_hasBoth post lo_asked lo_ones x1 x2 x3) : Met l yX4_hasBoth (Cond.code yX4_hasBoth cX4_hasBoth 4 (some .boolean) :: wsL_law) (rmH 0) (va_Pc [.ref (q (22 + 4 * k)), .int x1, .int x2, .int x3] (fun U => va_P D vwCl (wC q cA Fc_unkept Fc_tablesRead Pg_letters Pg_size Pg_fault Pg_rows Pg_inRow Pg_width Fl_entries Fl_states Fl_columns Fl_moves Fl_stables Fl_amiss Fl_normal Pt_lessers Pt_greaters Pt_size Lc_signals Lc_kept Lc_keptFrom Lc_candidates Lc_size Sc_signals Sc_codes Sc_size Ai_codes Ai_bits Cu_seen Cu_inThrees Cu_all (va_up Lo_asked k lo_asked) (va_up Lo_ones k lo_ones) (va_up Lo_sum k lo_sum) (va_up Lo_wideSize k lo_wideSize) (va_up Lo_sumSize k lo_sumSize) (va_up Lo_flickers k lo_flickers) (va_up Lo_ready k lo_ready) Wa_at Wa_turns Wa_changes) U.heap ∧ va_K D vwCl (tyC cA) U ∧ nwC U)) (qRi post) 0 0 (fun _ => False) := by
  refine Met.ofW (cc := cX4_hasBoth) (maxL := 4) (ret := (some .boolean)) (by decide) rfl ?_
  intro p e s m args below meth c s₁ B hml hv
  obtain ⟨rfl, hP, hK, hN⟩ := hv
  have X : kC p (headSpec (Cond.code yX4_hasBoth cX4_hasBoth 4 (some .boolean) :: wsL_law) (rmH 0)).room s m _ meth c cX4_hasBoth RX4 4 (some .boolean) 0 := ⟨B.exec, B.bytes, hml, findClass_of_methodNamed B.named, fun w h => atoms_spec (ws := Cond.code yX4_hasBoth cX4_hasBoth 4 (some .boolean) :: wsL_law) B.pre w (List.mem_cons_of_mem _ h), B.returns, B.notSynchronized, Nat.le_refl _, Nat.le_refl _⟩
  obtain ⟨hx, hb, hml, hown, hts, hr, hlocks, hRf, hRl⟩ := id X
  have hl := lv_entry ([.ref (q (22 + 4 * k)), .int x1, .int x2, .int x3]) (n := 4) (Nat.le_of_ble_eq_true rfl)
  rw [lg_entry_eq]
  generalize (lg_sl ([.ref (q (22 + 4 * k)), .int x1, .int x2, .int x3]) ++ List.replicate (4 - (lg_sl ([.ref (q (22 + 4 * k)), .int x1, .int x2, .int x3])).length) Slot.unset).toArray = ls at hl ⊢
  have hl : lv_has ls 4 [(0, .ref (q (22 + 4 * k))), (1, .int x1), (2, .int x2), (3, .int x3)] := hl
  refine lv_aload_n hx hb dX4_hasBoth_0 rfl (lv_at hl 0 rfl) ?_
  refine gRX4_11 (k := k) hk hx hb hown hts hK hP dX4_hasBoth_1 ?_
  refine lv_iload_n hx hb dX4_hasBoth_4 rfl (lv_at hl 1 rfl) ?_
  have h_1 := hw.1
  have hw := hw.2
  refine ld_Lo_asked (k := k) hk hx hb hK hP h_1 dX4_hasBoth_5 ?_
  rw [show va_up Lo_asked k lo_asked k = lo_asked from by simp [va_up]]
  refine lv_iload_n hx hb dX4_hasBoth_6 rfl (lv_at hl 3 rfl) ?_
  refine lv_iand hx hb dX4_hasBoth_7 ?_
  refine lv_if_ne (tgt := 32) hx hb dX4_hasBoth_8 (by decide) (fun c_2 => ?_) (fun c_2 => ?_)
  · have hw := hw.2 c_2
    refine lv_iconst (v := (0 : Int32)) hx hb dX4_hasBoth_32 (by decide) ?_
    exact rt_z hx hb hr hlocks rfl hw dX4_hasBoth_33
  · have hw := hw.1 c_2
    refine lv_iload_n hx hb dX4_hasBoth_11 rfl (lv_at hl 2 rfl) ?_
    refine lv_aload_n hx hb dX4_hasBoth_12 rfl (lv_at hl 0 rfl) ?_
    refine gRX4_11 (k := k) hk hx hb hown hts hK hP dX4_hasBoth_13 ?_
    refine lv_iload_n hx hb dX4_hasBoth_16 rfl (lv_at hl 1 rfl) ?_
    have h_3 := hw.1
    have hw := hw.2
    refine ld_Lo_asked (k := k) hk hx hb hK hP h_3 dX4_hasBoth_17 ?_
    rw [show va_up Lo_asked k lo_asked k = lo_asked from by simp [va_up]]
    refine lv_iand hx hb dX4_hasBoth_18 ?_
    refine lv_aload_n hx hb dX4_hasBoth_19 rfl (lv_at hl 0 rfl) ?_
    refine gRX4_15 (k := k) hk hx hb hown hts hK hP dX4_hasBoth_20 ?_
    refine lv_iload_n hx hb dX4_hasBoth_23 rfl (lv_at hl 1 rfl) ?_
    have h_4 := hw.1
    have hw := hw.2
    refine ld_Lo_ones (k := k) hk hx hb hK hP h_4 dX4_hasBoth_24 ?_
    rw [show va_up Lo_ones k lo_ones k = lo_ones from by simp [va_up]]
    refine lv_icmp_ne (tgt := 32) hx hb dX4_hasBoth_25 (by decide) (fun c_5 => ?_) (fun c_5 => ?_)
    · have hw := hw.2 c_5
      refine lv_iconst (v := (0 : Int32)) hx hb dX4_hasBoth_32 (by decide) ?_
      exact rt_z hx hb hr hlocks rfl hw dX4_hasBoth_33
    · have hw := hw.1 c_5
      refine lv_iconst (v := (1 : Int32)) hx hb dX4_hasBoth_28 (by decide) ?_
      refine lv_goto (tgt := 33) hx hb dX4_hasBoth_29 (by decide) ?_
      exact rt_z hx hb hr hlocks rfl hw dX4_hasBoth_33
abbrev Z_X4_cover (D : va_G) (q : Nat → Nat) (cA : Nat → ClassId) (Fc_unkept : Int32) (Fc_tablesRead : Int32) (Pg_letters : Nat → Int32) (Pg_size : Int32) (Pg_fault : Int32) (Pg_rows : Int32) (Pg_inRow : Int32) (Pg_width : Int32) (Fl_entries : Nat → Int32) (Fl_states : Int32) (Fl_columns : Int32) (Fl_moves : Int32) (Fl_stables : Int32) (Fl_amiss : Int32) (Fl_normal : Int32) (Pt_lessers : Nat → Int32) (Pt_greaters : Nat → Int32) (Pt_size : Int32) (Lc_signals : Nat → Int32) (Lc_kept : Nat → Int64) (Lc_keptFrom : Nat → Int64) (Lc_candidates : Int32) (Lc_size : Int32) (Sc_signals : Nat → Int32) (Sc_codes : Nat → Int32) (Sc_size : Int32) (Ai_codes : Nat → Int32) (Ai_bits : Int32) (Cu_seen : Nat → Int32) (Cu_inThrees : Nat → Int32) (Cu_all : Int32) (Lo_asked : Nat → Nat → Int32) (lo_asked : Nat → Int32) (Lo_ones : Nat → Nat → Int32) (lo_ones : Nat → Int32) (Lo_sum : Nat → Nat → Int32) (Lo_wideSize : Nat → Int32) (lo_wideSize : Int32) (Lo_sumSize : Nat → Int32) (Lo_flickers : Nat → Int32) (lo_flickers : Int32) (Lo_ready : Nat → Int32) (lo_ready : Int32) (Wa_at : Int32) (Wa_turns : Int32) (Wa_changes : Int32) (k : Nat) (post : (Nat → Int32) → Int32 → Prop) : State → Prop := fun t => ∃ (y_lo_sum : Nat → Int32) (y_lo_sumSize : Int32), post y_lo_sum y_lo_sumSize ∧ va_P D vwCl (wC q cA Fc_unkept Fc_tablesRead Pg_letters Pg_size Pg_fault Pg_rows Pg_inRow Pg_width Fl_entries Fl_states Fl_columns Fl_moves Fl_stables Fl_amiss Fl_normal Pt_lessers Pt_greaters Pt_size Lc_signals Lc_kept Lc_keptFrom Lc_candidates Lc_size Sc_signals Sc_codes Sc_size Ai_codes Ai_bits Cu_seen Cu_inThrees Cu_all (va_up Lo_asked k lo_asked) (va_up Lo_ones k lo_ones) (va_up Lo_sum k y_lo_sum) (va_up Lo_wideSize k lo_wideSize) (va_up Lo_sumSize k y_lo_sumSize) (va_up Lo_flickers k lo_flickers) (va_up Lo_ready k lo_ready) Wa_at Wa_turns Wa_changes) t.heap
set_option maxHeartbeats 4000000 in
set_option maxRecDepth 100000 in
theorem t_X4_cover_2 {p : Program} {l : Launch} {e : Env} {R : Room} {s : State} {m : MethodId} {args : Array Value} {below : List Frame} {meth : Method} {c : Code} {A : Nat → Prop} {D : va_G} {q : Nat → Nat} {cA : Nat → ClassId} {Fc_unkept : Int32} {Fc_tablesRead : Int32} {Pg_letters : Nat → Int32} {Pg_size : Int32} {Pg_fault : Int32} {Pg_rows : Int32} {Pg_inRow : Int32} {Pg_width : Int32} {Fl_entries : Nat → Int32} {Fl_states : Int32} {Fl_columns : Int32} {Fl_moves : Int32} {Fl_stables : Int32} {Fl_amiss : Int32} {Fl_normal : Int32} {Pt_lessers : Nat → Int32} {Pt_greaters : Nat → Int32} {Pt_size : Int32} {Lc_signals : Nat → Int32} {Lc_kept : Nat → Int64} {Lc_keptFrom : Nat → Int64} {Lc_candidates : Int32} {Lc_size : Int32} {Sc_signals : Nat → Int32} {Sc_codes : Nat → Int32} {Sc_size : Int32} {Ai_codes : Nat → Int32} {Ai_bits : Int32} {Cu_seen : Nat → Int32} {Cu_inThrees : Nat → Int32} {Cu_all : Int32} {Lo_asked : Nat → Nat → Int32} {lo_asked : Nat → Int32} {Lo_ones : Nat → Nat → Int32} {lo_ones : Nat → Int32} {Lo_sum : Nat → Nat → Int32} {lo_sum : Nat → Int32} {Lo_wideSize : Nat → Int32} {lo_wideSize : Int32} {Lo_sumSize : Nat → Int32} {lo_sumSize : Int32} {Lo_flickers : Nat → Int32} {lo_flickers : Int32} {Lo_ready : Nat → Int32} {lo_ready : Int32} {Wa_at : Int32} {Wa_turns : Int32} {Wa_changes : Int32} {k : Nat} {post : (Nat → Int32) → Int32 → Prop} {KE : Prop} {x1 : Int32} {x2 : Int32} (hk : k < 5) (X : kC p R s m args meth c cX4_cover RX4 6 none 1) (hK : va_K D vwCl (tyC cA) s) (hN : nwC s) (hE : KE → ∀ (ls : Array Slot) (H : Heap) (locs : List Loc), lv_has ls 6 [(0, .ref (q (22 + 4 * k))), (1, .int x1), (2, .int x2)] → va_P D vwCl (wC q cA Fc_unkept Fc_tablesRead Pg_letters Pg_size Pg_fault Pg_rows Pg_inRow Pg_width Fl_entries Fl_states Fl_columns Fl_moves Fl_stables Fl_amiss Fl_normal Pt_lessers Pt_greaters Pt_size Lc_signals Lc_kept Lc_keptFrom Lc_candidates Lc_size Sc_signals Sc_codes Sc_size Ai_codes Ai_bits Cu_seen Cu_inThrees Cu_all (va_up Lo_asked k lo_asked) (va_up Lo_ones k lo_ones) (va_up Lo_sum k lo_sum) (va_up Lo_wideSize k lo_wideSize) (va_up Lo_sumSize k lo_sumSize) (va_up Lo_flickers k lo_flickers) (va_up Lo_ready k lo_ready) Wa_at Wa_turns Wa_changes) H → va_D A (wC q cA Fc_unkept Fc_tablesRead Pg_letters Pg_size Pg_fault Pg_rows Pg_inRow Pg_width Fl_entries Fl_states Fl_columns Fl_moves Fl_stables Fl_amiss Fl_normal Pt_lessers Pt_greaters Pt_size Lc_signals Lc_kept Lc_keptFrom Lc_candidates Lc_size Sc_signals Sc_codes Sc_size Ai_codes Ai_bits Cu_seen Cu_inThrees Cu_all (va_up Lo_asked k lo_asked) (va_up Lo_ones k lo_ones) (va_up Lo_sum k lo_sum) (va_up Lo_wideSize k lo_wideSize) (va_up Lo_sumSize k lo_sumSize) (va_up Lo_flickers k lo_flickers) (va_up Lo_ready k lo_ready) Wa_at Wa_turns Wa_changes) → va_S A s.heap H locs → W p l e R s m args below meth c H locs 0 0 (MQ below (qWv (Z_X4_cover D q cA Fc_unkept Fc_tablesRead Pg_letters Pg_size Pg_fault Pg_rows Pg_inRow Pg_width Fl_entries Fl_states Fl_columns Fl_moves Fl_stables Fl_amiss Fl_normal Pt_lessers Pt_greaters Pt_size Lc_signals Lc_kept Lc_keptFrom Lc_candidates Lc_size Sc_signals Sc_codes Sc_size Ai_codes Ai_bits Cu_seen Cu_inThrees Cu_all Lo_asked lo_asked Lo_ones lo_ones Lo_sum Lo_wideSize lo_wideSize Lo_sumSize Lo_flickers lo_flickers Lo_ready lo_ready Wa_at Wa_turns Wa_changes k post) A) args s 0 0 A) (F0 m 32 ls [])) : ∀ (n : Nat) (x3 : Int32), w_X4_cover_2 post KE lo_asked lo_ones lo_sum lo_sumSize x1 x2 n x3 → ∀ (ls : Array Slot) (H : Heap) (locs : List Loc), lv_has ls 6 [(0, .ref (q (22 + 4 * k))), (1, .int x1), (2, .int x2), (3, .int x3)] → va_P D vwCl (wC q cA Fc_unkept Fc_tablesRead Pg_letters Pg_size Pg_fault Pg_rows Pg_inRow Pg_width Fl_entries Fl_states Fl_columns Fl_moves Fl_stables Fl_amiss Fl_normal Pt_lessers Pt_greaters Pt_size Lc_signals Lc_kept Lc_keptFrom Lc_candidates Lc_size Sc_signals Sc_codes Sc_size Ai_codes Ai_bits Cu_seen Cu_inThrees Cu_all (va_up Lo_asked k lo_asked) (va_up Lo_ones k lo_ones) (va_up Lo_sum k lo_sum) (va_up Lo_wideSize k lo_wideSize) (va_up Lo_sumSize k lo_sumSize) (va_up Lo_flickers k lo_flickers) (va_up Lo_ready k lo_ready) Wa_at Wa_turns Wa_changes) H → va_D A (wC q cA Fc_unkept Fc_tablesRead Pg_letters Pg_size Pg_fault Pg_rows Pg_inRow Pg_width Fl_entries Fl_states Fl_columns Fl_moves Fl_stables Fl_amiss Fl_normal Pt_lessers Pt_greaters Pt_size Lc_signals Lc_kept Lc_keptFrom Lc_candidates Lc_size Sc_signals Sc_codes Sc_size Ai_codes Ai_bits Cu_seen Cu_inThrees Cu_all (va_up Lo_asked k lo_asked) (va_up Lo_ones k lo_ones) (va_up Lo_sum k lo_sum) (va_up Lo_wideSize k lo_wideSize) (va_up Lo_sumSize k lo_sumSize) (va_up Lo_flickers k lo_flickers) (va_up Lo_ready k lo_ready) Wa_at Wa_turns Wa_changes) → va_S A s.heap H locs → W p l e R s m args below meth c H locs 0 0 (MQ below (qWv (Z_X4_cover D q cA Fc_unkept Fc_tablesRead Pg_letters Pg_size Pg_fault Pg_rows Pg_inRow Pg_width Fl_entries Fl_states Fl_columns Fl_moves Fl_stables Fl_amiss Fl_normal Pt_lessers Pt_greaters Pt_size Lc_signals Lc_kept Lc_keptFrom Lc_candidates Lc_size Sc_signals Sc_codes Sc_size Ai_codes Ai_bits Cu_seen Cu_inThrees Cu_all Lo_asked lo_asked Lo_ones lo_ones Lo_sum Lo_wideSize lo_wideSize Lo_sumSize Lo_flickers lo_flickers Lo_ready lo_ready Wa_at Wa_turns Wa_changes k post) A) args s 0 0 A) (F0 m 2 ls []) := by
  obtain ⟨hx, hb, hml, hown, hts, hr, hlocks, hRf, hRl⟩ := id X
  intro n
  induction n with
  | zero => intro x3 hw; exact (show False from hw).elim
  | succ n ih =>
    intro x3 hw ls H locs hl hP hD hS
    refine lv_iload_n hx hb dX4_cover_2 rfl (lv_at hl 3 rfl) ?_
    refine lv_aload_n hx hb dX4_cover_3 rfl (lv_at hl 0 rfl) ?_
    refine gRX4_40 (k := k) hk hx hb hown hts hK hP dX4_cover_4 ?_
    rw [show va_up Lo_sumSize k lo_sumSize k = lo_sumSize from by simp [va_up]]
    refine lv_icmp_ge (tgt := 32) hx hb dX4_cover_7 (by decide) (fun c_1 => ?_) (fun c_1 => ?_)
    · have hw := hw.1 c_1
      exact hE hw ls _ _ (lv_sub hl [0, 1, 2] rfl) hP hD hS
    · have hw := hw.2 c_1
      refine lv_aload_n hx hb dX4_cover_10 rfl (lv_at hl 0 rfl) ?_
      refine lv_aload_n hx hb dX4_cover_11 rfl (lv_at hl 0 rfl) ?_
      refine gRX4_18 (k := k) hk hx hb hown hts hK hP dX4_cover_12 ?_
      refine lv_iload_n hx hb dX4_cover_15 rfl (lv_at hl 3 rfl) ?_
      have h_2 := hw.1
      have hw := hw.2
      refine ld_Lo_sum (k := k) hk hx hb hK hP h_2 dX4_cover_16 ?_
      rw [show va_up Lo_sum k lo_sum k = lo_sum from by simp [va_up]]
      refine lv_iload_n hx hb dX4_cover_17 rfl (lv_at hl 1 rfl) ?_
      refine lv_iload_n hx hb dX4_cover_18 rfl (lv_at hl 2 rfl) ?_
      refine ro_i (va_runV (As := [.int (lo_sum x3.toNatClampNeg), .int x1, .int x2]) (rest := []) ⟨hx, hb, hml, hown, hts⟩ (c_X4_hasBoth l (k := k) hk hw) (kRX4_63 (h := 0) hts (Nat.le_trans (Nat.le_of_ble_eq_true rfl) hRf) (Nat.le_trans (Nat.le_of_ble_eq_true rfl) hRl)) (preX4 (k := k) hk hK hN hP) rfl rfl hl.1 rfl (lv_room (Nat.le_of_ble_eq_true rfl)) dX4_cover_19 ⟨Nat.zero_le _, Nat.zero_le _⟩) (fun r_3 hw => ?_)
      refine lv_if_eq (tgt := 26) hx hb dX4_cover_22 (by decide) (fun c_4 => ?_) (fun c_4 => ?_)
      · have hw := hw.1 c_4
        obtain ⟨x3_5, e_5⟩ : ∃ z : Int32, z = x3 + (1 : Int32) := ⟨_, rfl⟩
        have hw := hw x3_5 e_5
        refine lv_iinc (v := x3_5) (lv' := [(3, .int x3_5), (0, .ref (q (22 + 4 * k))), (1, .int x1), (2, .int x2)]) hx hb dX4_cover_26 hl (k := 3) rfl (by rw [e_5]; rfl) (by decide) rfl (fun ls hl => ?_)
        refine lv_goto (tgt := 2) hx hb dX4_cover_29 (by decide) ?_
        exact ih _ hw ls _ _ (lv_sub hl [1, 2, 3, 0] rfl) hP hD hS
      · have hw := hw.2 c_4
        exact rw_v hx hb hr hlocks (fun t ht => ⟨lo_sum, lo_sumSize, hw, by rw [ht]; exact hP⟩) hS dX4_cover_25
set_option maxHeartbeats 4000000 in
set_option maxRecDepth 100000 in
theorem t_X4_cover_41 {p : Program} {l : Launch} {e : Env} {R : Room} {s : State} {m : MethodId} {args : Array Value} {below : List Frame} {meth : Method} {c : Code} {A : Nat → Prop} {D : va_G} {q : Nat → Nat} {cA : Nat → ClassId} {Fc_unkept : Int32} {Fc_tablesRead : Int32} {Pg_letters : Nat → Int32} {Pg_size : Int32} {Pg_fault : Int32} {Pg_rows : Int32} {Pg_inRow : Int32} {Pg_width : Int32} {Fl_entries : Nat → Int32} {Fl_states : Int32} {Fl_columns : Int32} {Fl_moves : Int32} {Fl_stables : Int32} {Fl_amiss : Int32} {Fl_normal : Int32} {Pt_lessers : Nat → Int32} {Pt_greaters : Nat → Int32} {Pt_size : Int32} {Lc_signals : Nat → Int32} {Lc_kept : Nat → Int64} {Lc_keptFrom : Nat → Int64} {Lc_candidates : Int32} {Lc_size : Int32} {Sc_signals : Nat → Int32} {Sc_codes : Nat → Int32} {Sc_size : Int32} {Ai_codes : Nat → Int32} {Ai_bits : Int32} {Cu_seen : Nat → Int32} {Cu_inThrees : Nat → Int32} {Cu_all : Int32} {Lo_asked : Nat → Nat → Int32} {lo_asked : Nat → Int32} {Lo_ones : Nat → Nat → Int32} {lo_ones : Nat → Int32} {Lo_sum : Nat → Nat → Int32} {lo_sum : Nat → Int32} {Lo_wideSize : Nat → Int32} {lo_wideSize : Int32} {Lo_sumSize : Nat → Int32} {lo_sumSize : Int32} {Lo_flickers : Nat → Int32} {lo_flickers : Int32} {Lo_ready : Nat → Int32} {lo_ready : Int32} {Wa_at : Int32} {Wa_turns : Int32} {Wa_changes : Int32} {k : Nat} {post : (Nat → Int32) → Int32 → Prop} {KE : Int32 → Prop} {x1 : Int32} {x2 : Int32} (hk : k < 5) (X : kC p R s m args meth c cX4_cover RX4 6 none 1) (hK : va_K D vwCl (tyC cA) s) (hN : nwC s) (hE : ∀ (x3 : Int32), KE x3 → ∀ (ls : Array Slot) (H : Heap) (locs : List Loc), lv_has ls 6 [(0, .ref (q (22 + 4 * k))), (3, .int x3)] → va_P D vwCl (wC q cA Fc_unkept Fc_tablesRead Pg_letters Pg_size Pg_fault Pg_rows Pg_inRow Pg_width Fl_entries Fl_states Fl_columns Fl_moves Fl_stables Fl_amiss Fl_normal Pt_lessers Pt_greaters Pt_size Lc_signals Lc_kept Lc_keptFrom Lc_candidates Lc_size Sc_signals Sc_codes Sc_size Ai_codes Ai_bits Cu_seen Cu_inThrees Cu_all (va_up Lo_asked k lo_asked) (va_up Lo_ones k lo_ones) (va_up Lo_sum k lo_sum) (va_up Lo_wideSize k lo_wideSize) (va_up Lo_sumSize k lo_sumSize) (va_up Lo_flickers k lo_flickers) (va_up Lo_ready k lo_ready) Wa_at Wa_turns Wa_changes) H → va_D A (wC q cA Fc_unkept Fc_tablesRead Pg_letters Pg_size Pg_fault Pg_rows Pg_inRow Pg_width Fl_entries Fl_states Fl_columns Fl_moves Fl_stables Fl_amiss Fl_normal Pt_lessers Pt_greaters Pt_size Lc_signals Lc_kept Lc_keptFrom Lc_candidates Lc_size Sc_signals Sc_codes Sc_size Ai_codes Ai_bits Cu_seen Cu_inThrees Cu_all (va_up Lo_asked k lo_asked) (va_up Lo_ones k lo_ones) (va_up Lo_sum k lo_sum) (va_up Lo_wideSize k lo_wideSize) (va_up Lo_sumSize k lo_sumSize) (va_up Lo_flickers k lo_flickers) (va_up Lo_ready k lo_ready) Wa_at Wa_turns Wa_changes) → va_S A s.heap H locs → W p l e R s m args below meth c H locs 0 0 (MQ below (qWv (Z_X4_cover D q cA Fc_unkept Fc_tablesRead Pg_letters Pg_size Pg_fault Pg_rows Pg_inRow Pg_width Fl_entries Fl_states Fl_columns Fl_moves Fl_stables Fl_amiss Fl_normal Pt_lessers Pt_greaters Pt_size Lc_signals Lc_kept Lc_keptFrom Lc_candidates Lc_size Sc_signals Sc_codes Sc_size Ai_codes Ai_bits Cu_seen Cu_inThrees Cu_all Lo_asked lo_asked Lo_ones lo_ones Lo_sum Lo_wideSize lo_wideSize Lo_sumSize Lo_flickers lo_flickers Lo_ready lo_ready Wa_at Wa_turns Wa_changes k post) A) args s 0 0 A) (F0 m 97 ls [])) : ∀ (n : Nat) (x3 : Int32) (x4 : Int32) (x5 : Int32), w_X4_cover_41 KE lo_asked lo_ones lo_wideSize x1 x2 n x3 x4 x5 → ∀ (ls : Array Slot) (H : Heap) (locs : List Loc), lv_has ls 6 [(0, .ref (q (22 + 4 * k))), (1, .int x1), (2, .int x2), (3, .int x3), (4, .int x4), (5, .int x5)] → va_P D vwCl (wC q cA Fc_unkept Fc_tablesRead Pg_letters Pg_size Pg_fault Pg_rows Pg_inRow Pg_width Fl_entries Fl_states Fl_columns Fl_moves Fl_stables Fl_amiss Fl_normal Pt_lessers Pt_greaters Pt_size Lc_signals Lc_kept Lc_keptFrom Lc_candidates Lc_size Sc_signals Sc_codes Sc_size Ai_codes Ai_bits Cu_seen Cu_inThrees Cu_all (va_up Lo_asked k lo_asked) (va_up Lo_ones k lo_ones) (va_up Lo_sum k lo_sum) (va_up Lo_wideSize k lo_wideSize) (va_up Lo_sumSize k lo_sumSize) (va_up Lo_flickers k lo_flickers) (va_up Lo_ready k lo_ready) Wa_at Wa_turns Wa_changes) H → va_D A (wC q cA Fc_unkept Fc_tablesRead Pg_letters Pg_size Pg_fault Pg_rows Pg_inRow Pg_width Fl_entries Fl_states Fl_columns Fl_moves Fl_stables Fl_amiss Fl_normal Pt_lessers Pt_greaters Pt_size Lc_signals Lc_kept Lc_keptFrom Lc_candidates Lc_size Sc_signals Sc_codes Sc_size Ai_codes Ai_bits Cu_seen Cu_inThrees Cu_all (va_up Lo_asked k lo_asked) (va_up Lo_ones k lo_ones) (va_up Lo_sum k lo_sum) (va_up Lo_wideSize k lo_wideSize) (va_up Lo_sumSize k lo_sumSize) (va_up Lo_flickers k lo_flickers) (va_up Lo_ready k lo_ready) Wa_at Wa_turns Wa_changes) → va_S A s.heap H locs → W p l e R s m args below meth c H locs 0 0 (MQ below (qWv (Z_X4_cover D q cA Fc_unkept Fc_tablesRead Pg_letters Pg_size Pg_fault Pg_rows Pg_inRow Pg_width Fl_entries Fl_states Fl_columns Fl_moves Fl_stables Fl_amiss Fl_normal Pt_lessers Pt_greaters Pt_size Lc_signals Lc_kept Lc_keptFrom Lc_candidates Lc_size Sc_signals Sc_codes Sc_size Ai_codes Ai_bits Cu_seen Cu_inThrees Cu_all Lo_asked lo_asked Lo_ones lo_ones Lo_sum Lo_wideSize lo_wideSize Lo_sumSize Lo_flickers lo_flickers Lo_ready lo_ready Wa_at Wa_turns Wa_changes k post) A) args s 0 0 A) (F0 m 41 ls []) := by
  obtain ⟨hx, hb, hml, hown, hts, hr, hlocks, hRf, hRl⟩ := id X
  intro n
  induction n with
  | zero => intro x3 x4 x5 hw; exact (show False from hw).elim
  | succ n ih =>
    intro x3 x4 x5 hw ls H locs hl hP hD hS
    refine lv_iload hx hb dX4_cover_41 (lv_at hl 5 rfl) ?_
    refine lv_aload_n hx hb dX4_cover_43 rfl (lv_at hl 0 rfl) ?_
    refine gRX4_21 (k := k) hk hx hb hown hts hK hP dX4_cover_44 ?_
    rw [show va_up Lo_wideSize k lo_wideSize k = lo_wideSize from by simp [va_up]]
    refine lv_icmp_ge (tgt := 97) hx hb dX4_cover_47 (by decide) (fun c_7 => ?_) (fun c_7 => ?_)
    · have hw := hw.1 c_7
      exact hE _ hw ls _ _ (lv_sub hl [0, 3] rfl) hP hD hS
    · have hw := hw.2 c_7
      refine lv_aload_n hx hb dX4_cover_50 rfl (lv_at hl 0 rfl) ?_
      refine lv_iload hx hb dX4_cover_51 (lv_at hl 5 rfl) ?_
      refine lv_iload_n hx hb dX4_cover_53 rfl (lv_at hl 1 rfl) ?_
      refine lv_iload_n hx hb dX4_cover_54 rfl (lv_at hl 2 rfl) ?_
      refine ro_i (va_runV (As := [.int x5, .int x1, .int x2]) (rest := []) ⟨hx, hb, hml, hown, hts⟩ (c_X4_hasBoth l (k := k) hk hw) (kRX4_63 (h := 0) hts (Nat.le_trans (Nat.le_of_ble_eq_true rfl) hRf) (Nat.le_trans (Nat.le_of_ble_eq_true rfl) hRl)) (preX4 (k := k) hk hK hN hP) rfl rfl hl.1 rfl (lv_room (Nat.le_of_ble_eq_true rfl)) dX4_cover_55 ⟨Nat.zero_le _, Nat.zero_le _⟩) (fun r_8 hw => ?_)
      refine lv_if_eq (tgt := 91) hx hb dX4_cover_58 (by decide) (fun c_9 => ?_) (fun c_9 => ?_)
      · have hw := hw.1 c_9
        obtain ⟨x5_10, e_10⟩ : ∃ z : Int32, z = x5 + (1 : Int32) := ⟨_, rfl⟩
        have hw := hw x5_10 e_10
        refine lv_iinc (v := x5_10) (lv' := [(5, .int x5_10), (0, .ref (q (22 + 4 * k))), (1, .int x1), (2, .int x2), (3, .int x3), (4, .int x4)]) hx hb dX4_cover_91 hl (k := 5) rfl (by rw [e_10]; rfl) (by decide) rfl (fun ls hl => ?_)
        refine lv_goto (tgt := 41) hx hb dX4_cover_94 (by decide) ?_
        exact ih _ _ _ hw ls _ _ (lv_sub hl [1, 2, 3, 4, 5, 0] rfl) hP hD hS
      · have hw := hw.2 c_9
        refine lv_aload_n hx hb dX4_cover_61 rfl (lv_at hl 0 rfl) ?_
        refine gRX4_11 (k := k) hk hx hb hown hts hK hP dX4_cover_62 ?_
        refine lv_iload hx hb dX4_cover_65 (lv_at hl 5 rfl) ?_
        have h_11 := hw.1
        have hw := hw.2
        refine ld_Lo_asked (k := k) hk hx hb hK hP h_11 dX4_cover_67 ?_
        rw [show va_up Lo_asked k lo_asked k = lo_asked from by simp [va_up]]
        refine ro_i (va_runS (As := [.int (lo_asked x5.toNatClampNeg)]) (rest := []) ⟨hx, hb, hml, hown, hts⟩ (c_J6_bitCount l hw) (kRX4_30 (h := 0) hts (Nat.le_trans (Nat.le_of_ble_eq_true rfl) hRf) (Nat.le_trans (Nat.le_of_ble_eq_true rfl) hRl)) pre_0 rfl rfl hl.1 rfl (lv_room (Nat.le_of_ble_eq_true rfl)) dX4_cover_68 ⟨Nat.zero_le _, Nat.zero_le _⟩) (fun r_12 hw => ?_)
        refine lv_iload hx hb dX4_cover_71 (lv_at hl 4 rfl) ?_
        refine lv_icmp_ge (tgt := 91) hx hb dX4_cover_73 (by decide) (fun c_13 => ?_) (fun c_13 => ?_)
        · have hw := hw.1 c_13
          obtain ⟨x5_14, e_14⟩ : ∃ z : Int32, z = x5 + (1 : Int32) := ⟨_, rfl⟩
          have hw := hw x5_14 e_14
          refine lv_iinc (v := x5_14) (lv' := [(5, .int x5_14), (0, .ref (q (22 + 4 * k))), (1, .int x1), (2, .int x2), (3, .int x3), (4, .int x4)]) hx hb dX4_cover_91 hl (k := 5) rfl (by rw [e_14]; rfl) (by decide) rfl (fun ls hl => ?_)
          refine lv_goto (tgt := 41) hx hb dX4_cover_94 (by decide) ?_
          exact ih _ _ _ hw ls _ _ (lv_sub hl [1, 2, 3, 4, 5, 0] rfl) hP hD hS
        · have hw := hw.2 c_13
          refine lv_iload hx hb dX4_cover_76 (lv_at hl 5 rfl) ?_
          refine lv_istore_n (lv' := [(3, .int x5), (0, .ref (q (22 + 4 * k))), (1, .int x1), (2, .int x2), (4, .int x4), (5, .int x5)]) hx hb dX4_cover_78 rfl hl (by decide) rfl (fun ls hl => ?_)
          refine lv_aload_n hx hb dX4_cover_79 rfl (lv_at hl 1 rfl) ?_
          refine gRX4_11 (k := k) hk hx hb hown hts hK hP dX4_cover_80 ?_
          refine lv_iload hx hb dX4_cover_83 (lv_at hl 5 rfl) ?_
          have h_15 := hw.1
          have hw := hw.2
          refine ld_Lo_asked (k := k) hk hx hb hK hP h_15 dX4_cover_85 ?_
          rw [show va_up Lo_asked k lo_asked k = lo_asked from by simp [va_up]]
          refine ro_i (va_runS (As := [.int (lo_asked x5.toNatClampNeg)]) (rest := []) ⟨hx, hb, hml, hown, hts⟩ (c_J6_bitCount l hw) (kRX4_30 (h := 0) hts (Nat.le_trans (Nat.le_of_ble_eq_true rfl) hRf) (Nat.le_trans (Nat.le_of_ble_eq_true rfl) hRl)) pre_0 rfl rfl hl.1 rfl (lv_room (Nat.le_of_ble_eq_true rfl)) dX4_cover_86 ⟨Nat.zero_le _, Nat.zero_le _⟩) (fun r_16 hw => ?_)
          refine lv_istore (lv' := [(4, .int r_16), (3, .int x5), (0, .ref (q (22 + 4 * k))), (1, .int x1), (2, .int x2), (5, .int x5)]) hx hb dX4_cover_89 hl (by decide) rfl (fun ls hl => ?_)
          obtain ⟨x5_17, e_17⟩ : ∃ z : Int32, z = x5 + (1 : Int32) := ⟨_, rfl⟩
          have hw := hw x5_17 e_17
          refine lv_iinc (v := x5_17) (lv' := [(5, .int x5_17), (4, .int r_16), (3, .int x5), (0, .ref (q (22 + 4 * k))), (1, .int x1), (2, .int x2)]) hx hb dX4_cover_91 hl (k := 5) rfl (by rw [e_17]; rfl) (by decide) rfl (fun ls hl => ?_)
          refine lv_goto (tgt := 41) hx hb dX4_cover_94 (by decide) ?_
          exact ih _ _ _ hw ls _ _ (lv_sub hl [3, 4, 5, 2, 1, 0] rfl) hP hD hS
set_option maxHeartbeats 4000000 in
set_option maxRecDepth 100000 in
theorem c_X4_cover (l : Launch) {D : va_G} {q : Nat → Nat} {cA : Nat → ClassId} {Fc_unkept : Int32} {Fc_tablesRead : Int32} {Pg_letters : Nat → Int32} {Pg_size : Int32} {Pg_fault : Int32} {Pg_rows : Int32} {Pg_inRow : Int32} {Pg_width : Int32} {Fl_entries : Nat → Int32} {Fl_states : Int32} {Fl_columns : Int32} {Fl_moves : Int32} {Fl_stables : Int32} {Fl_amiss : Int32} {Fl_normal : Int32} {Pt_lessers : Nat → Int32} {Pt_greaters : Nat → Int32} {Pt_size : Int32} {Lc_signals : Nat → Int32} {Lc_kept : Nat → Int64} {Lc_keptFrom : Nat → Int64} {Lc_candidates : Int32} {Lc_size : Int32} {Sc_signals : Nat → Int32} {Sc_codes : Nat → Int32} {Sc_size : Int32} {Ai_codes : Nat → Int32} {Ai_bits : Int32} {Cu_seen : Nat → Int32} {Cu_inThrees : Nat → Int32} {Cu_all : Int32} {Lo_asked : Nat → Nat → Int32} {lo_asked : Nat → Int32} {Lo_ones : Nat → Nat → Int32} {lo_ones : Nat → Int32} {Lo_sum : Nat → Nat → Int32} {lo_sum : Nat → Int32} {Lo_wideSize : Nat → Int32} {lo_wideSize : Int32} {Lo_sumSize : Nat → Int32} {lo_sumSize : Int32} {Lo_flickers : Nat → Int32} {lo_flickers : Int32} {Lo_ready : Nat → Int32} {lo_ready : Int32} {Wa_at : Int32} {Wa_turns : Int32} {Wa_changes : Int32} {k : Nat} {A : Nat → Prop} {post : (Nat → Int32) → Int32 → Prop} {x1 : Int32} {x2 : Int32} (hk : k < 5) (hw : wp_X4_cover post lo_asked lo_ones lo_sum lo_wideSize lo_sumSize x1 x2) : Met l yX4_cover (Cond.code yX4_cover cX4_cover 6 none :: wsL_law) (rmH 1) (va_Pc [.ref (q (22 + 4 * k)), .int x1, .int x2] (fun U => va_P D vwCl (wC q cA Fc_unkept Fc_tablesRead Pg_letters Pg_size Pg_fault Pg_rows Pg_inRow Pg_width Fl_entries Fl_states Fl_columns Fl_moves Fl_stables Fl_amiss Fl_normal Pt_lessers Pt_greaters Pt_size Lc_signals Lc_kept Lc_keptFrom Lc_candidates Lc_size Sc_signals Sc_codes Sc_size Ai_codes Ai_bits Cu_seen Cu_inThrees Cu_all (va_up Lo_asked k lo_asked) (va_up Lo_ones k lo_ones) (va_up Lo_sum k lo_sum) (va_up Lo_wideSize k lo_wideSize) (va_up Lo_sumSize k lo_sumSize) (va_up Lo_flickers k lo_flickers) (va_up Lo_ready k lo_ready) Wa_at Wa_turns Wa_changes) U.heap ∧ va_K D vwCl (tyC cA) U ∧ nwC U ∧ va_D A (wC q cA Fc_unkept Fc_tablesRead Pg_letters Pg_size Pg_fault Pg_rows Pg_inRow Pg_width Fl_entries Fl_states Fl_columns Fl_moves Fl_stables Fl_amiss Fl_normal Pt_lessers Pt_greaters Pt_size Lc_signals Lc_kept Lc_keptFrom Lc_candidates Lc_size Sc_signals Sc_codes Sc_size Ai_codes Ai_bits Cu_seen Cu_inThrees Cu_all (va_up Lo_asked k lo_asked) (va_up Lo_ones k lo_ones) (va_up Lo_sum k lo_sum) (va_up Lo_wideSize k lo_wideSize) (va_up Lo_sumSize k lo_sumSize) (va_up Lo_flickers k lo_flickers) (va_up Lo_ready k lo_ready) Wa_at Wa_turns Wa_changes))) (qWv (Z_X4_cover D q cA Fc_unkept Fc_tablesRead Pg_letters Pg_size Pg_fault Pg_rows Pg_inRow Pg_width Fl_entries Fl_states Fl_columns Fl_moves Fl_stables Fl_amiss Fl_normal Pt_lessers Pt_greaters Pt_size Lc_signals Lc_kept Lc_keptFrom Lc_candidates Lc_size Sc_signals Sc_codes Sc_size Ai_codes Ai_bits Cu_seen Cu_inThrees Cu_all Lo_asked lo_asked Lo_ones lo_ones Lo_sum Lo_wideSize lo_wideSize Lo_sumSize Lo_flickers lo_flickers Lo_ready lo_ready Wa_at Wa_turns Wa_changes k post) A) 0 0 A := by
  refine Met.ofW (cc := cX4_cover) (maxL := 6) (ret := none) (by decide) rfl ?_
  intro p e s m args below meth c s₁ B hml hv
  obtain ⟨rfl, hP, hK, hN, hD⟩ := hv
  have X : kC p (headSpec (Cond.code yX4_cover cX4_cover 6 none :: wsL_law) (rmH 1)).room s m _ meth c cX4_cover RX4 6 none 1 := ⟨B.exec, B.bytes, hml, findClass_of_methodNamed B.named, fun w h => atoms_spec (ws := Cond.code yX4_cover cX4_cover 6 none :: wsL_law) B.pre w (List.mem_cons_of_mem _ h), B.returns, B.notSynchronized, Nat.le_refl _, Nat.le_refl _⟩
  obtain ⟨hx, hb, hml, hown, hts, hr, hlocks, hRf, hRl⟩ := id X
  have hS : va_S A s.heap s.heap [] := va_S.rf
  have hl := lv_entry ([.ref (q (22 + 4 * k)), .int x1, .int x2]) (n := 6) (Nat.le_of_ble_eq_true rfl)
  rw [lg_entry_eq]
  generalize (lg_sl ([.ref (q (22 + 4 * k)), .int x1, .int x2]) ++ List.replicate (6 - (lg_sl ([.ref (q (22 + 4 * k)), .int x1, .int x2])).length) Slot.unset).toArray = ls at hl ⊢
  have hl : lv_has ls 6 [(0, .ref (q (22 + 4 * k))), (1, .int x1), (2, .int x2)] := hl
  refine lv_iconst (v := (0 : Int32)) hx hb dX4_cover_0 (by decide) ?_
  refine lv_istore_n (lv' := [(3, .int (0 : Int32)), (0, .ref (q (22 + 4 * k))), (1, .int x1), (2, .int x2)]) hx hb dX4_cover_1 rfl hl (by decide) rfl (fun ls hl => ?_)
  obtain ⟨n_6, hw⟩ := hw
  refine t_X4_cover_2 hk X hK hN (fun  hw ls H locs hl hP hD hS => ?_) n_6 _ hw ls _ _ (lv_sub hl [1, 2, 3, 0] rfl) hP hD hS
  refine lv_iconst (v := ((-1) : Int32)) hx hb dX4_cover_32 (by decide) ?_
  refine lv_istore_n (lv' := [(3, .int ((-1) : Int32)), (0, .ref (q (22 + 4 * k))), (1, .int x1), (2, .int x2)]) hx hb dX4_cover_33 rfl hl (by decide) rfl (fun ls hl => ?_)
  refine lv_bipush (v := (8 : Int32)) hx hb dX4_cover_34 (by decide +kernel) ?_
  refine lv_istore (lv' := [(4, .int (8 : Int32)), (3, .int ((-1) : Int32)), (0, .ref (q (22 + 4 * k))), (1, .int x1), (2, .int x2)]) hx hb dX4_cover_36 hl (by decide) rfl (fun ls hl => ?_)
  refine lv_iconst (v := (0 : Int32)) hx hb dX4_cover_38 (by decide) ?_
  refine lv_istore (lv' := [(5, .int (0 : Int32)), (4, .int (8 : Int32)), (3, .int ((-1) : Int32)), (0, .ref (q (22 + 4 * k))), (1, .int x1), (2, .int x2)]) hx hb dX4_cover_39 hl (by decide) rfl (fun ls hl => ?_)
  obtain ⟨n_18, hw⟩ := hw
  refine t_X4_cover_41 hk X hK hN (fun x3_18 hw ls H locs hl hP hD hS => ?_) n_18 _ _ _ hw ls _ _ (lv_sub hl [3, 4, 5, 2, 1, 0] rfl) hP hD hS
  refine lv_iload_n hx hb dX4_cover_97 rfl (lv_at hl 1 rfl) ?_
  refine lv_iconst (v := ((-1) : Int32)) hx hb dX4_cover_98 (by decide) ?_
  refine lv_icmp_eq (tgt := 132) hx hb dX4_cover_99 (by decide) (fun c_19 => ?_) (fun c_19 => ?_)
  · have hw := hw.1 c_19
    exact rw_v hx hb hr hlocks (fun t ht => ⟨lo_sum, lo_sumSize, hw, by rw [ht]; exact hP⟩) hS dX4_cover_132
  · have hw := hw.2 c_19
    refine lv_aload_n hx hb dX4_cover_102 rfl (lv_at hl 0 rfl) ?_
    refine gRX4_40 (k := k) hk hx hb hown hts hK hP dX4_cover_103 ?_
    rw [show va_up Lo_sumSize k lo_sumSize k = lo_sumSize from by simp [va_up]]
    refine lv_sipush (v := (672 : Int32)) hx hb dX4_cover_106 (by decide +kernel) ?_
    refine lv_icmp_ge (tgt := 132) hx hb dX4_cover_109 (by decide) (fun c_20 => ?_) (fun c_20 => ?_)
    · have hw := hw.1 c_20
      exact rw_v hx hb hr hlocks (fun t ht => ⟨lo_sum, lo_sumSize, hw, by rw [ht]; exact hP⟩) hS dX4_cover_132
    · have hw := hw.2 c_20
      refine lv_aload_n hx hb dX4_cover_112 rfl (lv_at hl 0 rfl) ?_
      refine gRX4_18 (k := k) hk hx hb hown hts hK hP dX4_cover_113 ?_
      refine lv_aload_n hx hb dX4_cover_116 rfl (lv_at hl 0 rfl) ?_
      refine gRX4_40 (k := k) hk hx hb hown hts hK hP dX4_cover_117 ?_
      rw [show va_up Lo_sumSize k lo_sumSize k = lo_sumSize from by simp [va_up]]
      refine lv_iload_n hx hb dX4_cover_120 rfl (lv_at hl 1 rfl) ?_
      have h_21 := hw.1
      have hw := hw.2
      refine st_Lo_sum (k := k) hk hx hb hK hP hD hS h_21 dX4_cover_121 (fun H locs a_21 e_21 hP hD hS => ?_)
      rw [show va_up Lo_sum k lo_sum k = lo_sum from by simp [va_up]] at e_21
      simp only [bx_uu] at hP hD
      have hw := hw a_21 e_21
      refine lv_aload_n hx hb dX4_cover_122 rfl (lv_at hl 0 rfl) ?_
      refine lv_dup hx hb dX4_cover_123 rfl ?_
      refine gRX4_40 (k := k) hk hx hb hown hts hK hP dX4_cover_124 ?_
      rw [show va_up Lo_sumSize k lo_sumSize k = lo_sumSize from by simp [va_up]]
      refine lv_iconst (v := (1 : Int32)) hx hb dX4_cover_127 (by decide) ?_
      refine lv_iadd hx hb dX4_cover_128 ?_
      refine lv_topi (fun f_22 e_22 => ?_)
      have hw := hw f_22 e_22
      refine pRX4_40 (k := k) hk hx hb hown hts hK hP hD hS dX4_cover_129 (fun H locs hP hD hS => ?_)
      simp only [bx_uu] at hP hD
      exact rw_v hx hb hr hlocks (fun t ht => ⟨a_21, f_22, hw, by rw [ht]; exact hP⟩) hS dX4_cover_132
