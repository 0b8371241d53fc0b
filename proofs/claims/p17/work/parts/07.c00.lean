abbrev Z_X5_append (D : va_G) (q : Nat → Nat) (cA : Nat → ClassId) (Fc_unkept : Int32) (Fc_tablesRead : Int32) (Pg_fault : Int32) (Pg_rows : Int32) (Pg_inRow : Int32) (Pg_width : Int32) (Fl_entries : Nat → Int32) (Fl_states : Int32) (Fl_columns : Int32) (Fl_moves : Int32) (Fl_stables : Int32) (Fl_amiss : Int32) (Fl_normal : Int32) (Pt_lessers : Nat → Int32) (Pt_greaters : Nat → Int32) (Pt_size : Int32) (Lc_signals : Nat → Int32) (Lc_kept : Nat → Int64) (Lc_keptFrom : Nat → Int64) (Lc_candidates : Int32) (Lc_size : Int32) (Sc_signals : Nat → Int32) (Sc_codes : Nat → Int32) (Sc_size : Int32) (Ai_codes : Nat → Int32) (Ai_bits : Int32) (Cu_seen : Nat → Int32) (Cu_inThrees : Nat → Int32) (Cu_all : Int32) (Lo_asked : Nat → Nat → Int32) (Lo_ones : Nat → Nat → Int32) (Lo_sum : Nat → Nat → Int32) (Lo_wideSize : Nat → Int32) (Lo_sumSize : Nat → Int32) (Lo_flickers : Nat → Int32) (Lo_ready : Nat → Int32) (Wa_at : Int32) (Wa_turns : Int32) (Wa_changes : Int32) (post : Int32 → (Nat → Int32) → Int32 → Prop) : Int32 → State → Prop := fun r t => ∃ (y_Pg_letters : Nat → Int32) (y_Pg_size : Int32), post r y_Pg_letters y_Pg_size ∧ va_P D vwCl (wC q cA Fc_unkept Fc_tablesRead y_Pg_letters y_Pg_size Pg_fault Pg_rows Pg_inRow Pg_width Fl_entries Fl_states Fl_columns Fl_moves Fl_stables Fl_amiss Fl_normal Pt_lessers Pt_greaters Pt_size Lc_signals Lc_kept Lc_keptFrom Lc_candidates Lc_size Sc_signals Sc_codes Sc_size Ai_codes Ai_bits Cu_seen Cu_inThrees Cu_all Lo_asked Lo_ones Lo_sum Lo_wideSize Lo_sumSize Lo_flickers Lo_ready Wa_at Wa_turns Wa_changes) t.heap
set_option maxHeartbeats 4000000 in
set_option maxRecDepth 100000 in
theorem c_X5_append (l : Launch) {D : va_G} {q : Nat → Nat} {cA : Nat → ClassId} {Fc_unkept : Int32} {Fc_tablesRead : Int32} {Pg_letters : Nat → Int32} {Pg_size : Int32} {Pg_fault : Int32} {Pg_rows : Int32} {Pg_inRow : Int32} {Pg_width : Int32} {Fl_entries : Nat → Int32} {Fl_states : Int32} {Fl_columns : Int32} {Fl_moves : Int32} {Fl_stables : Int32} {Fl_amiss : Int32} {Fl_normal : Int32} {Pt_lessers : Nat → Int32} {Pt_greaters : Nat → Int32} {Pt_size : Int32} {Lc_signals : Nat → Int32} {Lc_kept : Nat → Int64} {Lc_keptFrom : Nat → Int64} {Lc_candidates : Int32} {Lc_size : Int32} {Sc_signals : Nat → Int32} {Sc_codes : Nat → Int32} {Sc_size : Int32} {Ai_codes : Nat → Int32} {Ai_bits : Int32} {Cu_seen : Nat → Int32} {Cu_inThrees : Nat → Int32} {Cu_all : Int32} {Lo_asked : Nat → Nat → Int32} {Lo_ones : Nat → Nat → Int32} {Lo_sum : Nat → Nat → Int32} {Lo_wideSize : Nat → Int32} {Lo_sumSize : Nat → Int32} {Lo_flickers : Nat → Int32} {Lo_ready : Nat → Int32} {Wa_at : Int32} {Wa_turns : Int32} {Wa_changes : Int32} {A : Nat → Prop} {post : Int32 → (Nat → Int32) → Int32 → Prop} {x1 : Int32} (hw : wp_X5_append post Pg_letters Pg_size x1) : Met l yX5_append (Cond.code yX5_append cX5_append 2 (some .boolean) :: wsL_law) (rmH 0) (va_Pc [.ref (q 1), .int x1] (fun U => va_P D vwCl (wC q cA Fc_unkept Fc_tablesRead Pg_letters Pg_size Pg_fault Pg_rows Pg_inRow Pg_width Fl_entries Fl_states Fl_columns Fl_moves Fl_stables Fl_amiss Fl_normal Pt_lessers Pt_greaters Pt_size Lc_signals Lc_kept Lc_keptFrom Lc_candidates Lc_size Sc_signals Sc_codes Sc_size Ai_codes Ai_bits Cu_seen Cu_inThrees Cu_all Lo_asked Lo_ones Lo_sum Lo_wideSize Lo_sumSize Lo_flickers Lo_ready Wa_at Wa_turns Wa_changes) U.heap ∧ va_K D vwCl (tyC cA) U ∧ nwC U ∧ va_D A (wC q cA Fc_unkept Fc_tablesRead Pg_letters Pg_size Pg_fault Pg_rows Pg_inRow Pg_width Fl_entries Fl_states Fl_columns Fl_moves Fl_stables Fl_amiss Fl_normal Pt_lessers Pt_greaters Pt_size Lc_signals Lc_kept Lc_keptFrom Lc_candidates Lc_size Sc_signals Sc_codes Sc_size Ai_codes Ai_bits Cu_seen Cu_inThrees Cu_all Lo_asked Lo_ones Lo_sum Lo_wideSize Lo_sumSize Lo_flickers Lo_ready Wa_at Wa_turns Wa_changes))) (qWi (Z_X5_append D q cA Fc_unkept Fc_tablesRead Pg_fault Pg_rows Pg_inRow Pg_width Fl_entries Fl_states Fl_columns Fl_moves Fl_stables Fl_amiss Fl_normal Pt_lessers Pt_greaters Pt_size Lc_signals Lc_kept Lc_keptFrom Lc_candidates Lc_size Sc_signals Sc_codes Sc_size Ai_codes Ai_bits Cu_seen Cu_inThrees Cu_all Lo_asked Lo_ones Lo_sum Lo_wideSize Lo_sumSize Lo_flickers Lo_ready Wa_at Wa_turns Wa_changes post) A) 0 0 A := by
  refine Met.ofW (cc := cX5_append) (maxL := 2) (ret := (some .boolean)) (by decide) rfl ?_
  intro p e s m args below meth c s₁ B hml hv
  obtain ⟨rfl, hP, hK, hN, hD⟩ := hv
  have X : kC p (headSpec (Cond.code yX5_append cX5_append 2 (some .boolean) :: wsL_law) (rmH 0)).room s m _ meth c cX5_append RX5 2 (some .boolean) 0 := ⟨B.exec, B.bytes, hml, findClass_of_methodNamed B.named, fun w h => atoms_spec (ws := Cond.code yX5_append cX5_append 2 (some .boolean) :: wsL_law) B.pre w (List.mem_cons_of_mem _ h), B.returns, B.notSynchronized, Nat.le_refl _, Nat.le_refl _⟩
  obtain ⟨hx, hb, hml, hown, hts, hr, hlocks, hRf, hRl⟩ := id X
  have hS : va_S A s.heap s.heap [] := va_S.rf
  have hl := lv_entry ([.ref (q 1), .int x1]) (n := 2) (Nat.le_of_ble_eq_true rfl)
  rw [lg_entry_eq]
  generalize (lg_sl ([.ref (q 1), .int x1]) ++ List.replicate (2 - (lg_sl ([.ref (q 1), .int x1])).length) Slot.unset).toArray = ls at hl ⊢
  have hl : lv_has ls 2 [(0, .ref (q 1)), (1, .int x1)] := hl
  refine lv_aload_n hx hb dX5_append_0 rfl (lv_at hl 0 rfl) ?_
  refine gRX5_15 hx hb hown hts hK hP dX5_append_1 ?_
  refine lv_bipush (v := (40 : Int32)) hx hb dX5_append_4 (by decide +kernel) ?_
  refine lv_icmp_lt (tgt := 11) hx hb dX5_append_6 (by decide) (fun c_1 => ?_) (fun c_1 => ?_)
  · have hw := hw.1 c_1
    refine lv_aload_n hx hb dX5_append_11 rfl (lv_at hl 0 rfl) ?_
    refine gRX5_9 hx hb hown hts hK hP dX5_append_12 ?_
    refine lv_aload_n hx hb dX5_append_15 rfl (lv_at hl 0 rfl) ?_
    refine gRX5_15 hx hb hown hts hK hP dX5_append_16 ?_
    refine lv_iload_n hx hb dX5_append_19 rfl (lv_at hl 1 rfl) ?_
    refine lv_i2c hx hb dX5_append_20 rfl ?_
    have h_2 := hw.1
    have hw := hw.2
    refine st_Pg_letters hx hb hK hP hD hS h_2 dX5_append_21 (fun H locs a_2 e_2 hP hD hS => ?_)
    have hw := hw a_2 e_2
    refine lv_aload_n hx hb dX5_append_22 rfl (lv_at hl 0 rfl) ?_
    refine lv_dup hx hb dX5_append_23 rfl ?_
    refine gRX5_15 hx hb hown hts hK hP dX5_append_24 ?_
    refine lv_iconst (v := (1 : Int32)) hx hb dX5_append_27 (by decide) ?_
    refine lv_iadd hx hb dX5_append_28 ?_
    refine lv_topi (fun f_3 e_3 => ?_)
    have hw := hw f_3 e_3
    refine pRX5_15 hx hb hown hts hK hP hD hS dX5_append_29 (fun H locs hP hD hS => ?_)
    refine lv_iconst (v := (1 : Int32)) hx hb dX5_append_32 (by decide) ?_
    exact rw_z hx hb hr hlocks rfl (fun t ht => ⟨a_2, f_3, hw, by rw [ht]; exact hP⟩) hS dX5_append_33
  · have hw := hw.2 c_1
    refine lv_iconst (v := (0 : Int32)) hx hb dX5_append_9 (by decide) ?_
    exact rw_z hx hb hr hlocks rfl (fun t ht => ⟨Pg_letters, Pg_size, hw, by rw [ht]; exact hP⟩) hS dX5_append_10
abbrev Z_X9_letter (D : va_G) (q : Nat → Nat) (cA : Nat → ClassId) (Fc_unkept : Int32) (Fc_tablesRead : Int32) (Pg_fault : Int32) (Pg_rows : Int32) (Pg_inRow : Int32) (Pg_width : Int32) (Fl_entries : Nat → Int32) (Fl_states : Int32) (Fl_columns : Int32) (Fl_moves : Int32) (Fl_stables : Int32) (Fl_amiss : Int32) (Fl_normal : Int32) (Pt_lessers : Nat → Int32) (Pt_greaters : Nat → Int32) (Pt_size : Int32) (Lc_signals : Nat → Int32) (Lc_kept : Nat → Int64) (Lc_keptFrom : Nat → Int64) (Lc_candidates : Int32) (Lc_size : Int32) (Sc_signals : Nat → Int32) (Sc_codes : Nat → Int32) (Sc_size : Int32) (Ai_codes : Nat → Int32) (Ai_bits : Int32) (Cu_seen : Nat → Int32) (Cu_inThrees : Nat → Int32) (Cu_all : Int32) (Lo_asked : Nat → Nat → Int32) (Lo_ones : Nat → Nat → Int32) (Lo_sum : Nat → Nat → Int32) (Lo_wideSize : Nat → Int32) (Lo_sumSize : Nat → Int32) (Lo_flickers : Nat → Int32) (Lo_ready : Nat → Int32) (Wa_at : Int32) (Wa_turns : Int32) (Wa_changes : Int32) (post : Int32 → (Nat → Int32) → Int32 → Prop) : Int32 → State → Prop := fun r t => ∃ (y_Pg_letters : Nat → Int32) (y_Pg_size : Int32), post r y_Pg_letters y_Pg_size ∧ va_P D vwCl (wC q cA Fc_unkept Fc_tablesRead y_Pg_letters y_Pg_size Pg_fault Pg_rows Pg_inRow Pg_width Fl_entries Fl_states Fl_columns Fl_moves Fl_stables Fl_amiss Fl_normal Pt_lessers Pt_greaters Pt_size Lc_signals Lc_kept Lc_keptFrom Lc_candidates Lc_size Sc_signals Sc_codes Sc_size Ai_codes Ai_bits Cu_seen Cu_inThrees Cu_all Lo_asked Lo_ones Lo_sum Lo_wideSize Lo_sumSize Lo_flickers Lo_ready Wa_at Wa_turns Wa_changes) t.heap
set_option maxHeartbeats 4000000 in
set_option maxRecDepth 100000 in
theorem c_X9_letter (l : Launch) {D : va_G} {q : Nat → Nat} {cA : Nat → ClassId} {Fc_unkept : Int32} {Fc_tablesRead : Int32} {Pg_letters : Nat → Int32} {Pg_size : Int32} {Pg_fault : Int32} {Pg_rows : Int32} {Pg_inRow : Int32} {Pg_width : Int32} {Fl_entries : Nat → Int32} {Fl_states : Int32} {Fl_columns : Int32} {Fl_moves : Int32} {Fl_stables : Int32} {Fl_amiss : Int32} {Fl_normal : Int32} {Pt_lessers : Nat → Int32} {Pt_greaters : Nat → Int32} {Pt_size : Int32} {Lc_signals : Nat → Int32} {Lc_kept : Nat → Int64} {Lc_keptFrom : Nat → Int64} {Lc_candidates : Int32} {Lc_size : Int32} {Sc_signals : Nat → Int32} {Sc_codes : Nat → Int32} {Sc_size : Int32} {Ai_codes : Nat → Int32} {Ai_bits : Int32} {Cu_seen : Nat → Int32} {Cu_inThrees : Nat → Int32} {Cu_all : Int32} {Lo_asked : Nat → Nat → Int32} {Lo_ones : Nat → Nat → Int32} {Lo_sum : Nat → Nat → Int32} {Lo_wideSize : Nat → Int32} {Lo_sumSize : Nat → Int32} {Lo_flickers : Nat → Int32} {Lo_ready : Nat → Int32} {Wa_at : Int32} {Wa_turns : Int32} {Wa_changes : Int32} {A : Nat → Prop} {post : Int32 → (Nat → Int32) → Int32 → Prop} {x1 : Int32} (hw : wp_X9_letter post Pg_letters Pg_size x1) : Met l yX9_letter (Cond.code yX9_letter cX9_letter 2 (some .int) :: wsL_law) (rmH 1) (va_Pc [.ref (q 0), .int x1] (fun U => va_P D vwCl (wC q cA Fc_unkept Fc_tablesRead Pg_letters Pg_size Pg_fault Pg_rows Pg_inRow Pg_width Fl_entries Fl_states Fl_columns Fl_moves Fl_stables Fl_amiss Fl_normal Pt_lessers Pt_greaters Pt_size Lc_signals Lc_kept Lc_keptFrom Lc_candidates Lc_size Sc_signals Sc_codes Sc_size Ai_codes Ai_bits Cu_seen Cu_inThrees Cu_all Lo_asked Lo_ones Lo_sum Lo_wideSize Lo_sumSize Lo_flickers Lo_ready Wa_at Wa_turns Wa_changes) U.heap ∧ va_K D vwCl (tyC cA) U ∧ nwC U ∧ va_D A (wC q cA Fc_unkept Fc_tablesRead Pg_letters Pg_size Pg_fault Pg_rows Pg_inRow Pg_width Fl_entries Fl_states Fl_columns Fl_moves Fl_stables Fl_amiss Fl_normal Pt_lessers Pt_greaters Pt_size Lc_signals Lc_kept Lc_keptFrom Lc_candidates Lc_size Sc_signals Sc_codes Sc_size Ai_codes Ai_bits Cu_seen Cu_inThrees Cu_all Lo_asked Lo_ones Lo_sum Lo_wideSize Lo_sumSize Lo_flickers Lo_ready Wa_at Wa_turns Wa_changes))) (qWi (Z_X9_letter D q cA Fc_unkept Fc_tablesRead Pg_fault Pg_rows Pg_inRow Pg_width Fl_entries Fl_states Fl_columns Fl_moves Fl_stables Fl_amiss Fl_normal Pt_lessers Pt_greaters Pt_size Lc_signals Lc_kept Lc_keptFrom Lc_candidates Lc_size Sc_signals Sc_codes Sc_size Ai_codes Ai_bits Cu_seen Cu_inThrees Cu_all Lo_asked Lo_ones Lo_sum Lo_wideSize Lo_sumSize Lo_flickers Lo_ready Wa_at Wa_turns Wa_changes post) A) 0 0 A := by
  refine Met.ofW (cc := cX9_letter) (maxL := 2) (ret := (some .int)) (by decide) rfl ?_
  intro p e s m args below meth c s₁ B hml hv
  obtain ⟨rfl, hP, hK, hN, hD⟩ := hv
  have X : kC p (headSpec (Cond.code yX9_letter cX9_letter 2 (some .int) :: wsL_law) (rmH 1)).room s m _ meth c cX9_letter RX9 2 (some .int) 1 := ⟨B.exec, B.bytes, hml, findClass_of_methodNamed B.named, fun w h => atoms_spec (ws := Cond.code yX9_letter cX9_letter 2 (some .int) :: wsL_law) B.pre w (List.mem_cons_of_mem _ h), B.returns, B.notSynchronized, Nat.le_refl _, Nat.le_refl _⟩
  obtain ⟨hx, hb, hml, hown, hts, hr, hlocks, hRf, hRl⟩ := id X
  have hS : va_S A s.heap s.heap [] := va_S.rf
  have hl := lv_entry ([.ref (q 0), .int x1]) (n := 2) (Nat.le_of_ble_eq_true rfl)
  rw [lg_entry_eq]
  generalize (lg_sl ([.ref (q 0), .int x1]) ++ List.replicate (2 - (lg_sl ([.ref (q 0), .int x1])).length) Slot.unset).toArray = ls at hl ⊢
  have hl : lv_has ls 2 [(0, .ref (q 0)), (1, .int x1)] := hl
  refine lv_iload_n hx hb dX9_letter_0 rfl (lv_at hl 1 rfl) ?_
  refine lv_bipush (v := (32 : Int32)) hx hb dX9_letter_1 (by decide +kernel) ?_
  refine lv_icmp_lt (tgt := 12) hx hb dX9_letter_3 (by decide) (fun c_1 => ?_) (fun c_1 => ?_)
  · have hw := hw.1 c_1
    refine lv_sipush (v := ((-1002) : Int32)) hx hb dX9_letter_12 (by decide +kernel) ?_
    exact rw_i hx hb hr hlocks (fun t ht => ⟨Pg_letters, Pg_size, hw, by rw [ht]; exact hP⟩) hS dX9_letter_15
  · have hw := hw.2 c_1
    refine lv_iload_n hx hb dX9_letter_6 rfl (lv_at hl 1 rfl) ?_
    refine lv_bipush (v := (126 : Int32)) hx hb dX9_letter_7 (by decide +kernel) ?_
    refine lv_icmp_le (tgt := 16) hx hb dX9_letter_9 (by decide) (fun c_2 => ?_) (fun c_2 => ?_)
    · have hw := hw.1 c_2
      refine lv_aload_n hx hb dX9_letter_16 rfl (lv_at hl 0 rfl) ?_
      refine gRX9_12 hx hb hown hts hK hP dX9_letter_17 ?_
      refine lv_iload_n hx hb dX9_letter_20 rfl (lv_at hl 1 rfl) ?_
      refine wr_i (va_runV (As := [.int x1]) (rest := []) ⟨hx, hb, hml, hown, hts⟩ (c_X5_append l hw) (kRX9_79 (h := 0) hts (Nat.le_trans (Nat.le_of_ble_eq_true rfl) hRf) (Nat.le_trans (Nat.le_of_ble_eq_true rfl) hRl)) (preX5w hK hN hP hD) rfl rfl hl.1 rfl (lv_room (Nat.le_of_ble_eq_true rfl)) dX9_letter_21 ⟨Nat.zero_le _, Nat.zero_le _⟩) hS (fun r_3 t H locs ht hw hS => ?_)
      obtain ⟨yletters_3, ysize_3, hw, hP⟩ := hw
      rw [ht] at hP
      have hP : va_P D vwCl (wC q cA Fc_unkept Fc_tablesRead yletters_3 ysize_3 Pg_fault Pg_rows Pg_inRow Pg_width Fl_entries Fl_states Fl_columns Fl_moves Fl_stables Fl_amiss Fl_normal Pt_lessers Pt_greaters Pt_size Lc_signals Lc_kept Lc_keptFrom Lc_candidates Lc_size Sc_signals Sc_codes Sc_size Ai_codes Ai_bits Cu_seen Cu_inThrees Cu_all Lo_asked Lo_ones Lo_sum Lo_wideSize Lo_sumSize Lo_flickers Lo_ready Wa_at Wa_turns Wa_changes) H := hP
      have hD : va_D A (wC q cA Fc_unkept Fc_tablesRead yletters_3 ysize_3 Pg_fault Pg_rows Pg_inRow Pg_width Fl_entries Fl_states Fl_columns Fl_moves Fl_stables Fl_amiss Fl_normal Pt_lessers Pt_greaters Pt_size Lc_signals Lc_kept Lc_keptFrom Lc_candidates Lc_size Sc_signals Sc_codes Sc_size Ai_codes Ai_bits Cu_seen Cu_inThrees Cu_all Lo_asked Lo_ones Lo_sum Lo_wideSize Lo_sumSize Lo_flickers Lo_ready Wa_at Wa_turns Wa_changes) := dC hD
      refine lv_if_eq (tgt := 37) hx hb dX9_letter_24 (by decide) (fun c_4 => ?_) (fun c_4 => ?_)
      · have hw := hw.1 c_4
        refine lv_sipush (v := ((-1004) : Int32)) hx hb dX9_letter_37 (by decide +kernel) ?_
        exact rw_i hx hb hr hlocks (fun t ht => ⟨yletters_3, ysize_3, hw, by rw [ht]; exact hP⟩) hS dX9_letter_40
      · have hw := hw.2 c_4
        refine lv_aload_n hx hb dX9_letter_27 rfl (lv_at hl 0 rfl) ?_
        refine gRX9_12 hx hb hown hts hK hP dX9_letter_28 ?_
        refine gRX9_83 hx hb hown hts hK hN hP dX9_letter_31 ?_
        refine lv_goto (tgt := 40) hx hb dX9_letter_34 (by decide) ?_
        exact rw_i hx hb hr hlocks (fun t ht => ⟨yletters_3, ysize_3, hw, by rw [ht]; exact hP⟩) hS dX9_letter_40
    · have hw := hw.2 c_2
      refine lv_sipush (v := ((-1002) : Int32)) hx hb dX9_letter_12 (by decide +kernel) ?_
      exact rw_i hx hb hr hlocks (fun t ht => ⟨Pg_letters, Pg_size, hw, by rw [ht]; exact hP⟩) hS dX9_letter_15
set_option maxHeartbeats 4000000 in
set_option maxRecDepth 100000 in
theorem c_X10_within (l : Launch)  {post : Int32 → Prop} {x0 : Int32} {x1 : Int32} {x2 : Int32} (hw : wp_X10_within post  x0 x1 x2) : Met l yX10_within (Cond.code yX10_within cX10_within 3 (some .boolean) :: wsL_law) (rmH 0) (va_Pc [.int x0, .int x1, .int x2] (fun _ => True)) (qRi post) 0 0 (fun _ => False) := by
  refine Met.ofW (cc := cX10_within) (maxL := 3) (ret := (some .boolean)) (by decide) rfl ?_
  intro p e s m args below meth c s₁ B hml hv
  obtain ⟨rfl, -⟩ := hv
  have X : kC p (headSpec (Cond.code yX10_within cX10_within 3 (some .boolean) :: wsL_law) (rmH 0)).room s m _ meth c cX10_within RX10 3 (some .boolean) 0 := ⟨B.exec, B.bytes, hml, findClass_of_methodNamed B.named, fun w h => atoms_spec (ws := Cond.code yX10_within cX10_within 3 (some .boolean) :: wsL_law) B.pre w (List.mem_cons_of_mem _ h), B.returns, B.notSynchronized, Nat.le_refl _, Nat.le_refl _⟩
  obtain ⟨hx, hb, hml, hown, hts, hr, hlocks, hRf, hRl⟩ := id X
  have hl := lv_entry ([.int x0, .int x1, .int x2]) (n := 3) (Nat.le_of_ble_eq_true rfl)
  rw [lg_entry_eq]
  generalize (lg_sl ([.int x0, .int x1, .int x2]) ++ List.replicate (3 - (lg_sl ([.int x0, .int x1, .int x2])).length) Slot.unset).toArray = ls at hl ⊢
  have hl : lv_has ls 3 [(0, .int x0), (1, .int x1), (2, .int x2)] := hl
  refine lv_iload_n hx hb dX10_within_0 rfl (lv_at hl 0 rfl) ?_
  refine lv_iload_n hx hb dX10_within_1 rfl (lv_at hl 1 rfl) ?_
  refine lv_icmp_lt (tgt := 14) hx hb dX10_within_2 (by decide) (fun c_1 => ?_) (fun c_1 => ?_)
  · have hw := hw.1 c_1
    refine lv_iconst (v := (0 : Int32)) hx hb dX10_within_14 (by decide) ?_
    exact rt_z hx hb hr hlocks rfl hw dX10_within_15
  · have hw := hw.2 c_1
    refine lv_iload_n hx hb dX10_within_5 rfl (lv_at hl 0 rfl) ?_
    refine lv_iload_n hx hb dX10_within_6 rfl (lv_at hl 2 rfl) ?_
    refine lv_icmp_gt (tgt := 14) hx hb dX10_within_7 (by decide) (fun c_2 => ?_) (fun c_2 => ?_)
    · have hw := hw.1 c_2
      refine lv_iconst (v := (0 : Int32)) hx hb dX10_within_14 (by decide) ?_
      exact rt_z hx hb hr hlocks rfl hw dX10_within_15
    · have hw := hw.2 c_2
      refine lv_iconst (v := (1 : Int32)) hx hb dX10_within_10 (by decide) ?_
      refine lv_goto (tgt := 15) hx hb dX10_within_11 (by decide) ?_
      exact rt_z hx hb hr hlocks rfl hw dX10_within_15
abbrev Z_X10_letter (D : va_G) (q : Nat → Nat) (cA : Nat → ClassId) (i_states : Int32) (i_columns : Int32) (a_entries : Nat → Int32) (i_signals : Int32) (a_signalAt : Nat → Int32) (i_walksAt : Int32) (i_turned : Int32) (i_changed : Int32) (i_read : Int32) (i_newRows : Int32) (i_newEntries : Int32) (i_newColumns : Int32) (i_greatest : Int32) (a_newAt : Nat → Int32) (i_partings : Int32) (a_lowSet : Nat → Int32) (a_highSet : Nat → Int32) (i_leastMany : Int32) (a_leastAt : Nat → Int32) (a_tried : Nat → Int32) (a_keptLow : Nat → Int64) (a_keptHigh : Nat → Int64) (i_laid : Int32) (a_wants : Nat → Int32) (i_wide : Int32) (a_wideAsked : Nat → Int32) (a_wideOnes : Nat → Int32) (i_sum : Int32) (i_flickers : Int32) (a_sumAt : Nat → Int32) (j_h : Int64) (post : Int32 → Int32 → (Nat → Int32) → Prop) : Int32 → State → Prop := fun r t => ∃ (y_i_pageLength : Int32) (y_a_page : Nat → Int32), post r y_i_pageLength y_a_page ∧ va_P D vwCl (wM q cA y_i_pageLength y_a_page i_states i_columns a_entries i_signals a_signalAt i_walksAt i_turned i_changed i_read i_newRows i_newEntries i_newColumns i_greatest a_newAt i_partings a_lowSet a_highSet i_leastMany a_leastAt a_tried a_keptLow a_keptHigh i_laid a_wants i_wide a_wideAsked a_wideOnes i_sum i_flickers a_sumAt j_h) t.heap
set_option maxHeartbeats 4000000 in
set_option maxRecDepth 100000 in
theorem c_X10_letter (l : Launch) {D : va_G} {q : Nat → Nat} {cA : Nat → ClassId} {i_pageLength : Int32} {a_page : Nat → Int32} {i_states : Int32} {i_columns : Int32} {a_entries : Nat → Int32} {i_signals : Int32} {a_signalAt : Nat → Int32} {i_walksAt : Int32} {i_turned : Int32} {i_changed : Int32} {i_read : Int32} {i_newRows : Int32} {i_newEntries : Int32} {i_newColumns : Int32} {i_greatest : Int32} {a_newAt : Nat → Int32} {i_partings : Int32} {a_lowSet : Nat → Int32} {a_highSet : Nat → Int32} {i_leastMany : Int32} {a_leastAt : Nat → Int32} {a_tried : Nat → Int32} {a_keptLow : Nat → Int64} {a_keptHigh : Nat → Int64} {i_laid : Int32} {a_wants : Nat → Int32} {i_wide : Int32} {a_wideAsked : Nat → Int32} {a_wideOnes : Nat → Int32} {i_sum : Int32} {i_flickers : Int32} {a_sumAt : Nat → Int32} {j_h : Int64} {A : Nat → Prop} {post : Int32 → Int32 → (Nat → Int32) → Prop} {x1 : Int32} (hw : wp_X10_letter post i_pageLength a_page x1) : Met l yX10_letter (Cond.code yX10_letter cX10_letter 2 (some .int) :: wsL_law) (rmH 1) (va_Pc [.ref (q 0), .int x1] (fun U => va_P D vwCl (wM q cA i_pageLength a_page i_states i_columns a_entries i_signals a_signalAt i_walksAt i_turned i_changed i_read i_newRows i_newEntries i_newColumns i_greatest a_newAt i_partings a_lowSet a_highSet i_leastMany a_leastAt a_tried a_keptLow a_keptHigh i_laid a_wants i_wide a_wideAsked a_wideOnes i_sum i_flickers a_sumAt j_h) U.heap ∧ va_K D vwCl (tyM cA) U ∧ va_D A (wM q cA i_pageLength a_page i_states i_columns a_entries i_signals a_signalAt i_walksAt i_turned i_changed i_read i_newRows i_newEntries i_newColumns i_greatest a_newAt i_partings a_lowSet a_highSet i_leastMany a_leastAt a_tried a_keptLow a_keptHigh i_laid a_wants i_wide a_wideAsked a_wideOnes i_sum i_flickers a_sumAt j_h))) (qWi (Z_X10_letter D q cA i_states i_columns a_entries i_signals a_signalAt i_walksAt i_turned i_changed i_read i_newRows i_newEntries i_newColumns i_greatest a_newAt i_partings a_lowSet a_highSet i_leastMany a_leastAt a_tried a_keptLow a_keptHigh i_laid a_wants i_wide a_wideAsked a_wideOnes i_sum i_flickers a_sumAt j_h post) A) 0 0 A := by
  refine Met.ofW (cc := cX10_letter) (maxL := 2) (ret := (some .int)) (by decide) rfl ?_
  intro p e s m args below meth c s₁ B hml hv
  obtain ⟨rfl, hP, hK, hD⟩ := hv
  have X : kC p (headSpec (Cond.code yX10_letter cX10_letter 2 (some .int) :: wsL_law) (rmH 1)).room s m _ meth c cX10_letter RX10 2 (some .int) 1 := ⟨B.exec, B.bytes, hml, findClass_of_methodNamed B.named, fun w h => atoms_spec (ws := Cond.code yX10_letter cX10_letter 2 (some .int) :: wsL_law) B.pre w (List.mem_cons_of_mem _ h), B.returns, B.notSynchronized, Nat.le_refl _, Nat.le_refl _⟩
  obtain ⟨hx, hb, hml, hown, hts, hr, hlocks, hRf, hRl⟩ := id X
  have hS : va_S A s.heap s.heap [] := va_S.rf
  have hl := lv_entry ([.ref (q 0), .int x1]) (n := 2) (Nat.le_of_ble_eq_true rfl)
  rw [lg_entry_eq]
  generalize (lg_sl ([.ref (q 0), .int x1]) ++ List.replicate (2 - (lg_sl ([.ref (q 0), .int x1])).length) Slot.unset).toArray = ls at hl ⊢
  have hl : lv_has ls 2 [(0, .ref (q 0)), (1, .int x1)] := hl
  refine lv_iload_n hx hb dX10_letter_0 rfl (lv_at hl 1 rfl) ?_
  refine lv_bipush (v := (32 : Int32)) hx hb dX10_letter_1 (by decide +kernel) ?_
  refine lv_bipush (v := (126 : Int32)) hx hb dX10_letter_3 (by decide +kernel) ?_
  refine ro_i (va_runS (As := [.int x1, .int (32 : Int32), .int (126 : Int32)]) (rest := []) ⟨hx, hb, hml, hown, hts⟩ (c_X10_within l hw) (kRX10_60 (h := 0) hts (Nat.le_trans (Nat.le_of_ble_eq_true rfl) hRf) (Nat.le_trans (Nat.le_of_ble_eq_true rfl) hRl)) pre_0 rfl rfl hl.1 rfl (lv_room (Nat.le_of_ble_eq_true rfl)) dX10_letter_5 ⟨Nat.zero_le _, Nat.zero_le _⟩) (fun r_1 hw => ?_)
  refine lv_if_ne (tgt := 15) hx hb dX10_letter_8 (by decide) (fun c_2 => ?_) (fun c_2 => ?_)
  · have hw := hw.2 c_2
    refine lv_aload_n hx hb dX10_letter_15 rfl (lv_at hl 0 rfl) ?_
    refine gRX10_64 hx hb hown hts hK hP dX10_letter_16 ?_
    refine lv_bipush (v := (40 : Int32)) hx hb dX10_letter_19 (by decide +kernel) ?_
    refine lv_icmp_ne (tgt := 28) hx hb dX10_letter_21 (by decide) (fun c_3 => ?_) (fun c_3 => ?_)
    · have hw := hw.2 c_3
      refine lv_aload_n hx hb dX10_letter_28 rfl (lv_at hl 0 rfl) ?_
      refine gRX10_7 hx hb hown hts hK hP dX10_letter_29 ?_
      refine lv_aload_n hx hb dX10_letter_32 rfl (lv_at hl 0 rfl) ?_
      refine gRX10_64 hx hb hown hts hK hP dX10_letter_33 ?_
      refine lv_iload_n hx hb dX10_letter_36 rfl (lv_at hl 1 rfl) ?_
      have h_4 := hw.1
      have hw := hw.2
      refine st_a_page hx hb hK hP hD hS h_4 dX10_letter_37 (fun H locs a_4 e_4 hP hD hS => ?_)
      have hw := hw a_4 e_4
      refine lv_aload_n hx hb dX10_letter_38 rfl (lv_at hl 0 rfl) ?_
      refine lv_dup hx hb dX10_letter_39 rfl ?_
      refine gRX10_64 hx hb hown hts hK hP dX10_letter_40 ?_
      refine lv_iconst (v := (1 : Int32)) hx hb dX10_letter_43 (by decide) ?_
      refine lv_iadd hx hb dX10_letter_44 ?_
      refine lv_topi (fun f_5 e_5 => ?_)
      have hw := hw f_5 e_5
      refine pRX10_64 hx hb hown hts hK hP hD hS dX10_letter_45 (fun H locs hP hD hS => ?_)
      refine lv_aload_n hx hb dX10_letter_48 rfl (lv_at hl 0 rfl) ?_
      refine gRX10_64 hx hb hown hts hK hP dX10_letter_49 ?_
      exact rw_i hx hb hr hlocks (fun t ht => ⟨f_5, a_4, hw, by rw [ht]; exact hP⟩) hS dX10_letter_52
    · have hw := hw.1 c_3
      refine lv_sipush (v := ((-1004) : Int32)) hx hb dX10_letter_24 (by decide +kernel) ?_
      exact rw_i hx hb hr hlocks (fun t ht => ⟨i_pageLength, a_page, hw, by rw [ht]; exact hP⟩) hS dX10_letter_27
  · have hw := hw.1 c_2
    refine lv_sipush (v := ((-1002) : Int32)) hx hb dX10_letter_11 (by decide +kernel) ?_
    exact rw_i hx hb hr hlocks (fun t ht => ⟨i_pageLength, a_page, hw, by rw [ht]; exact hP⟩) hS dX10_letter_14
abbrev Z_X9_blank (D : va_G) (q : Nat → Nat) (cA : Nat → ClassId) (Fc_unkept : Int32) (Fc_tablesRead : Int32) (Pg_letters : Nat → Int32) (Pg_fault : Int32) (Pg_rows : Int32) (Pg_inRow : Int32) (Pg_width : Int32) (Fl_entries : Nat → Int32) (Fl_states : Int32) (Fl_columns : Int32) (Fl_moves : Int32) (Fl_stables : Int32) (Fl_amiss : Int32) (Fl_normal : Int32) (Pt_lessers : Nat → Int32) (Pt_greaters : Nat → Int32) (Pt_size : Int32) (Lc_signals : Nat → Int32) (Lc_kept : Nat → Int64) (Lc_keptFrom : Nat → Int64) (Lc_candidates : Int32) (Lc_size : Int32) (Sc_signals : Nat → Int32) (Sc_codes : Nat → Int32) (Sc_size : Int32) (Ai_codes : Nat → Int32) (Ai_bits : Int32) (Cu_seen : Nat → Int32) (Cu_inThrees : Nat → Int32) (Cu_all : Int32) (Lo_asked : Nat → Nat → Int32) (Lo_ones : Nat → Nat → Int32) (Lo_sum : Nat → Nat → Int32) (Lo_wideSize : Nat → Int32) (Lo_sumSize : Nat → Int32) (Lo_flickers : Nat → Int32) (Lo_ready : Nat → Int32) (Wa_at : Int32) (Wa_turns : Int32) (Wa_changes : Int32) (post : Int32 → Int32 → Prop) : Int32 → State → Prop := fun r t => ∃ (y_Pg_size : Int32), post r y_Pg_size ∧ va_P D vwCl (wC q cA Fc_unkept Fc_tablesRead Pg_letters y_Pg_size Pg_fault Pg_rows Pg_inRow Pg_width Fl_entries Fl_states Fl_columns Fl_moves Fl_stables Fl_amiss Fl_normal Pt_lessers Pt_greaters Pt_size Lc_signals Lc_kept Lc_keptFrom Lc_candidates Lc_size Sc_signals Sc_codes Sc_size Ai_codes Ai_bits Cu_seen Cu_inThrees Cu_all Lo_asked Lo_ones Lo_sum Lo_wideSize Lo_sumSize Lo_flickers Lo_ready Wa_at Wa_turns Wa_changes) t.heap
set_option maxHeartbeats 4000000 in
set_option maxRecDepth 100000 in
theorem c_X9_blank (l : Launch) {D : va_G} {q : Nat → Nat} {cA : Nat → ClassId} {Fc_unkept : Int32} {Fc_tablesRead : Int32} {Pg_letters : Nat → Int32} {Pg_size : Int32} {Pg_fault : Int32} {Pg_rows : Int32} {Pg_inRow : Int32} {Pg_width : Int32} {Fl_entries : Nat → Int32} {Fl_states : Int32} {Fl_columns : Int32} {Fl_moves : Int32} {Fl_stables : Int32} {Fl_amiss : Int32} {Fl_normal : Int32} {Pt_lessers : Nat → Int32} {Pt_greaters : Nat → Int32} {Pt_size : Int32} {Lc_signals : Nat → Int32} {Lc_kept : Nat → Int64} {Lc_keptFrom : Nat → Int64} {Lc_candidates : Int32} {Lc_size : Int32} {Sc_signals : Nat → Int32} {Sc_codes : Nat → Int32} {Sc_size : Int32} {Ai_codes : Nat → Int32} {Ai_bits : Int32} {Cu_seen : Nat → Int32} {Cu_inThrees : Nat → Int32} {Cu_all : Int32} {Lo_asked : Nat → Nat → Int32} {Lo_ones : Nat → Nat → Int32} {Lo_sum : Nat → Nat → Int32} {Lo_wideSize : Nat → Int32} {Lo_sumSize : Nat → Int32} {Lo_flickers : Nat → Int32} {Lo_ready : Nat → Int32} {Wa_at : Int32} {Wa_turns : Int32} {Wa_changes : Int32} {A : Nat → Prop} {post : Int32 → Int32 → Prop}  (hw : wp_X9_blank post Pg_size ) : Met l yX9_blank (Cond.code yX9_blank cX9_blank 2 (some .int) :: wsL_law) (rmH 0) (va_Pc [.ref (q 0)] (fun U => va_P D vwCl (wC q cA Fc_unkept Fc_tablesRead Pg_letters Pg_size Pg_fault Pg_rows Pg_inRow Pg_width Fl_entries Fl_states Fl_columns Fl_moves Fl_stables Fl_amiss Fl_normal Pt_lessers Pt_greaters Pt_size Lc_signals Lc_kept Lc_keptFrom Lc_candidates Lc_size Sc_signals Sc_codes Sc_size Ai_codes Ai_bits Cu_seen Cu_inThrees Cu_all Lo_asked Lo_ones Lo_sum Lo_wideSize Lo_sumSize Lo_flickers Lo_ready Wa_at Wa_turns Wa_changes) U.heap ∧ va_K D vwCl (tyC cA) U ∧ nwC U ∧ va_D A (wC q cA Fc_unkept Fc_tablesRead Pg_letters Pg_size Pg_fault Pg_rows Pg_inRow Pg_width Fl_entries Fl_states Fl_columns Fl_moves Fl_stables Fl_amiss Fl_normal Pt_lessers Pt_greaters Pt_size Lc_signals Lc_kept Lc_keptFrom Lc_candidates Lc_size Sc_signals Sc_codes Sc_size Ai_codes Ai_bits Cu_seen Cu_inThrees Cu_all Lo_asked Lo_ones Lo_sum Lo_wideSize Lo_sumSize Lo_flickers Lo_ready Wa_at Wa_turns Wa_changes))) (qWi (Z_X9_blank D q cA Fc_unkept Fc_tablesRead Pg_letters Pg_fault Pg_rows Pg_inRow Pg_width Fl_entries Fl_states Fl_columns Fl_moves Fl_stables Fl_amiss Fl_normal Pt_lessers Pt_greaters Pt_size Lc_signals Lc_kept Lc_keptFrom Lc_candidates Lc_size Sc_signals Sc_codes Sc_size Ai_codes Ai_bits Cu_seen Cu_inThrees Cu_all Lo_asked Lo_ones Lo_sum Lo_wideSize Lo_sumSize Lo_flickers Lo_ready Wa_at Wa_turns Wa_changes post) A) 0 0 A := by
  refine Met.ofW (cc := cX9_blank) (maxL := 2) (ret := (some .int)) (by decide) rfl ?_
  intro p e s m args below meth c s₁ B hml hv
  obtain ⟨rfl, hP, hK, hN, hD⟩ := hv
  have X : kC p (headSpec (Cond.code yX9_blank cX9_blank 2 (some .int) :: wsL_law) (rmH 0)).room s m _ meth c cX9_blank RX9 2 (some .int) 0 := ⟨B.exec, B.bytes, hml, findClass_of_methodNamed B.named, fun w h => atoms_spec (ws := Cond.code yX9_blank cX9_blank 2 (some .int) :: wsL_law) B.pre w (List.mem_cons_of_mem _ h), B.returns, B.notSynchronized, Nat.le_refl _, Nat.le_refl _⟩
  obtain ⟨hx, hb, hml, hown, hts, hr, hlocks, hRf, hRl⟩ := id X
  have hS : va_S A s.heap s.heap [] := va_S.rf
  have hl := lv_entry ([.ref (q 0)]) (n := 2) (Nat.le_of_ble_eq_true rfl)
  rw [lg_entry_eq]
  generalize (lg_sl ([.ref (q 0)]) ++ List.replicate (2 - (lg_sl ([.ref (q 0)])).length) Slot.unset).toArray = ls at hl ⊢
  have hl : lv_has ls 2 [(0, .ref (q 0))] := hl
  refine lv_aload_n hx hb dX9_blank_0 rfl (lv_at hl 0 rfl) ?_
  refine gRX9_12 hx hb hown hts hK hP dX9_blank_1 ?_
  refine gRX9_83 hx hb hown hts hK hN hP dX9_blank_4 ?_
  refine lv_istore_n (lv' := [(1, .int Pg_size), (0, .ref (q 0))]) hx hb dX9_blank_7 rfl hl (by decide) rfl (fun ls hl => ?_)
  refine lv_aload_n hx hb dX9_blank_8 rfl (lv_at hl 1 rfl) ?_
  refine gRX9_12 hx hb hown hts hK hP dX9_blank_9 ?_
  refine lv_iconst (v := (0 : Int32)) hx hb dX9_blank_12 (by decide) ?_
  refine pRX9_83 hx hb hown hts hK hN hP hD hS dX9_blank_13 (fun H locs hP hD hS => ?_)
  refine lv_iload_n hx hb dX9_blank_16 rfl (lv_at hl 0 rfl) ?_
  exact rw_i hx hb hr hlocks (fun t ht => ⟨(0 : Int32), hw, by rw [ht]; exact hP⟩) hS dX9_blank_17
abbrev Z_X10_blank (D : va_G) (q : Nat → Nat) (cA : Nat → ClassId) (a_page : Nat → Int32) (i_states : Int32) (i_columns : Int32) (a_entries : Nat → Int32) (i_signals : Int32) (a_signalAt : Nat → Int32) (i_walksAt : Int32) (i_turned : Int32) (i_changed : Int32) (i_read : Int32) (i_newRows : Int32) (i_newEntries : Int32) (i_newColumns : Int32) (i_greatest : Int32) (a_newAt : Nat → Int32) (i_partings : Int32) (a_lowSet : Nat → Int32) (a_highSet : Nat → Int32) (i_leastMany : Int32) (a_leastAt : Nat → Int32) (a_tried : Nat → Int32) (a_keptLow : Nat → Int64) (a_keptHigh : Nat → Int64) (i_laid : Int32) (a_wants : Nat → Int32) (i_wide : Int32) (a_wideAsked : Nat → Int32) (a_wideOnes : Nat → Int32) (i_sum : Int32) (i_flickers : Int32) (a_sumAt : Nat → Int32) (j_h : Int64) (post : Int32 → Int32 → Prop) : Int32 → State → Prop := fun r t => ∃ (y_i_pageLength : Int32), post r y_i_pageLength ∧ va_P D vwCl (wM q cA y_i_pageLength a_page i_states i_columns a_entries i_signals a_signalAt i_walksAt i_turned i_changed i_read i_newRows i_newEntries i_newColumns i_greatest a_newAt i_partings a_lowSet a_highSet i_leastMany a_leastAt a_tried a_keptLow a_keptHigh i_laid a_wants i_wide a_wideAsked a_wideOnes i_sum i_flickers a_sumAt j_h) t.heap
set_option maxHeartbeats 4000000 in
set_option maxRecDepth 100000 in
theorem c_X10_blank (l : Launch) {D : va_G} {q : Nat → Nat} {cA : Nat → ClassId} {i_pageLength : Int32} {a_page : Nat → Int32} {i_states : Int32} {i_columns : Int32} {a_entries : Nat → Int32} {i_signals : Int32} {a_signalAt : Nat → Int32} {i_walksAt : Int32} {i_turned : Int32} {i_changed : Int32} {i_read : Int32} {i_newRows : Int32} {i_newEntries : Int32} {i_newColumns : Int32} {i_greatest : Int32} {a_newAt : Nat → Int32} {i_partings : Int32} {a_lowSet : Nat → Int32} {a_highSet : Nat → Int32} {i_leastMany : Int32} {a_leastAt : Nat → Int32} {a_tried : Nat → Int32} {a_keptLow : Nat → Int64} {a_keptHigh : Nat → Int64} {i_laid : Int32} {a_wants : Nat → Int32} {i_wide : Int32} {a_wideAsked : Nat → Int32} {a_wideOnes : Nat → Int32} {i_sum : Int32} {i_flickers : Int32} {a_sumAt : Nat → Int32} {j_h : Int64} {A : Nat → Prop} {post : Int32 → Int32 → Prop}  (hw : wp_X10_blank post i_pageLength ) : Met l yX10_blank (Cond.code yX10_blank cX10_blank 2 (some .int) :: wsL_law) (rmH 0) (va_Pc [.ref (q 0)] (fun U => va_P D vwCl (wM q cA i_pageLength a_page i_states i_columns a_entries i_signals a_signalAt i_walksAt i_turned i_changed i_read i_newRows i_newEntries i_newColumns i_greatest a_newAt i_partings a_lowSet a_highSet i_leastMany a_leastAt a_tried a_keptLow a_keptHigh i_laid a_wants i_wide a_wideAsked a_wideOnes i_sum i_flickers a_sumAt j_h) U.heap ∧ va_K D vwCl (tyM cA) U ∧ va_D A (wM q cA i_pageLength a_page i_states i_columns a_entries i_signals a_signalAt i_walksAt i_turned i_changed i_read i_newRows i_newEntries i_newColumns i_greatest a_newAt i_partings a_lowSet a_highSet i_leastMany a_leastAt a_tried a_keptLow a_keptHigh i_laid a_wants i_wide a_wideAsked a_wideOnes i_sum i_flickers a_sumAt j_h))) (qWi (Z_X10_blank D q cA a_page i_states i_columns a_entries i_signals a_signalAt i_walksAt i_turned i_changed i_read i_newRows i_newEntries i_newColumns i_greatest a_newAt i_partings a_lowSet a_highSet i_leastMany a_leastAt a_tried a_keptLow a_keptHigh i_laid a_wants i_wide a_wideAsked a_wideOnes i_sum i_flickers a_sumAt j_h post) A) 0 0 A := by
  refine Met.ofW (cc := cX10_blank) (maxL := 2) (ret := (some .int)) (by decide) rfl ?_
  intro p e s m args below meth c s₁ B hml hv
  obtain ⟨rfl, hP, hK, hD⟩ := hv
  have X : kC p (headSpec (Cond.code yX10_blank cX10_blank 2 (some .int) :: wsL_law) (rmH 0)).room s m _ meth c cX10_blank RX10 2 (some .int) 0 := ⟨B.exec, B.bytes, hml, findClass_of_methodNamed B.named, fun w h => atoms_spec (ws := Cond.code yX10_blank cX10_blank 2 (some .int) :: wsL_law) B.pre w (List.mem_cons_of_mem _ h), B.returns, B.notSynchronized, Nat.le_refl _, Nat.le_refl _⟩
  obtain ⟨hx, hb, hml, hown, hts, hr, hlocks, hRf, hRl⟩ := id X
  have hS : va_S A s.heap s.heap [] := va_S.rf
  have hl := lv_entry ([.ref (q 0)]) (n := 2) (Nat.le_of_ble_eq_true rfl)
  rw [lg_entry_eq]
  generalize (lg_sl ([.ref (q 0)]) ++ List.replicate (2 - (lg_sl ([.ref (q 0)])).length) Slot.unset).toArray = ls at hl ⊢
  have hl : lv_has ls 2 [(0, .ref (q 0))] := hl
  refine lv_aload_n hx hb dX10_blank_0 rfl (lv_at hl 0 rfl) ?_
  refine gRX10_64 hx hb hown hts hK hP dX10_blank_1 ?_
  refine lv_istore_n (lv' := [(1, .int i_pageLength), (0, .ref (q 0))]) hx hb dX10_blank_4 rfl hl (by decide) rfl (fun ls hl => ?_)
  refine lv_aload_n hx hb dX10_blank_5 rfl (lv_at hl 1 rfl) ?_
  refine lv_iconst (v := (0 : Int32)) hx hb dX10_blank_6 (by decide) ?_
  refine pRX10_64 hx hb hown hts hK hP hD hS dX10_blank_7 (fun H locs hP hD hS => ?_)
  refine lv_iload_n hx hb dX10_blank_10 rfl (lv_at hl 0 rfl) ?_
  exact rw_i hx hb hr hlocks (fun t ht => ⟨(0 : Int32), hw, by rw [ht]; exact hP⟩) hS dX10_blank_11
set_option maxHeartbeats 4000000 in
set_option maxRecDepth 100000 in
theorem c_X5_stateOf (l : Launch)  {post : Int32 → Prop} {x0 : Int32} (hw : wp_X5_stateOf post  x0) : Met l yX5_stateOf (Cond.code yX5_stateOf cX5_stateOf 1 (some .int) :: wsL_law) (rmH 0) (va_Pc [.int x0] (fun _ => True)) (qRi post) 0 0 (fun _ => False) := by
  refine Met.ofW (cc := cX5_stateOf) (maxL := 1) (ret := (some .int)) (by decide) rfl ?_
  intro p e s m args below meth c s₁ B hml hv
  obtain ⟨rfl, -⟩ := hv
  have X : kC p (headSpec (Cond.code yX5_stateOf cX5_stateOf 1 (some .int) :: wsL_law) (rmH 0)).room s m _ meth c cX5_stateOf RX5 1 (some .int) 0 := ⟨B.exec, B.bytes, hml, findClass_of_methodNamed B.named, fun w h => atoms_spec (ws := Cond.code yX5_stateOf cX5_stateOf 1 (some .int) :: wsL_law) B.pre w (List.mem_cons_of_mem _ h), B.returns, B.notSynchronized, Nat.le_refl _, Nat.le_refl _⟩
  obtain ⟨hx, hb, hml, hown, hts, hr, hlocks, hRf, hRl⟩ := id X
  have hl := lv_entry ([.int x0]) (n := 1) (Nat.le_of_ble_eq_true rfl)
  rw [lg_entry_eq]
  generalize (lg_sl ([.int x0]) ++ List.replicate (1 - (lg_sl ([.int x0])).length) Slot.unset).toArray = ls at hl ⊢
  have hl : lv_has ls 1 [(0, .int x0)] := hl
  refine lv_iload_n hx hb dX5_stateOf_0 rfl (lv_at hl 0 rfl) ?_
  refine lv_bipush (v := (97 : Int32)) hx hb dX5_stateOf_1 (by decide +kernel) ?_
  refine lv_icmp_lt (tgt := 19) hx hb dX5_stateOf_3 (by decide) (fun c_1 => ?_) (fun c_1 => ?_)
  · have hw := hw.1 c_1
    refine lv_iconst (v := ((-1) : Int32)) hx hb dX5_stateOf_19 (by decide) ?_
    exact rt_i hx hb hr hlocks hw dX5_stateOf_20
  · have hw := hw.2 c_1
    refine lv_iload_n hx hb dX5_stateOf_6 rfl (lv_at hl 0 rfl) ?_
    refine lv_bipush (v := (103 : Int32)) hx hb dX5_stateOf_7 (by decide +kernel) ?_
    refine lv_icmp_ge (tgt := 19) hx hb dX5_stateOf_9 (by decide) (fun c_2 => ?_) (fun c_2 => ?_)
    · have hw := hw.1 c_2
      refine lv_iconst (v := ((-1) : Int32)) hx hb dX5_stateOf_19 (by decide) ?_
      exact rt_i hx hb hr hlocks hw dX5_stateOf_20
    · have hw := hw.2 c_2
      refine lv_iload_n hx hb dX5_stateOf_12 rfl (lv_at hl 0 rfl) ?_
      refine lv_bipush (v := (97 : Int32)) hx hb dX5_stateOf_13 (by decide +kernel) ?_
      refine lv_isub hx hb dX5_stateOf_15 ?_
      refine lv_goto (tgt := 20) hx hb dX5_stateOf_16 (by decide) ?_
      exact rt_i hx hb hr hlocks hw dX5_stateOf_20
abbrev Z_X5_endsRow (D : va_G) (q : Nat → Nat) (cA : Nat → ClassId) (Fc_unkept : Int32) (Fc_tablesRead : Int32) (Pg_letters : Nat → Int32) (Pg_size : Int32) (Pg_fault : Int32) (Fl_entries : Nat → Int32) (Fl_states : Int32) (Fl_columns : Int32) (Fl_moves : Int32) (Fl_stables : Int32) (Fl_amiss : Int32) (Fl_normal : Int32) (Pt_lessers : Nat → Int32) (Pt_greaters : Nat → Int32) (Pt_size : Int32) (Lc_signals : Nat → Int32) (Lc_kept : Nat → Int64) (Lc_keptFrom : Nat → Int64) (Lc_candidates : Int32) (Lc_size : Int32) (Sc_signals : Nat → Int32) (Sc_codes : Nat → Int32) (Sc_size : Int32) (Ai_codes : Nat → Int32) (Ai_bits : Int32) (Cu_seen : Nat → Int32) (Cu_inThrees : Nat → Int32) (Cu_all : Int32) (Lo_asked : Nat → Nat → Int32) (Lo_ones : Nat → Nat → Int32) (Lo_sum : Nat → Nat → Int32) (Lo_wideSize : Nat → Int32) (Lo_sumSize : Nat → Int32) (Lo_flickers : Nat → Int32) (Lo_ready : Nat → Int32) (Wa_at : Int32) (Wa_turns : Int32) (Wa_changes : Int32) (post : Int32 → Int32 → Int32 → Int32 → Prop) : Int32 → State → Prop := fun r t => ∃ (y_Pg_rows : Int32) (y_Pg_inRow : Int32) (y_Pg_width : Int32), post r y_Pg_rows y_Pg_inRow y_Pg_width ∧ va_P D vwCl (wC q cA Fc_unkept Fc_tablesRead Pg_letters Pg_size Pg_fault y_Pg_rows y_Pg_inRow y_Pg_width Fl_entries Fl_states Fl_columns Fl_moves Fl_stables Fl_amiss Fl_normal Pt_lessers Pt_greaters Pt_size Lc_signals Lc_kept Lc_keptFrom Lc_candidates Lc_size Sc_signals Sc_codes Sc_size Ai_codes Ai_bits Cu_seen Cu_inThrees Cu_all Lo_asked Lo_ones Lo_sum Lo_wideSize Lo_sumSize Lo_flickers Lo_ready Wa_at Wa_turns Wa_changes) t.heap
set_option maxHeartbeats 4000000 in
set_option maxRecDepth 100000 in
theorem t_X5_endsRow_40 {p : Program} {l : Launch} {e : Env} {R : Room} {s : State} {m : MethodId} {args : Array Value} {below : List Frame} {meth : Method} {c : Code} {A : Nat → Prop} {D : va_G} {q : Nat → Nat} {cA : Nat → ClassId} {Fc_unkept : Int32} {Fc_tablesRead : Int32} {Pg_letters : Nat → Int32} {Pg_size : Int32} {Pg_fault : Int32} {Pg_rows : Int32} {Pg_inRow : Int32} {Pg_width : Int32} {Fl_entries : Nat → Int32} {Fl_states : Int32} {Fl_columns : Int32} {Fl_moves : Int32} {Fl_stables : Int32} {Fl_amiss : Int32} {Fl_normal : Int32} {Pt_lessers : Nat → Int32} {Pt_greaters : Nat → Int32} {Pt_size : Int32} {Lc_signals : Nat → Int32} {Lc_kept : Nat → Int64} {Lc_keptFrom : Nat → Int64} {Lc_candidates : Int32} {Lc_size : Int32} {Sc_signals : Nat → Int32} {Sc_codes : Nat → Int32} {Sc_size : Int32} {Ai_codes : Nat → Int32} {Ai_bits : Int32} {Cu_seen : Nat → Int32} {Cu_inThrees : Nat → Int32} {Cu_all : Int32} {Lo_asked : Nat → Nat → Int32} {Lo_ones : Nat → Nat → Int32} {Lo_sum : Nat → Nat → Int32} {Lo_wideSize : Nat → Int32} {Lo_sumSize : Nat → Int32} {Lo_flickers : Nat → Int32} {Lo_ready : Nat → Int32} {Wa_at : Int32} {Wa_turns : Int32} {Wa_changes : Int32} {post : Int32 → Int32 → Int32 → Int32 → Prop} {v0 : Int32} (X : kC p R s m args meth c cX5_endsRow RX5 2 (some .boolean) 0) (hK : va_K D vwCl (tyC cA) s) (hN : nwC s) (hw : j_X5_endsRow_40 post Pg_rows Pg_inRow Pg_width v0) (ls : Array Slot) (H : Heap) (locs : List Loc) (hl : lv_has ls 2 [(0, .ref (q 1))]) (hP : va_P D vwCl (wC q cA Fc_unkept Fc_tablesRead Pg_letters Pg_size Pg_fault Pg_rows Pg_inRow Pg_width Fl_entries Fl_states Fl_columns Fl_moves Fl_stables Fl_amiss Fl_normal Pt_lessers Pt_greaters Pt_size Lc_signals Lc_kept Lc_keptFrom Lc_candidates Lc_size Sc_signals Sc_codes Sc_size Ai_codes Ai_bits Cu_seen Cu_inThrees Cu_all Lo_asked Lo_ones Lo_sum Lo_wideSize Lo_sumSize Lo_flickers Lo_ready Wa_at Wa_turns Wa_changes) H) (hD : va_D A (wC q cA Fc_unkept Fc_tablesRead Pg_letters Pg_size Pg_fault Pg_rows Pg_inRow Pg_width Fl_entries Fl_states Fl_columns Fl_moves Fl_stables Fl_amiss Fl_normal Pt_lessers Pt_greaters Pt_size Lc_signals Lc_kept Lc_keptFrom Lc_candidates Lc_size Sc_signals Sc_codes Sc_size Ai_codes Ai_bits Cu_seen Cu_inThrees Cu_all Lo_asked Lo_ones Lo_sum Lo_wideSize Lo_sumSize Lo_flickers Lo_ready Wa_at Wa_turns Wa_changes)) (hS : va_S A s.heap H locs) : W p l e R s m args below meth c H locs 0 0 (MQ below (qWi (Z_X5_endsRow D q cA Fc_unkept Fc_tablesRead Pg_letters Pg_size Pg_fault Fl_entries Fl_states Fl_columns Fl_moves Fl_stables Fl_amiss Fl_normal Pt_lessers Pt_greaters Pt_size Lc_signals Lc_kept Lc_keptFrom Lc_candidates Lc_size Sc_signals Sc_codes Sc_size Ai_codes Ai_bits Cu_seen Cu_inThrees Cu_all Lo_asked Lo_ones Lo_sum Lo_wideSize Lo_sumSize Lo_flickers Lo_ready Wa_at Wa_turns Wa_changes post) A) args s 0 0 A) (F0 m 40 ls [.int v0]) := by
  obtain ⟨hx, hb, hml, hown, hts, hr, hlocks, hRf, hRl⟩ := id X
  refine lv_istore_n (lv' := [(1, .int v0), (0, .ref (q 1))]) hx hb dX5_endsRow_40 rfl hl (by decide) rfl (fun ls hl => ?_)
  refine lv_iload_n hx hb dX5_endsRow_41 rfl (lv_at hl 0 rfl) ?_
  refine lv_if_eq (tgt := 54) hx hb dX5_endsRow_42 (by decide) (fun c_3 => ?_) (fun c_3 => ?_)
  · have hw := hw.1 c_3
    refine lv_iconst (v := (0 : Int32)) hx hb dX5_endsRow_54 (by decide) ?_
    exact rw_z hx hb hr hlocks rfl (fun t ht => ⟨Pg_rows, Pg_inRow, Pg_width, hw, by rw [ht]; exact hP⟩) hS dX5_endsRow_55
  · have hw := hw.2 c_3
    refine lv_aload_n hx hb dX5_endsRow_45 rfl (lv_at hl 1 rfl) ?_
    refine gRX5_19 hx hb hown hts hK hP dX5_endsRow_46 ?_
    refine lv_bipush (v := (6 : Int32)) hx hb dX5_endsRow_49 (by decide +kernel) ?_
    refine lv_icmp_lt (tgt := 56) hx hb dX5_endsRow_51 (by decide) (fun c_4 => ?_) (fun c_4 => ?_)
    · have hw := hw.1 c_4
      refine lv_aload_n hx hb dX5_endsRow_56 rfl (lv_at hl 1 rfl) ?_
      refine lv_aload_n hx hb dX5_endsRow_57 rfl (lv_at hl 1 rfl) ?_
      refine gRX5_22 hx hb hown hts hK hP dX5_endsRow_58 ?_
      refine pRX5_25 hx hb hown hts hK hP hD hS dX5_endsRow_61 (fun H locs hP hD hS => ?_)
      refine lv_aload_n hx hb dX5_endsRow_64 rfl (lv_at hl 1 rfl) ?_
      refine lv_dup hx hb dX5_endsRow_65 rfl ?_
      refine gRX5_19 hx hb hown hts hK hP dX5_endsRow_66 ?_
      refine lv_iconst (v := (1 : Int32)) hx hb dX5_endsRow_69 (by decide) ?_
      refine lv_iadd hx hb dX5_endsRow_70 ?_
      refine lv_topi (fun f_5 e_5 => ?_)
      have hw := hw f_5 e_5
      refine pRX5_19 hx hb hown hts hK hP hD hS dX5_endsRow_71 (fun H locs hP hD hS => ?_)
      refine lv_aload_n hx hb dX5_endsRow_74 rfl (lv_at hl 1 rfl) ?_
      refine lv_iconst (v := (0 : Int32)) hx hb dX5_endsRow_75 (by decide) ?_
      refine pRX5_22 hx hb hown hts hK hP hD hS dX5_endsRow_76 (fun H locs hP hD hS => ?_)
      refine lv_iconst (v := (1 : Int32)) hx hb dX5_endsRow_79 (by decide) ?_
      exact rw_z hx hb hr hlocks rfl (fun t ht => ⟨f_5, (0 : Int32), Pg_inRow, hw, by rw [ht]; exact hP⟩) hS dX5_endsRow_80
    · have hw := hw.2 c_4
      refine lv_iconst (v := (0 : Int32)) hx hb dX5_endsRow_54 (by decide) ?_
      exact rw_z hx hb hr hlocks rfl (fun t ht => ⟨Pg_rows, Pg_inRow, Pg_width, hw, by rw [ht]; exact hP⟩) hS dX5_endsRow_55
set_option maxHeartbeats 4000000 in
set_option maxRecDepth 100000 in
theorem c_X5_endsRow (l : Launch) {D : va_G} {q : Nat → Nat} {cA : Nat → ClassId} {Fc_unkept : Int32} {Fc_tablesRead : Int32} {Pg_letters : Nat → Int32} {Pg_size : Int32} {Pg_fault : Int32} {Pg_rows : Int32} {Pg_inRow : Int32} {Pg_width : Int32} {Fl_entries : Nat → Int32} {Fl_states : Int32} {Fl_columns : Int32} {Fl_moves : Int32} {Fl_stables : Int32} {Fl_amiss : Int32} {Fl_normal : Int32} {Pt_lessers : Nat → Int32} {Pt_greaters : Nat → Int32} {Pt_size : Int32} {Lc_signals : Nat → Int32} {Lc_kept : Nat → Int64} {Lc_keptFrom : Nat → Int64} {Lc_candidates : Int32} {Lc_size : Int32} {Sc_signals : Nat → Int32} {Sc_codes : Nat → Int32} {Sc_size : Int32} {Ai_codes : Nat → Int32} {Ai_bits : Int32} {Cu_seen : Nat → Int32} {Cu_inThrees : Nat → Int32} {Cu_all : Int32} {Lo_asked : Nat → Nat → Int32} {Lo_ones : Nat → Nat → Int32} {Lo_sum : Nat → Nat → Int32} {Lo_wideSize : Nat → Int32} {Lo_sumSize : Nat → Int32} {Lo_flickers : Nat → Int32} {Lo_ready : Nat → Int32} {Wa_at : Int32} {Wa_turns : Int32} {Wa_changes : Int32} {A : Nat → Prop} {post : Int32 → Int32 → Int32 → Int32 → Prop}  (hw : wp_X5_endsRow post Pg_rows Pg_inRow Pg_width ) : Met l yX5_endsRow (Cond.code yX5_endsRow cX5_endsRow 2 (some .boolean) :: wsL_law) (rmH 0) (va_Pc [.ref (q 1)] (fun U => va_P D vwCl (wC q cA Fc_unkept Fc_tablesRead Pg_letters Pg_size Pg_fault Pg_rows Pg_inRow Pg_width Fl_entries Fl_states Fl_columns Fl_moves Fl_stables Fl_amiss Fl_normal Pt_lessers Pt_greaters Pt_size Lc_signals Lc_kept Lc_keptFrom Lc_candidates Lc_size Sc_signals Sc_codes Sc_size Ai_codes Ai_bits Cu_seen Cu_inThrees Cu_all Lo_asked Lo_ones Lo_sum Lo_wideSize Lo_sumSize Lo_flickers Lo_ready Wa_at Wa_turns Wa_changes) U.heap ∧ va_K D vwCl (tyC cA) U ∧ nwC U ∧ va_D A (wC q cA Fc_unkept Fc_tablesRead Pg_letters Pg_size Pg_fault Pg_rows Pg_inRow Pg_width Fl_entries Fl_states Fl_columns Fl_moves Fl_stables Fl_amiss Fl_normal Pt_lessers Pt_greaters Pt_size Lc_signals Lc_kept Lc_keptFrom Lc_candidates Lc_size Sc_signals Sc_codes Sc_size Ai_codes Ai_bits Cu_seen Cu_inThrees Cu_all Lo_asked Lo_ones Lo_sum Lo_wideSize Lo_sumSize Lo_flickers Lo_ready Wa_at Wa_turns Wa_changes))) (qWi (Z_X5_endsRow D q cA Fc_unkept Fc_tablesRead Pg_letters Pg_size Pg_fault Fl_entries Fl_states Fl_columns Fl_moves Fl_stables Fl_amiss Fl_normal Pt_lessers Pt_greaters Pt_size Lc_signals Lc_kept Lc_keptFrom Lc_candidates Lc_size Sc_signals Sc_codes Sc_size Ai_codes Ai_bits Cu_seen Cu_inThrees Cu_all Lo_asked Lo_ones Lo_sum Lo_wideSize Lo_sumSize Lo_flickers Lo_ready Wa_at Wa_turns Wa_changes post) A) 0 0 A := by
  refine Met.ofW (cc := cX5_endsRow) (maxL := 2) (ret := (some .boolean)) (by decide) rfl ?_
  intro p e s m args below meth c s₁ B hml hv
  obtain ⟨rfl, hP, hK, hN, hD⟩ := hv
  have X : kC p (headSpec (Cond.code yX5_endsRow cX5_endsRow 2 (some .boolean) :: wsL_law) (rmH 0)).room s m _ meth c cX5_endsRow RX5 2 (some .boolean) 0 := ⟨B.exec, B.bytes, hml, findClass_of_methodNamed B.named, fun w h => atoms_spec (ws := Cond.code yX5_endsRow cX5_endsRow 2 (some .boolean) :: wsL_law) B.pre w (List.mem_cons_of_mem _ h), B.returns, B.notSynchronized, Nat.le_refl _, Nat.le_refl _⟩
  obtain ⟨hx, hb, hml, hown, hts, hr, hlocks, hRf, hRl⟩ := id X
  have hS : va_S A s.heap s.heap [] := va_S.rf
  have hl := lv_entry ([.ref (q 1)]) (n := 2) (Nat.le_of_ble_eq_true rfl)
  rw [lg_entry_eq]
  generalize (lg_sl ([.ref (q 1)]) ++ List.replicate (2 - (lg_sl ([.ref (q 1)])).length) Slot.unset).toArray = ls at hl ⊢
  have hl : lv_has ls 2 [(0, .ref (q 1))] := hl
  refine lv_aload_n hx hb dX5_endsRow_0 rfl (lv_at hl 0 rfl) ?_
  refine gRX5_19 hx hb hown hts hK hP dX5_endsRow_1 ?_
  refine lv_iconst (v := (1 : Int32)) hx hb dX5_endsRow_4 (by decide) ?_
  refine lv_icmp_ne (tgt := 24) hx hb dX5_endsRow_5 (by decide) (fun c_1 => ?_) (fun c_1 => ?_)
  · have hw := hw.2 c_1
    refine lv_aload_n hx hb dX5_endsRow_24 rfl (lv_at hl 0 rfl) ?_
    refine gRX5_22 hx hb hown hts hK hP dX5_endsRow_25 ?_
    refine lv_aload_n hx hb dX5_endsRow_28 rfl (lv_at hl 0 rfl) ?_
    refine gRX5_25 hx hb hown hts hK hP dX5_endsRow_29 ?_
    refine lv_icmp_ne (tgt := 39) hx hb dX5_endsRow_32 (by decide) (fun c_2 => ?_) (fun c_2 => ?_)
    · have hw := hw.2 c_2
      refine lv_iconst (v := (0 : Int32)) hx hb dX5_endsRow_39 (by decide) ?_
      exact t_X5_endsRow_40 X hK hN hw ls _ _ (lv_sub hl [0] rfl) hP hD hS
    · have hw := hw.1 c_2
      refine lv_iconst (v := (1 : Int32)) hx hb dX5_endsRow_35 (by decide) ?_
      refine lv_goto (tgt := 40) hx hb dX5_endsRow_36 (by decide) ?_
      exact t_X5_endsRow_40 X hK hN hw ls _ _ (lv_sub hl [0] rfl) hP hD hS
  · have hw := hw.1 c_1
    refine lv_aload_n hx hb dX5_endsRow_8 rfl (lv_at hl 0 rfl) ?_
    refine gRX5_22 hx hb hown hts hK hP dX5_endsRow_9 ?_
    refine lv_iconst (v := (2 : Int32)) hx hb dX5_endsRow_12 (by decide) ?_
    refine lv_icmp_lt (tgt := 20) hx hb dX5_endsRow_13 (by decide) (fun c_6 => ?_) (fun c_6 => ?_)
    · have hw := hw.1 c_6
      refine lv_iconst (v := (0 : Int32)) hx hb dX5_endsRow_20 (by decide) ?_
      refine lv_goto (tgt := 40) hx hb dX5_endsRow_21 (by decide) ?_
      exact t_X5_endsRow_40 X hK hN hw ls _ _ (lv_sub hl [0] rfl) hP hD hS
    · have hw := hw.2 c_6
      refine lv_iconst (v := (1 : Int32)) hx hb dX5_endsRow_16 (by decide) ?_
      refine lv_goto (tgt := 40) hx hb dX5_endsRow_17 (by decide) ?_
      exact t_X5_endsRow_40 X hK hN hw ls _ _ (lv_sub hl [0] rfl) hP hD hS
abbrev Z_X5_fits (D : va_G) (q : Nat → Nat) (cA : Nat → ClassId) (Fc_unkept : Int32) (Fc_tablesRead : Int32) (Pg_letters : Nat → Int32) (Pg_size : Int32) (Pg_fault : Int32) (Fl_entries : Nat → Int32) (Fl_states : Int32) (Fl_columns : Int32) (Fl_moves : Int32) (Fl_stables : Int32) (Fl_amiss : Int32) (Fl_normal : Int32) (Pt_lessers : Nat → Int32) (Pt_greaters : Nat → Int32) (Pt_size : Int32) (Lc_signals : Nat → Int32) (Lc_kept : Nat → Int64) (Lc_keptFrom : Nat → Int64) (Lc_candidates : Int32) (Lc_size : Int32) (Sc_signals : Nat → Int32) (Sc_codes : Nat → Int32) (Sc_size : Int32) (Ai_codes : Nat → Int32) (Ai_bits : Int32) (Cu_seen : Nat → Int32) (Cu_inThrees : Nat → Int32) (Cu_all : Int32) (Lo_asked : Nat → Nat → Int32) (Lo_ones : Nat → Nat → Int32) (Lo_sum : Nat → Nat → Int32) (Lo_wideSize : Nat → Int32) (Lo_sumSize : Nat → Int32) (Lo_flickers : Nat → Int32) (Lo_ready : Nat → Int32) (Wa_at : Int32) (Wa_turns : Int32) (Wa_changes : Int32) (post : Int32 → Int32 → Int32 → Int32 → Prop) : Int32 → State → Prop := fun r t => ∃ (y_Pg_rows : Int32) (y_Pg_inRow : Int32) (y_Pg_width : Int32), post r y_Pg_rows y_Pg_inRow y_Pg_width ∧ va_P D vwCl (wC q cA Fc_unkept Fc_tablesRead Pg_letters Pg_size Pg_fault y_Pg_rows y_Pg_inRow y_Pg_width Fl_entries Fl_states Fl_columns Fl_moves Fl_stables Fl_amiss Fl_normal Pt_lessers Pt_greaters Pt_size Lc_signals Lc_kept Lc_keptFrom Lc_candidates Lc_size Sc_signals Sc_codes Sc_size Ai_codes Ai_bits Cu_seen Cu_inThrees Cu_all Lo_asked Lo_ones Lo_sum Lo_wideSize Lo_sumSize Lo_flickers Lo_ready Wa_at Wa_turns Wa_changes) t.heap
set_option maxHeartbeats 4000000 in
set_option maxRecDepth 100000 in
theorem t_X5_fits_47 {p : Program} {l : Launch} {e : Env} {R : Room} {s : State} {m : MethodId} {args : Array Value} {below : List Frame} {meth : Method} {c : Code} {A : Nat → Prop} {D : va_G} {q : Nat → Nat} {cA : Nat → ClassId} {Fc_unkept : Int32} {Fc_tablesRead : Int32} {Pg_letters : Nat → Int32} {Pg_size : Int32} {Pg_fault : Int32} {Pg_rows : Int32} {Pg_inRow : Int32} {Pg_width : Int32} {Fl_entries : Nat → Int32} {Fl_states : Int32} {Fl_columns : Int32} {Fl_moves : Int32} {Fl_stables : Int32} {Fl_amiss : Int32} {Fl_normal : Int32} {Pt_lessers : Nat → Int32} {Pt_greaters : Nat → Int32} {Pt_size : Int32} {Lc_signals : Nat → Int32} {Lc_kept : Nat → Int64} {Lc_keptFrom : Nat → Int64} {Lc_candidates : Int32} {Lc_size : Int32} {Sc_signals : Nat → Int32} {Sc_codes : Nat → Int32} {Sc_size : Int32} {Ai_codes : Nat → Int32} {Ai_bits : Int32} {Cu_seen : Nat → Int32} {Cu_inThrees : Nat → Int32} {Cu_all : Int32} {Lo_asked : Nat → Nat → Int32} {Lo_ones : Nat → Nat → Int32} {Lo_sum : Nat → Nat → Int32} {Lo_wideSize : Nat → Int32} {Lo_sumSize : Nat → Int32} {Lo_flickers : Nat → Int32} {Lo_ready : Nat → Int32} {Wa_at : Int32} {Wa_turns : Int32} {Wa_changes : Int32} {post : Int32 → Int32 → Int32 → Int32 → Prop} {v0 : Int32} {v1 : Int32} (X : kC p R s m args meth c cX5_fits RX5 2 (some .boolean) 1) (hK : va_K D vwCl (tyC cA) s) (hN : nwC s) (hw : j_X5_fits_47 post Pg_rows Pg_inRow Pg_width v0 v1) (ls : Array Slot) (H : Heap) (locs : List Loc) (hl : lv_has ls 2 [(0, .ref (q 1))]) (hP : va_P D vwCl (wC q cA Fc_unkept Fc_tablesRead Pg_letters Pg_size Pg_fault Pg_rows Pg_inRow Pg_width Fl_entries Fl_states Fl_columns Fl_moves Fl_stables Fl_amiss Fl_normal Pt_lessers Pt_greaters Pt_size Lc_signals Lc_kept Lc_keptFrom Lc_candidates Lc_size Sc_signals Sc_codes Sc_size Ai_codes Ai_bits Cu_seen Cu_inThrees Cu_all Lo_asked Lo_ones Lo_sum Lo_wideSize Lo_sumSize Lo_flickers Lo_ready Wa_at Wa_turns Wa_changes) H) (hD : va_D A (wC q cA Fc_unkept Fc_tablesRead Pg_letters Pg_size Pg_fault Pg_rows Pg_inRow Pg_width Fl_entries Fl_states Fl_columns Fl_moves Fl_stables Fl_amiss Fl_normal Pt_lessers Pt_greaters Pt_size Lc_signals Lc_kept Lc_keptFrom Lc_candidates Lc_size Sc_signals Sc_codes Sc_size Ai_codes Ai_bits Cu_seen Cu_inThrees Cu_all Lo_asked Lo_ones Lo_sum Lo_wideSize Lo_sumSize Lo_flickers Lo_ready Wa_at Wa_turns Wa_changes)) (hS : va_S A s.heap H locs) : W p l e R s m args below meth c H locs 0 0 (MQ below (qWi (Z_X5_fits D q cA Fc_unkept Fc_tablesRead Pg_letters Pg_size Pg_fault Fl_entries Fl_states Fl_columns Fl_moves Fl_stables Fl_amiss Fl_normal Pt_lessers Pt_greaters Pt_size Lc_signals Lc_kept Lc_keptFrom Lc_candidates Lc_size Sc_signals Sc_codes Sc_size Ai_codes Ai_bits Cu_seen Cu_inThrees Cu_all Lo_asked Lo_ones Lo_sum Lo_wideSize Lo_sumSize Lo_flickers Lo_ready Wa_at Wa_turns Wa_changes post) A) args s 0 0 A) (F0 m 47 ls [.int v0, .int v1]) := by
  obtain ⟨hx, hb, hml, hown, hts, hr, hlocks, hRf, hRl⟩ := id X
  refine lv_icmp_lt (tgt := 52) hx hb dX5_fits_47 (by decide) (fun c_4 => ?_) (fun c_4 => ?_)
  · have hw := hw.1 c_4
    refine lv_aload_n hx hb dX5_fits_52 rfl (lv_at hl 0 rfl) ?_
    refine lv_dup hx hb dX5_fits_53 rfl ?_
    refine gRX5_22 hx hb hown hts hK hP dX5_fits_54 ?_
    refine lv_iconst (v := (1 : Int32)) hx hb dX5_fits_57 (by decide) ?_
    refine lv_iadd hx hb dX5_fits_58 ?_
    refine lv_topi (fun f_5 e_5 => ?_)
    have hw := hw f_5 e_5
    refine pRX5_22 hx hb hown hts hK hP hD hS dX5_fits_59 (fun H locs hP hD hS => ?_)
    refine lv_iconst (v := (1 : Int32)) hx hb dX5_fits_62 (by decide) ?_
    exact rw_z hx hb hr hlocks rfl (fun t ht => ⟨Pg_rows, f_5, Pg_width, hw, by rw [ht]; exact hP⟩) hS dX5_fits_63
  · have hw := hw.2 c_4
    refine lv_iconst (v := (0 : Int32)) hx hb dX5_fits_50 (by decide) ?_
    exact rw_z hx hb hr hlocks rfl (fun t ht => ⟨Pg_rows, Pg_inRow, Pg_width, hw, by rw [ht]; exact hP⟩) hS dX5_fits_51
set_option maxHeartbeats 4000000 in
set_option maxRecDepth 100000 in
theorem t_X5_fits_27 {p : Program} {l : Launch} {e : Env} {R : Room} {s : State} {m : MethodId} {args : Array Value} {below : List Frame} {meth : Method} {c : Code} {A : Nat → Prop} {D : va_G} {q : Nat → Nat} {cA : Nat → ClassId} {Fc_unkept : Int32} {Fc_tablesRead : Int32} {Pg_letters : Nat → Int32} {Pg_size : Int32} {Pg_fault : Int32} {Pg_rows : Int32} {Pg_inRow : Int32} {Pg_width : Int32} {Fl_entries : Nat → Int32} {Fl_states : Int32} {Fl_columns : Int32} {Fl_moves : Int32} {Fl_stables : Int32} {Fl_amiss : Int32} {Fl_normal : Int32} {Pt_lessers : Nat → Int32} {Pt_greaters : Nat → Int32} {Pt_size : Int32} {Lc_signals : Nat → Int32} {Lc_kept : Nat → Int64} {Lc_keptFrom : Nat → Int64} {Lc_candidates : Int32} {Lc_size : Int32} {Sc_signals : Nat → Int32} {Sc_codes : Nat → Int32} {Sc_size : Int32} {Ai_codes : Nat → Int32} {Ai_bits : Int32} {Cu_seen : Nat → Int32} {Cu_inThrees : Nat → Int32} {Cu_all : Int32} {Lo_asked : Nat → Nat → Int32} {Lo_ones : Nat → Nat → Int32} {Lo_sum : Nat → Nat → Int32} {Lo_wideSize : Nat → Int32} {Lo_sumSize : Nat → Int32} {Lo_flickers : Nat → Int32} {Lo_ready : Nat → Int32} {Wa_at : Int32} {Wa_turns : Int32} {Wa_changes : Int32} {post : Int32 → Int32 → Int32 → Int32 → Prop} (X : kC p R s m args meth c cX5_fits RX5 2 (some .boolean) 1) (hK : va_K D vwCl (tyC cA) s) (hN : nwC s) (hw : j_X5_fits_27 post Pg_rows Pg_inRow Pg_width) (ls : Array Slot) (H : Heap) (locs : List Loc) (hl : lv_has ls 2 [(0, .ref (q 1))]) (hP : va_P D vwCl (wC q cA Fc_unkept Fc_tablesRead Pg_letters Pg_size Pg_fault Pg_rows Pg_inRow Pg_width Fl_entries Fl_states Fl_columns Fl_moves Fl_stables Fl_amiss Fl_normal Pt_lessers Pt_greaters Pt_size Lc_signals Lc_kept Lc_keptFrom Lc_candidates Lc_size Sc_signals Sc_codes Sc_size Ai_codes Ai_bits Cu_seen Cu_inThrees Cu_all Lo_asked Lo_ones Lo_sum Lo_wideSize Lo_sumSize Lo_flickers Lo_ready Wa_at Wa_turns Wa_changes) H) (hD : va_D A (wC q cA Fc_unkept Fc_tablesRead Pg_letters Pg_size Pg_fault Pg_rows Pg_inRow Pg_width Fl_entries Fl_states Fl_columns Fl_moves Fl_stables Fl_amiss Fl_normal Pt_lessers Pt_greaters Pt_size Lc_signals Lc_kept Lc_keptFrom Lc_candidates Lc_size Sc_signals Sc_codes Sc_size Ai_codes Ai_bits Cu_seen Cu_inThrees Cu_all Lo_asked Lo_ones Lo_sum Lo_wideSize Lo_sumSize Lo_flickers Lo_ready Wa_at Wa_turns Wa_changes)) (hS : va_S A s.heap H locs) : W p l e R s m args below meth c H locs 0 0 (MQ below (qWi (Z_X5_fits D q cA Fc_unkept Fc_tablesRead Pg_letters Pg_size Pg_fault Fl_entries Fl_states Fl_columns Fl_moves Fl_stables Fl_amiss Fl_normal Pt_lessers Pt_greaters Pt_size Lc_signals Lc_kept Lc_keptFrom Lc_candidates Lc_size Sc_signals Sc_codes Sc_size Ai_codes Ai_bits Cu_seen Cu_inThrees Cu_all Lo_asked Lo_ones Lo_sum Lo_wideSize Lo_sumSize Lo_flickers Lo_ready Wa_at Wa_turns Wa_changes post) A) args s 0 0 A) (F0 m 27 ls []) := by
  obtain ⟨hx, hb, hml, hown, hts, hr, hlocks, hRf, hRl⟩ := id X
  refine lv_aload_n hx hb dX5_fits_27 rfl (lv_at hl 0 rfl) ?_
  refine gRX5_22 hx hb hown hts hK hP dX5_fits_28 ?_
  refine lv_aload_n hx hb dX5_fits_31 rfl (lv_at hl 0 rfl) ?_
  refine gRX5_19 hx hb hown hts hK hP dX5_fits_32 ?_
  refine lv_iconst (v := (1 : Int32)) hx hb dX5_fits_35 (by decide) ?_
  refine lv_icmp_ne (tgt := 43) hx hb dX5_fits_36 (by decide) (fun c_3 => ?_) (fun c_3 => ?_)
  · have hw := hw.2 c_3
    refine lv_aload_n hx hb dX5_fits_43 rfl (lv_at hl 0 rfl) ?_
    refine gRX5_25 hx hb hown hts hK hP dX5_fits_44 ?_
    exact t_X5_fits_47 X hK hN hw ls _ _ (lv_sub hl [0] rfl) hP hD hS
  · have hw := hw.1 c_3
    refine lv_iconst (v := (4 : Int32)) hx hb dX5_fits_39 (by decide) ?_
    refine lv_goto (tgt := 47) hx hb dX5_fits_40 (by decide) ?_
    exact t_X5_fits_47 X hK hN hw ls _ _ (lv_sub hl [0] rfl) hP hD hS
set_option maxHeartbeats 4000000 in
set_option maxRecDepth 100000 in
theorem c_X5_fits (l : Launch) {D : va_G} {q : Nat → Nat} {cA : Nat → ClassId} {Fc_unkept : Int32} {Fc_tablesRead : Int32} {Pg_letters : Nat → Int32} {Pg_size : Int32} {Pg_fault : Int32} {Pg_rows : Int32} {Pg_inRow : Int32} {Pg_width : Int32} {Fl_entries : Nat → Int32} {Fl_states : Int32} {Fl_columns : Int32} {Fl_moves : Int32} {Fl_stables : Int32} {Fl_amiss : Int32} {Fl_normal : Int32} {Pt_lessers : Nat → Int32} {Pt_greaters : Nat → Int32} {Pt_size : Int32} {Lc_signals : Nat → Int32} {Lc_kept : Nat → Int64} {Lc_keptFrom : Nat → Int64} {Lc_candidates : Int32} {Lc_size : Int32} {Sc_signals : Nat → Int32} {Sc_codes : Nat → Int32} {Sc_size : Int32} {Ai_codes : Nat → Int32} {Ai_bits : Int32} {Cu_seen : Nat → Int32} {Cu_inThrees : Nat → Int32} {Cu_all : Int32} {Lo_asked : Nat → Nat → Int32} {Lo_ones : Nat → Nat → Int32} {Lo_sum : Nat → Nat → Int32} {Lo_wideSize : Nat → Int32} {Lo_sumSize : Nat → Int32} {Lo_flickers : Nat → Int32} {Lo_ready : Nat → Int32} {Wa_at : Int32} {Wa_turns : Int32} {Wa_changes : Int32} {A : Nat → Prop} {post : Int32 → Int32 → Int32 → Int32 → Prop} {x1 : Int32} (hw : wp_X5_fits post Pg_rows Pg_inRow Pg_width x1) : Met l yX5_fits (Cond.code yX5_fits cX5_fits 2 (some .boolean) :: wsL_law) (rmH 1) (va_Pc [.ref (q 1), .int x1] (fun U => va_P D vwCl (wC q cA Fc_unkept Fc_tablesRead Pg_letters Pg_size Pg_fault Pg_rows Pg_inRow Pg_width Fl_entries Fl_states Fl_columns Fl_moves Fl_stables Fl_amiss Fl_normal Pt_lessers Pt_greaters Pt_size Lc_signals Lc_kept Lc_keptFrom Lc_candidates Lc_size Sc_signals Sc_codes Sc_size Ai_codes Ai_bits Cu_seen Cu_inThrees Cu_all Lo_asked Lo_ones Lo_sum Lo_wideSize Lo_sumSize Lo_flickers Lo_ready Wa_at Wa_turns Wa_changes) U.heap ∧ va_K D vwCl (tyC cA) U ∧ nwC U ∧ va_D A (wC q cA Fc_unkept Fc_tablesRead Pg_letters Pg_size Pg_fault Pg_rows Pg_inRow Pg_width Fl_entries Fl_states Fl_columns Fl_moves Fl_stables Fl_amiss Fl_normal Pt_lessers Pt_greaters Pt_size Lc_signals Lc_kept Lc_keptFrom Lc_candidates Lc_size Sc_signals Sc_codes Sc_size Ai_codes Ai_bits Cu_seen Cu_inThrees Cu_all Lo_asked Lo_ones Lo_sum Lo_wideSize Lo_sumSize Lo_flickers Lo_ready Wa_at Wa_turns Wa_changes))) (qWi (Z_X5_fits D q cA Fc_unkept Fc_tablesRead Pg_letters Pg_size Pg_fault Fl_entries Fl_states Fl_columns Fl_moves Fl_stables Fl_amiss Fl_normal Pt_lessers Pt_greaters Pt_size Lc_signals Lc_kept Lc_keptFrom Lc_candidates Lc_size Sc_signals Sc_codes Sc_size Ai_codes Ai_bits Cu_seen Cu_inThrees Cu_all Lo_asked Lo_ones Lo_sum Lo_wideSize Lo_sumSize Lo_flickers Lo_ready Wa_at Wa_turns Wa_changes post) A) 0 0 A := by
  refine Met.ofW (cc := cX5_fits) (maxL := 2) (ret := (some .boolean)) (by decide) rfl ?_
  intro p e s m args below meth c s₁ B hml hv
  obtain ⟨rfl, hP, hK, hN, hD⟩ := hv
  have X : kC p (headSpec (Cond.code yX5_fits cX5_fits 2 (some .boolean) :: wsL_law) (rmH 1)).room s m _ meth c cX5_fits RX5 2 (some .boolean) 1 := ⟨B.exec, B.bytes, hml, findClass_of_methodNamed B.named, fun w h => atoms_spec (ws := Cond.code yX5_fits cX5_fits 2 (some .boolean) :: wsL_law) B.pre w (List.mem_cons_of_mem _ h), B.returns, B.notSynchronized, Nat.le_refl _, Nat.le_refl _⟩
  obtain ⟨hx, hb, hml, hown, hts, hr, hlocks, hRf, hRl⟩ := id X
  have hS : va_S A s.heap s.heap [] := va_S.rf
  have hl := lv_entry ([.ref (q 1), .int x1]) (n := 2) (Nat.le_of_ble_eq_true rfl)
  rw [lg_entry_eq]
  generalize (lg_sl ([.ref (q 1), .int x1]) ++ List.replicate (2 - (lg_sl ([.ref (q 1), .int x1])).length) Slot.unset).toArray = ls at hl ⊢
  have hl : lv_has ls 2 [(0, .ref (q 1)), (1, .int x1)] := hl
  refine lv_iload_n hx hb dX5_fits_0 rfl (lv_at hl 1 rfl) ?_
  refine lv_bipush (v := (59 : Int32)) hx hb dX5_fits_1 (by decide +kernel) ?_
  refine lv_icmp_ne (tgt := 11) hx hb dX5_fits_3 (by decide) (fun c_1 => ?_) (fun c_1 => ?_)
  · have hw := hw.2 c_1
    refine lv_iload_n hx hb dX5_fits_11 rfl (lv_at hl 1 rfl) ?_
    refine lv_bipush (v := (45 : Int32)) hx hb dX5_fits_12 (by decide +kernel) ?_
    refine lv_icmp_eq (tgt := 27) hx hb dX5_fits_14 (by decide) (fun c_2 => ?_) (fun c_2 => ?_)
    · have hw := hw.1 c_2
      exact t_X5_fits_27 X hK hN hw ls _ _ (lv_sub hl [0] rfl) hP hD hS
    · have hw := hw.2 c_2
      refine lv_iload_n hx hb dX5_fits_17 rfl (lv_at hl 1 rfl) ?_
      refine ro_i (va_runS (As := [.int x1]) (rest := []) ⟨hx, hb, hml, hown, hts⟩ (c_X5_stateOf l hw) (kRX5_39 (h := 0) hts (Nat.le_trans (Nat.le_of_ble_eq_true rfl) hRf) (Nat.le_trans (Nat.le_of_ble_eq_true rfl) hRl)) pre_0 rfl rfl hl.1 rfl (lv_room (Nat.le_of_ble_eq_true rfl)) dX5_fits_18 ⟨Nat.zero_le _, Nat.zero_le _⟩) (fun r_6 hw => ?_)
      refine lv_iconst (v := ((-1) : Int32)) hx hb dX5_fits_21 (by decide) ?_
      refine lv_icmp_ne (tgt := 27) hx hb dX5_fits_22 (by decide) (fun c_7 => ?_) (fun c_7 => ?_)
      · have hw := hw.2 c_7
        exact t_X5_fits_27 X hK hN hw ls _ _ (lv_sub hl [0] rfl) hP hD hS
      · have hw := hw.1 c_7
        refine lv_iconst (v := (0 : Int32)) hx hb dX5_fits_25 (by decide) ?_
        exact rw_z hx hb hr hlocks rfl (fun t ht => ⟨Pg_rows, Pg_inRow, Pg_width, hw, by rw [ht]; exact hP⟩) hS dX5_fits_26
  · have hw := hw.1 c_1
    refine lv_aload_n hx hb dX5_fits_6 rfl (lv_at hl 0 rfl) ?_
    refine wr_i (va_runV (As := []) (rest := []) ⟨hx, hb, hml, hown, hts⟩ (c_X5_endsRow l hw) (kRX5_35 (h := 0) hts (Nat.le_trans (Nat.le_of_ble_eq_true rfl) hRf) (Nat.le_trans (Nat.le_of_ble_eq_true rfl) hRl)) (preX5w hK hN hP hD) rfl rfl hl.1 rfl (lv_room (Nat.le_of_ble_eq_true rfl)) dX5_fits_7 ⟨Nat.zero_le _, Nat.zero_le _⟩) hS (fun r_8 t H locs ht hw hS => ?_)
    obtain ⟨yrows_8, yinRow_8, ywidth_8, hw, hP⟩ := hw
    rw [ht] at hP
    have hP : va_P D vwCl (wC q cA Fc_unkept Fc_tablesRead Pg_letters Pg_size Pg_fault yrows_8 yinRow_8 ywidth_8 Fl_entries Fl_states Fl_columns Fl_moves Fl_stables Fl_amiss Fl_normal Pt_lessers Pt_greaters Pt_size Lc_signals Lc_kept Lc_keptFrom Lc_candidates Lc_size Sc_signals Sc_codes Sc_size Ai_codes Ai_bits Cu_seen Cu_inThrees Cu_all Lo_asked Lo_ones Lo_sum Lo_wideSize Lo_sumSize Lo_flickers Lo_ready Wa_at Wa_turns Wa_changes) H := hP
    have hD : va_D A (wC q cA Fc_unkept Fc_tablesRead Pg_letters Pg_size Pg_fault yrows_8 yinRow_8 ywidth_8 Fl_entries Fl_states Fl_columns Fl_moves Fl_stables Fl_amiss Fl_normal Pt_lessers Pt_greaters Pt_size Lc_signals Lc_kept Lc_keptFrom Lc_candidates Lc_size Sc_signals Sc_codes Sc_size Ai_codes Ai_bits Cu_seen Cu_inThrees Cu_all Lo_asked Lo_ones Lo_sum Lo_wideSize Lo_sumSize Lo_flickers Lo_ready Wa_at Wa_turns Wa_changes) := dC hD
    have hz := hw.1
    have hw := hw.2
    exact rw_z hx hb hr hlocks hz (fun t ht => ⟨yrows_8, yinRow_8, ywidth_8, hw, by rw [ht]; exact hP⟩) hS dX5_fits_10
abbrev Z_X5_scan (D : va_G) (q : Nat → Nat) (cA : Nat → ClassId) (Fc_unkept : Int32) (Fc_tablesRead : Int32) (Pg_letters : Nat → Int32) (Pg_size : Int32) (Fl_entries : Nat → Int32) (Fl_states : Int32) (Fl_columns : Int32) (Fl_moves : Int32) (Fl_stables : Int32) (Fl_amiss : Int32) (Fl_normal : Int32) (Pt_lessers : Nat → Int32) (Pt_greaters : Nat → Int32) (Pt_size : Int32) (Lc_signals : Nat → Int32) (Lc_kept : Nat → Int64) (Lc_keptFrom : Nat → Int64) (Lc_candidates : Int32) (Lc_size : Int32) (Sc_signals : Nat → Int32) (Sc_codes : Nat → Int32) (Sc_size : Int32) (Ai_codes : Nat → Int32) (Ai_bits : Int32) (Cu_seen : Nat → Int32) (Cu_inThrees : Nat → Int32) (Cu_all : Int32) (Lo_asked : Nat → Nat → Int32) (Lo_ones : Nat → Nat → Int32) (Lo_sum : Nat → Nat → Int32) (Lo_wideSize : Nat → Int32) (Lo_sumSize : Nat → Int32) (Lo_flickers : Nat → Int32) (Lo_ready : Nat → Int32) (Wa_at : Int32) (Wa_turns : Int32) (Wa_changes : Int32) (post : Int32 → Int32 → Int32 → Int32 → Prop) : State → Prop := fun t => ∃ (y_Pg_fault : Int32) (y_Pg_rows : Int32) (y_Pg_inRow : Int32) (y_Pg_width : Int32), post y_Pg_fault y_Pg_rows y_Pg_inRow y_Pg_width ∧ va_P D vwCl (wC q cA Fc_unkept Fc_tablesRead Pg_letters Pg_size y_Pg_fault y_Pg_rows y_Pg_inRow y_Pg_width Fl_entries Fl_states Fl_columns Fl_moves Fl_stables Fl_amiss Fl_normal Pt_lessers Pt_greaters Pt_size Lc_signals Lc_kept Lc_keptFrom Lc_candidates Lc_size Sc_signals Sc_codes Sc_size Ai_codes Ai_bits Cu_seen Cu_inThrees Cu_all Lo_asked Lo_ones Lo_sum Lo_wideSize Lo_sumSize Lo_flickers Lo_ready Wa_at Wa_turns Wa_changes) t.heap
set_option maxHeartbeats 4000000 in
set_option maxRecDepth 100000 in
theorem t_X5_scan_20 {p : Program} {l : Launch} {e : Env} {R : Room} {s : State} {m : MethodId} {args : Array Value} {below : List Frame} {meth : Method} {c : Code} {A : Nat → Prop} {D : va_G} {q : Nat → Nat} {cA : Nat → ClassId} {Fc_unkept : Int32} {Fc_tablesRead : Int32} {Pg_letters : Nat → Int32} {Pg_size : Int32} {Fl_entries : Nat → Int32} {Fl_states : Int32} {Fl_columns : Int32} {Fl_moves : Int32} {Fl_stables : Int32} {Fl_amiss : Int32} {Fl_normal : Int32} {Pt_lessers : Nat → Int32} {Pt_greaters : Nat → Int32} {Pt_size : Int32} {Lc_signals : Nat → Int32} {Lc_kept : Nat → Int64} {Lc_keptFrom : Nat → Int64} {Lc_candidates : Int32} {Lc_size : Int32} {Sc_signals : Nat → Int32} {Sc_codes : Nat → Int32} {Sc_size : Int32} {Ai_codes : Nat → Int32} {Ai_bits : Int32} {Cu_seen : Nat → Int32} {Cu_inThrees : Nat → Int32} {Cu_all : Int32} {Lo_asked : Nat → Nat → Int32} {Lo_ones : Nat → Nat → Int32} {Lo_sum : Nat → Nat → Int32} {Lo_wideSize : Nat → Int32} {Lo_sumSize : Nat → Int32} {Lo_flickers : Nat → Int32} {Lo_ready : Nat → Int32} {Wa_at : Int32} {Wa_turns : Int32} {Wa_changes : Int32} {post : Int32 → Int32 → Int32 → Int32 → Prop} {KE : Int32 → Int32 → Int32 → Int32 → Prop} (X : kC p R s m args meth c cX5_scan RX5 1 none 2) (hK : va_K D vwCl (tyC cA) s) (hN : nwC s) (hE : ∀ (Pg_fault : Int32) (Pg_rows : Int32) (Pg_inRow : Int32) (Pg_width : Int32), KE Pg_fault Pg_rows Pg_inRow Pg_width → ∀ (ls : Array Slot) (H : Heap) (locs : List Loc), lv_has ls 1 [] → va_P D vwCl (wC q cA Fc_unkept Fc_tablesRead Pg_letters Pg_size Pg_fault Pg_rows Pg_inRow Pg_width Fl_entries Fl_states Fl_columns Fl_moves Fl_stables Fl_amiss Fl_normal Pt_lessers Pt_greaters Pt_size Lc_signals Lc_kept Lc_keptFrom Lc_candidates Lc_size Sc_signals Sc_codes Sc_size Ai_codes Ai_bits Cu_seen Cu_inThrees Cu_all Lo_asked Lo_ones Lo_sum Lo_wideSize Lo_sumSize Lo_flickers Lo_ready Wa_at Wa_turns Wa_changes) H → va_D A (wC q cA Fc_unkept Fc_tablesRead Pg_letters Pg_size Pg_fault Pg_rows Pg_inRow Pg_width Fl_entries Fl_states Fl_columns Fl_moves Fl_stables Fl_amiss Fl_normal Pt_lessers Pt_greaters Pt_size Lc_signals Lc_kept Lc_keptFrom Lc_candidates Lc_size Sc_signals Sc_codes Sc_size Ai_codes Ai_bits Cu_seen Cu_inThrees Cu_all Lo_asked Lo_ones Lo_sum Lo_wideSize Lo_sumSize Lo_flickers Lo_ready Wa_at Wa_turns Wa_changes) → va_S A s.heap H locs → W p l e R s m args below meth c H locs 0 0 (MQ below (qWv (Z_X5_scan D q cA Fc_unkept Fc_tablesRead Pg_letters Pg_size Fl_entries Fl_states Fl_columns Fl_moves Fl_stables Fl_amiss Fl_normal Pt_lessers Pt_greaters Pt_size Lc_signals Lc_kept Lc_keptFrom Lc_candidates Lc_size Sc_signals Sc_codes Sc_size Ai_codes Ai_bits Cu_seen Cu_inThrees Cu_all Lo_asked Lo_ones Lo_sum Lo_wideSize Lo_sumSize Lo_flickers Lo_ready Wa_at Wa_turns Wa_changes post) A) args s 0 0 A) (F0 m 60 ls [])) : ∀ (n : Nat) (Pg_fault : Int32) (Pg_rows : Int32) (Pg_inRow : Int32) (Pg_width : Int32), w_X5_scan_20 KE Pg_letters Pg_size n Pg_fault Pg_rows Pg_inRow Pg_width → ∀ (ls : Array Slot) (H : Heap) (locs : List Loc), lv_has ls 1 [(0, .ref (q 1))] → va_P D vwCl (wC q cA Fc_unkept Fc_tablesRead Pg_letters Pg_size Pg_fault Pg_rows Pg_inRow Pg_width Fl_entries Fl_states Fl_columns Fl_moves Fl_stables Fl_amiss Fl_normal Pt_lessers Pt_greaters Pt_size Lc_signals Lc_kept Lc_keptFrom Lc_candidates Lc_size Sc_signals Sc_codes Sc_size Ai_codes Ai_bits Cu_seen Cu_inThrees Cu_all Lo_asked Lo_ones Lo_sum Lo_wideSize Lo_sumSize Lo_flickers Lo_ready Wa_at Wa_turns Wa_changes) H → va_D A (wC q cA Fc_unkept Fc_tablesRead Pg_letters Pg_size Pg_fault Pg_rows Pg_inRow Pg_width Fl_entries Fl_states Fl_columns Fl_moves Fl_stables Fl_amiss Fl_normal Pt_lessers Pt_greaters Pt_size Lc_signals Lc_kept Lc_keptFrom Lc_candidates Lc_size Sc_signals Sc_codes Sc_size Ai_codes Ai_bits Cu_seen Cu_inThrees Cu_all Lo_asked Lo_ones Lo_sum Lo_wideSize Lo_sumSize Lo_flickers Lo_ready Wa_at Wa_turns Wa_changes) → va_S A s.heap H locs → W p l e R s m args below meth c H locs 0 0 (MQ below (qWv (Z_X5_scan D q cA Fc_unkept Fc_tablesRead Pg_letters Pg_size Fl_entries Fl_states Fl_columns Fl_moves Fl_stables Fl_amiss Fl_normal Pt_lessers Pt_greaters Pt_size Lc_signals Lc_kept Lc_keptFrom Lc_candidates Lc_size Sc_signals Sc_codes Sc_size Ai_codes Ai_bits Cu_seen Cu_inThrees Cu_all Lo_asked Lo_ones Lo_sum Lo_wideSize Lo_sumSize Lo_flickers Lo_ready Wa_at Wa_turns Wa_changes post) A) args s 0 0 A) (F0 m 20 ls []) := by
  obtain ⟨hx, hb, hml, hown, hts, hr, hlocks, hRf, hRl⟩ := id X
  intro n
  induction n with
  | zero => intro Pg_fault Pg_rows Pg_inRow Pg_width hw; exact (show False from hw).elim
  | succ n ih =>
    intro Pg_fault Pg_rows Pg_inRow Pg_width hw ls H locs hl hP hD hS
    refine lv_aload_n hx hb dX5_scan_20 rfl (lv_at hl 0 rfl) ?_
    refine gRX5_28 hx hb hown hts hK hP dX5_scan_21 ?_
    refine lv_aload_n hx hb dX5_scan_24 rfl (lv_at hl 0 rfl) ?_
    refine gRX5_15 hx hb hown hts hK hP dX5_scan_25 ?_
    refine lv_icmp_ge (tgt := 60) hx hb dX5_scan_28 (by decide) (fun c_1 => ?_) (fun c_1 => ?_)
    · have hw := hw.1 c_1
      exact hE _ _ _ _ hw ls _ _ (lv_sub hl [] rfl) hP hD hS
    · have hw := hw.2 c_1
      refine lv_aload_n hx hb dX5_scan_31 rfl (lv_at hl 0 rfl) ?_
      refine lv_aload_n hx hb dX5_scan_32 rfl (lv_at hl 0 rfl) ?_
      refine gRX5_9 hx hb hown hts hK hP dX5_scan_33 ?_
      refine lv_aload_n hx hb dX5_scan_36 rfl (lv_at hl 0 rfl) ?_
      refine gRX5_28 hx hb hown hts hK hP dX5_scan_37 ?_
      have h_2 := hw.1
      have hw := hw.2
      refine ld_Pg_letters hx hb hK hP h_2 dX5_scan_40 ?_
      refine wr_i (va_runV (As := [.int (Pg_letters Pg_fault.toNatClampNeg)]) (rest := []) ⟨hx, hb, hml, hown, hts⟩ (c_X5_fits l hw) (kRX5_31 (h := 1) hts (Nat.le_trans (Nat.le_of_ble_eq_true rfl) hRf) (Nat.le_trans (Nat.le_of_ble_eq_true rfl) hRl)) (preX5w hK hN hP hD) rfl rfl hl.1 rfl (lv_room (Nat.le_of_ble_eq_true rfl)) dX5_scan_41 ⟨Nat.zero_le _, Nat.zero_le _⟩) hS (fun r_3 t H locs ht hw hS => ?_)
      obtain ⟨yrows_3, yinRow_3, ywidth_3, hw, hP⟩ := hw
      rw [ht] at hP
      have hP : va_P D vwCl (wC q cA Fc_unkept Fc_tablesRead Pg_letters Pg_size Pg_fault yrows_3 yinRow_3 ywidth_3 Fl_entries Fl_states Fl_columns Fl_moves Fl_stables Fl_amiss Fl_normal Pt_lessers Pt_greaters Pt_size Lc_signals Lc_kept Lc_keptFrom Lc_candidates Lc_size Sc_signals Sc_codes Sc_size Ai_codes Ai_bits Cu_seen Cu_inThrees Cu_all Lo_asked Lo_ones Lo_sum Lo_wideSize Lo_sumSize Lo_flickers Lo_ready Wa_at Wa_turns Wa_changes) H := hP
      have hD : va_D A (wC q cA Fc_unkept Fc_tablesRead Pg_letters Pg_size Pg_fault yrows_3 yinRow_3 ywidth_3 Fl_entries Fl_states Fl_columns Fl_moves Fl_stables Fl_amiss Fl_normal Pt_lessers Pt_greaters Pt_size Lc_signals Lc_kept Lc_keptFrom Lc_candidates Lc_size Sc_signals Sc_codes Sc_size Ai_codes Ai_bits Cu_seen Cu_inThrees Cu_all Lo_asked Lo_ones Lo_sum Lo_wideSize Lo_sumSize Lo_flickers Lo_ready Wa_at Wa_turns Wa_changes) := dC hD
      refine lv_if_eq (tgt := 60) hx hb dX5_scan_44 (by decide) (fun c_4 => ?_) (fun c_4 => ?_)
      · have hw := hw.1 c_4
        exact hE _ _ _ _ hw ls _ _ (lv_sub hl [] rfl) hP hD hS
      · have hw := hw.2 c_4
        refine lv_aload_n hx hb dX5_scan_47 rfl (lv_at hl 0 rfl) ?_
        refine lv_dup hx hb dX5_scan_48 rfl ?_
        refine gRX5_28 hx hb hown hts hK hP dX5_scan_49 ?_
        refine lv_iconst (v := (1 : Int32)) hx hb dX5_scan_52 (by decide) ?_
        refine lv_iadd hx hb dX5_scan_53 ?_
        refine lv_topi (fun f_5 e_5 => ?_)
        have hw := hw f_5 e_5
        refine pRX5_28 hx hb hown hts hK hP hD hS dX5_scan_54 (fun H locs hP hD hS => ?_)
        refine lv_goto (tgt := 20) hx hb dX5_scan_57 (by decide) ?_
        exact ih _ _ _ _ hw ls _ _ (lv_sub hl [0] rfl) hP hD hS
set_option maxHeartbeats 4000000 in
set_option maxRecDepth 100000 in
theorem c_X5_scan (l : Launch) {D : va_G} {q : Nat → Nat} {cA : Nat → ClassId} {Fc_unkept : Int32} {Fc_tablesRead : Int32} {Pg_letters : Nat → Int32} {Pg_size : Int32} {Pg_fault : Int32} {Pg_rows : Int32} {Pg_inRow : Int32} {Pg_width : Int32} {Fl_entries : Nat → Int32} {Fl_states : Int32} {Fl_columns : Int32} {Fl_moves : Int32} {Fl_stables : Int32} {Fl_amiss : Int32} {Fl_normal : Int32} {Pt_lessers : Nat → Int32} {Pt_greaters : Nat → Int32} {Pt_size : Int32} {Lc_signals : Nat → Int32} {Lc_kept : Nat → Int64} {Lc_keptFrom : Nat → Int64} {Lc_candidates : Int32} {Lc_size : Int32} {Sc_signals : Nat → Int32} {Sc_codes : Nat → Int32} {Sc_size : Int32} {Ai_codes : Nat → Int32} {Ai_bits : Int32} {Cu_seen : Nat → Int32} {Cu_inThrees : Nat → Int32} {Cu_all : Int32} {Lo_asked : Nat → Nat → Int32} {Lo_ones : Nat → Nat → Int32} {Lo_sum : Nat → Nat → Int32} {Lo_wideSize : Nat → Int32} {Lo_sumSize : Nat → Int32} {Lo_flickers : Nat → Int32} {Lo_ready : Nat → Int32} {Wa_at : Int32} {Wa_turns : Int32} {Wa_changes : Int32} {A : Nat → Prop} {post : Int32 → Int32 → Int32 → Int32 → Prop}  (hw : wp_X5_scan post Pg_letters Pg_size Pg_fault Pg_rows Pg_inRow Pg_width ) : Met l yX5_scan (Cond.code yX5_scan cX5_scan 1 none :: wsL_law) (rmH 2) (va_Pc [.ref (q 1)] (fun U => va_P D vwCl (wC q cA Fc_unkept Fc_tablesRead Pg_letters Pg_size Pg_fault Pg_rows Pg_inRow Pg_width Fl_entries Fl_states Fl_columns Fl_moves Fl_stables Fl_amiss Fl_normal Pt_lessers Pt_greaters Pt_size Lc_signals Lc_kept Lc_keptFrom Lc_candidates Lc_size Sc_signals Sc_codes Sc_size Ai_codes Ai_bits Cu_seen Cu_inThrees Cu_all Lo_asked Lo_ones Lo_sum Lo_wideSize Lo_sumSize Lo_flickers Lo_ready Wa_at Wa_turns Wa_changes) U.heap ∧ va_K D vwCl (tyC cA) U ∧ nwC U ∧ va_D A (wC q cA Fc_unkept Fc_tablesRead Pg_letters Pg_size Pg_fault Pg_rows Pg_inRow Pg_width Fl_entries Fl_states Fl_columns Fl_moves Fl_stables Fl_amiss Fl_normal Pt_lessers Pt_greaters Pt_size Lc_signals Lc_kept Lc_keptFrom Lc_candidates Lc_size Sc_signals Sc_codes Sc_size Ai_codes Ai_bits Cu_seen Cu_inThrees Cu_all Lo_asked Lo_ones Lo_sum Lo_wideSize Lo_sumSize Lo_flickers Lo_ready Wa_at Wa_turns Wa_changes))) (qWv (Z_X5_scan D q cA Fc_unkept Fc_tablesRead Pg_letters Pg_size Fl_entries Fl_states Fl_columns Fl_moves Fl_stables Fl_amiss Fl_normal Pt_lessers Pt_greaters Pt_size Lc_signals Lc_kept Lc_keptFrom Lc_candidates Lc_size Sc_signals Sc_codes Sc_size Ai_codes Ai_bits Cu_seen Cu_inThrees Cu_all Lo_asked Lo_ones Lo_sum Lo_wideSize Lo_sumSize Lo_flickers Lo_ready Wa_at Wa_turns Wa_changes post) A) 0 0 A := by
  refine Met.ofW (cc := cX5_scan) (maxL := 1) (ret := none) (by decide) rfl ?_
  intro p e s m args below meth c s₁ B hml hv
  obtain ⟨rfl, hP, hK, hN, hD⟩ := hv
  have X : kC p (headSpec (Cond.code yX5_scan cX5_scan 1 none :: wsL_law) (rmH 2)).room s m _ meth c cX5_scan RX5 1 none 2 := ⟨B.exec, B.bytes, hml, findClass_of_methodNamed B.named, fun w h => atoms_spec (ws := Cond.code yX5_scan cX5_scan 1 none :: wsL_law) B.pre w (List.mem_cons_of_mem _ h), B.returns, B.notSynchronized, Nat.le_refl _, Nat.le_refl _⟩
  obtain ⟨hx, hb, hml, hown, hts, hr, hlocks, hRf, hRl⟩ := id X
  have hS : va_S A s.heap s.heap [] := va_S.rf
  have hl := lv_entry ([.ref (q 1)]) (n := 1) (Nat.le_of_ble_eq_true rfl)
  rw [lg_entry_eq]
  generalize (lg_sl ([.ref (q 1)]) ++ List.replicate (1 - (lg_sl ([.ref (q 1)])).length) Slot.unset).toArray = ls at hl ⊢
  have hl : lv_has ls 1 [(0, .ref (q 1))] := hl
  refine lv_aload_n hx hb dX5_scan_0 rfl (lv_at hl 0 rfl) ?_
  refine lv_iconst (v := (1 : Int32)) hx hb dX5_scan_1 (by decide) ?_
  refine pRX5_19 hx hb hown hts hK hP hD hS dX5_scan_2 (fun H locs hP hD hS => ?_)
  refine lv_aload_n hx hb dX5_scan_5 rfl (lv_at hl 0 rfl) ?_
  refine lv_iconst (v := (0 : Int32)) hx hb dX5_scan_6 (by decide) ?_
  refine pRX5_22 hx hb hown hts hK hP hD hS dX5_scan_7 (fun H locs hP hD hS => ?_)
  refine lv_aload_n hx hb dX5_scan_10 rfl (lv_at hl 0 rfl) ?_
  refine lv_iconst (v := (0 : Int32)) hx hb dX5_scan_11 (by decide) ?_
  refine pRX5_25 hx hb hown hts hK hP hD hS dX5_scan_12 (fun H locs hP hD hS => ?_)
  refine lv_aload_n hx hb dX5_scan_15 rfl (lv_at hl 0 rfl) ?_
  refine lv_iconst (v := (0 : Int32)) hx hb dX5_scan_16 (by decide) ?_
  refine pRX5_28 hx hb hown hts hK hP hD hS dX5_scan_17 (fun H locs hP hD hS => ?_)
  obtain ⟨n_6, hw⟩ := hw
  refine t_X5_scan_20 X hK hN (fun yfault_6 yrows_6 yinRow_6 ywidth_6 hw ls H locs hl hP hD hS => ?_) n_6 _ _ _ _ hw ls _ _ (lv_sub hl [0] rfl) hP hD hS
  exact rw_v hx hb hr hlocks (fun t ht => ⟨yfault_6, yrows_6, yinRow_6, ywidth_6, hw, by rw [ht]; exact hP⟩) hS dX5_scan_60
abbrev Z_X9_fault (D : va_G) (q : Nat → Nat) (cA : Nat → ClassId) (Fc_unkept : Int32) (Fc_tablesRead : Int32) (Pg_letters : Nat → Int32) (Pg_size : Int32) (Fl_entries : Nat → Int32) (Fl_states : Int32) (Fl_columns : Int32) (Fl_moves : Int32) (Fl_stables : Int32) (Fl_amiss : Int32) (Fl_normal : Int32) (Pt_lessers : Nat → Int32) (Pt_greaters : Nat → Int32) (Pt_size : Int32) (Lc_signals : Nat → Int32) (Lc_kept : Nat → Int64) (Lc_keptFrom : Nat → Int64) (Lc_candidates : Int32) (Lc_size : Int32) (Sc_signals : Nat → Int32) (Sc_codes : Nat → Int32) (Sc_size : Int32) (Ai_codes : Nat → Int32) (Ai_bits : Int32) (Cu_seen : Nat → Int32) (Cu_inThrees : Nat → Int32) (Cu_all : Int32) (Lo_asked : Nat → Nat → Int32) (Lo_ones : Nat → Nat → Int32) (Lo_sum : Nat → Nat → Int32) (Lo_wideSize : Nat → Int32) (Lo_sumSize : Nat → Int32) (Lo_flickers : Nat → Int32) (Lo_ready : Nat → Int32) (Wa_at : Int32) (Wa_turns : Int32) (Wa_changes : Int32) (post : Int32 → Int32 → Int32 → Int32 → Int32 → Prop) : Int32 → State → Prop := fun r t => ∃ (y_Pg_fault : Int32) (y_Pg_rows : Int32) (y_Pg_inRow : Int32) (y_Pg_width : Int32), post r y_Pg_fault y_Pg_rows y_Pg_inRow y_Pg_width ∧ va_P D vwCl (wC q cA Fc_unkept Fc_tablesRead Pg_letters Pg_size y_Pg_fault y_Pg_rows y_Pg_inRow y_Pg_width Fl_entries Fl_states Fl_columns Fl_moves Fl_stables Fl_amiss Fl_normal Pt_lessers Pt_greaters Pt_size Lc_signals Lc_kept Lc_keptFrom Lc_candidates Lc_size Sc_signals Sc_codes Sc_size Ai_codes Ai_bits Cu_seen Cu_inThrees Cu_all Lo_asked Lo_ones Lo_sum Lo_wideSize Lo_sumSize Lo_flickers Lo_ready Wa_at Wa_turns Wa_changes) t.heap
set_option maxHeartbeats 4000000 in
set_option maxRecDepth 100000 in
theorem c_X9_fault (l : Launch) {D : va_G} {q : Nat → Nat} {cA : Nat → ClassId} {Fc_unkept : Int32} {Fc_tablesRead : Int32} {Pg_letters : Nat → Int32} {Pg_size : Int32} {Pg_fault : Int32} {Pg_rows : Int32} {Pg_inRow : Int32} {Pg_width : Int32} {Fl_entries : Nat → Int32} {Fl_states : Int32} {Fl_columns : Int32} {Fl_moves : Int32} {Fl_stables : Int32} {Fl_amiss : Int32} {Fl_normal : Int32} {Pt_lessers : Nat → Int32} {Pt_greaters : Nat → Int32} {Pt_size : Int32} {Lc_signals : Nat → Int32} {Lc_kept : Nat → Int64} {Lc_keptFrom : Nat → Int64} {Lc_candidates : Int32} {Lc_size : Int32} {Sc_signals : Nat → Int32} {Sc_codes : Nat → Int32} {Sc_size : Int32} {Ai_codes : Nat → Int32} {Ai_bits : Int32} {Cu_seen : Nat → Int32} {Cu_inThrees : Nat → Int32} {Cu_all : Int32} {Lo_asked : Nat → Nat → Int32} {Lo_ones : Nat → Nat → Int32} {Lo_sum : Nat → Nat → Int32} {Lo_wideSize : Nat → Int32} {Lo_sumSize : Nat → Int32} {Lo_flickers : Nat → Int32} {Lo_ready : Nat → Int32} {Wa_at : Int32} {Wa_turns : Int32} {Wa_changes : Int32} {A : Nat → Prop} {post : Int32 → Int32 → Int32 → Int32 → Int32 → Prop}  (hw : wp_X9_fault post Pg_letters Pg_size Pg_fault Pg_rows Pg_inRow Pg_width ) : Met l yX9_fault (Cond.code yX9_fault cX9_fault 1 (some .int) :: wsL_law) (rmH 3) (va_Pc [.ref (q 0)] (fun U => va_P D vwCl (wC q cA Fc_unkept Fc_tablesRead Pg_letters Pg_size Pg_fault Pg_rows Pg_inRow Pg_width Fl_entries Fl_states Fl_columns Fl_moves Fl_stables Fl_amiss Fl_normal Pt_lessers Pt_greaters Pt_size Lc_signals Lc_kept Lc_keptFrom Lc_candidates Lc_size Sc_signals Sc_codes Sc_size Ai_codes Ai_bits Cu_seen Cu_inThrees Cu_all Lo_asked Lo_ones Lo_sum Lo_wideSize Lo_sumSize Lo_flickers Lo_ready Wa_at Wa_turns Wa_changes) U.heap ∧ va_K D vwCl (tyC cA) U ∧ nwC U ∧ va_D A (wC q cA Fc_unkept Fc_tablesRead Pg_letters Pg_size Pg_fault Pg_rows Pg_inRow Pg_width Fl_entries Fl_states Fl_columns Fl_moves Fl_stables Fl_amiss Fl_normal Pt_lessers Pt_greaters Pt_size Lc_signals Lc_kept Lc_keptFrom Lc_candidates Lc_size Sc_signals Sc_codes Sc_size Ai_codes Ai_bits Cu_seen Cu_inThrees Cu_all Lo_asked Lo_ones Lo_sum Lo_wideSize Lo_sumSize Lo_flickers Lo_ready Wa_at Wa_turns Wa_changes))) (qWi (Z_X9_fault D q cA Fc_unkept Fc_tablesRead Pg_letters Pg_size Fl_entries Fl_states Fl_columns Fl_moves Fl_stables Fl_amiss Fl_normal Pt_lessers Pt_greaters Pt_size Lc_signals Lc_kept Lc_keptFrom Lc_candidates Lc_size Sc_signals Sc_codes Sc_size Ai_codes Ai_bits Cu_seen Cu_inThrees Cu_all Lo_asked Lo_ones Lo_sum Lo_wideSize Lo_sumSize Lo_flickers Lo_ready Wa_at Wa_turns Wa_changes post) A) 0 0 A := by
  refine Met.ofW (cc := cX9_fault) (maxL := 1) (ret := (some .int)) (by decide) rfl ?_
  intro p e s m args below meth c s₁ B hml hv
  obtain ⟨rfl, hP, hK, hN, hD⟩ := hv
  have X : kC p (headSpec (Cond.code yX9_fault cX9_fault 1 (some .int) :: wsL_law) (rmH 3)).room s m _ meth c cX9_fault RX9 1 (some .int) 3 := ⟨B.exec, B.bytes, hml, findClass_of_methodNamed B.named, fun w h => atoms_spec (ws := Cond.code yX9_fault cX9_fault 1 (some .int) :: wsL_law) B.pre w (List.mem_cons_of_mem _ h), B.returns, B.notSynchronized, Nat.le_refl _, Nat.le_refl _⟩
  obtain ⟨hx, hb, hml, hown, hts, hr, hlocks, hRf, hRl⟩ := id X
  have hS : va_S A s.heap s.heap [] := va_S.rf
  have hl := lv_entry ([.ref (q 0)]) (n := 1) (Nat.le_of_ble_eq_true rfl)
  rw [lg_entry_eq]
  generalize (lg_sl ([.ref (q 0)]) ++ List.replicate (1 - (lg_sl ([.ref (q 0)])).length) Slot.unset).toArray = ls at hl ⊢
  have hl : lv_has ls 1 [(0, .ref (q 0))] := hl
  refine lv_aload_n hx hb dX9_fault_0 rfl (lv_at hl 0 rfl) ?_
  refine gRX9_12 hx hb hown hts hK hP dX9_fault_1 ?_
  refine wr_v (va_runV (As := []) (rest := []) ⟨hx, hb, hml, hown, hts⟩ (c_X5_scan l hw) (kRX9_86 (h := 2) hts (Nat.le_trans (Nat.le_of_ble_eq_true rfl) hRf) (Nat.le_trans (Nat.le_of_ble_eq_true rfl) hRl)) (preX5w hK hN hP hD) rfl rfl hl.1 rfl (lv_room (Nat.le_of_ble_eq_true rfl)) dX9_fault_4 ⟨Nat.zero_le _, Nat.zero_le _⟩) hS (fun t H locs ht hw hS => ?_)
  obtain ⟨yfault_1, yrows_1, yinRow_1, ywidth_1, hw, hP⟩ := hw
  rw [ht] at hP
  have hP : va_P D vwCl (wC q cA Fc_unkept Fc_tablesRead Pg_letters Pg_size yfault_1 yrows_1 yinRow_1 ywidth_1 Fl_entries Fl_states Fl_columns Fl_moves Fl_stables Fl_amiss Fl_normal Pt_lessers Pt_greaters Pt_size Lc_signals Lc_kept Lc_keptFrom Lc_candidates Lc_size Sc_signals Sc_codes Sc_size Ai_codes Ai_bits Cu_seen Cu_inThrees Cu_all Lo_asked Lo_ones Lo_sum Lo_wideSize Lo_sumSize Lo_flickers Lo_ready Wa_at Wa_turns Wa_changes) H := hP
  have hD : va_D A (wC q cA Fc_unkept Fc_tablesRead Pg_letters Pg_size yfault_1 yrows_1 yinRow_1 ywidth_1 Fl_entries Fl_states Fl_columns Fl_moves Fl_stables Fl_amiss Fl_normal Pt_lessers Pt_greaters Pt_size Lc_signals Lc_kept Lc_keptFrom Lc_candidates Lc_size Sc_signals Sc_codes Sc_size Ai_codes Ai_bits Cu_seen Cu_inThrees Cu_all Lo_asked Lo_ones Lo_sum Lo_wideSize Lo_sumSize Lo_flickers Lo_ready Wa_at Wa_turns Wa_changes) := dC hD
  refine lv_aload_n hx hb dX9_fault_7 rfl (lv_at hl 0 rfl) ?_
  refine gRX9_12 hx hb hown hts hK hP dX9_fault_8 ?_
  refine gRX9_89 hx hb hown hts hK hN hP dX9_fault_11 ?_
  exact rw_i hx hb hr hlocks (fun t ht => ⟨yfault_1, yrows_1, yinRow_1, ywidth_1, hw, by rw [ht]; exact hP⟩) hS dX9_fault_14
abbrev Z_X10_takes (D : va_G) (q : Nat → Nat) (cA : Nat → ClassId) (i_pageLength : Int32) (a_page : Nat → Int32) (i_states : Int32) (i_columns : Int32) (a_entries : Nat → Int32) (i_signals : Int32) (a_signalAt : Nat → Int32) (i_walksAt : Int32) (i_turned : Int32) (i_changed : Int32) (i_read : Int32) (i_partings : Int32) (a_lowSet : Nat → Int32) (a_highSet : Nat → Int32) (i_leastMany : Int32) (a_leastAt : Nat → Int32) (a_tried : Nat → Int32) (a_keptLow : Nat → Int64) (a_keptHigh : Nat → Int64) (i_laid : Int32) (a_wants : Nat → Int32) (i_wide : Int32) (a_wideAsked : Nat → Int32) (a_wideOnes : Nat → Int32) (i_sum : Int32) (i_flickers : Int32) (a_sumAt : Nat → Int32) (j_h : Int64) (post : Int32 → Int32 → Int32 → Int32 → Int32 → (Nat → Int32) → Prop) : Int32 → State → Prop := fun r t => ∃ (y_i_newRows : Int32) (y_i_newEntries : Int32) (y_i_newColumns : Int32) (y_i_greatest : Int32) (y_a_newAt : Nat → Int32), post r y_i_newRows y_i_newEntries y_i_newColumns y_i_greatest y_a_newAt ∧ va_P D vwCl (wM q cA i_pageLength a_page i_states i_columns a_entries i_signals a_signalAt i_walksAt i_turned i_changed i_read y_i_newRows y_i_newEntries y_i_newColumns y_i_greatest y_a_newAt i_partings a_lowSet a_highSet i_leastMany a_leastAt a_tried a_keptLow a_keptHigh i_laid a_wants i_wide a_wideAsked a_wideOnes i_sum i_flickers a_sumAt j_h) t.heap
set_option maxHeartbeats 4000000 in
set_option maxRecDepth 100000 in
theorem t_X10_takes_230 {p : Program} {l : Launch} {e : Env} {R : Room} {s : State} {m : MethodId} {args : Array Value} {below : List Frame} {meth : Method} {c : Code} {A : Nat → Prop} {D : va_G} {q : Nat → Nat} {cA : Nat → ClassId} {i_pageLength : Int32} {a_page : Nat → Int32} {i_states : Int32} {i_columns : Int32} {a_entries : Nat → Int32} {i_signals : Int32} {a_signalAt : Nat → Int32} {i_walksAt : Int32} {i_turned : Int32} {i_changed : Int32} {i_read : Int32} {i_newRows : Int32} {i_newEntries : Int32} {i_newColumns : Int32} {i_greatest : Int32} {a_newAt : Nat → Int32} {i_partings : Int32} {a_lowSet : Nat → Int32} {a_highSet : Nat → Int32} {i_leastMany : Int32} {a_leastAt : Nat → Int32} {a_tried : Nat → Int32} {a_keptLow : Nat → Int64} {a_keptHigh : Nat → Int64} {i_laid : Int32} {a_wants : Nat → Int32} {i_wide : Int32} {a_wideAsked : Nat → Int32} {a_wideOnes : Nat → Int32} {i_sum : Int32} {i_flickers : Int32} {a_sumAt : Nat → Int32} {j_h : Int64} {post : Int32 → Int32 → Int32 → Int32 → Int32 → (Nat → Int32) → Prop} {v0 : Int32} (X : kC p R s m args meth c cX10_takes RX10 5 (some .boolean) 1) (hK : va_K D vwCl (tyM cA) s) (hw : j_X10_takes_230 post i_newRows i_newEntries i_newColumns a_newAt v0) (ls : Array Slot) (H : Heap) (locs : List Loc) (hl : lv_has ls 5 [(0, .ref (q 0))]) (hP : va_P D vwCl (wM q cA i_pageLength a_page i_states i_columns a_entries i_signals a_signalAt i_walksAt i_turned i_changed i_read i_newRows i_newEntries i_newColumns i_greatest a_newAt i_partings a_lowSet a_highSet i_leastMany a_leastAt a_tried a_keptLow a_keptHigh i_laid a_wants i_wide a_wideAsked a_wideOnes i_sum i_flickers a_sumAt j_h) H) (hD : va_D A (wM q cA i_pageLength a_page i_states i_columns a_entries i_signals a_signalAt i_walksAt i_turned i_changed i_read i_newRows i_newEntries i_newColumns i_greatest a_newAt i_partings a_lowSet a_highSet i_leastMany a_leastAt a_tried a_keptLow a_keptHigh i_laid a_wants i_wide a_wideAsked a_wideOnes i_sum i_flickers a_sumAt j_h)) (hS : va_S A s.heap H locs) : W p l e R s m args below meth c H locs 0 0 (MQ below (qWi (Z_X10_takes D q cA i_pageLength a_page i_states i_columns a_entries i_signals a_signalAt i_walksAt i_turned i_changed i_read i_partings a_lowSet a_highSet i_leastMany a_leastAt a_tried a_keptLow a_keptHigh i_laid a_wants i_wide a_wideAsked a_wideOnes i_sum i_flickers a_sumAt j_h post) A) args s 0 0 A) (F0 m 230 ls [.int v0, .ref (q 0)]) := by
  obtain ⟨hx, hb, hml, hown, hts, hr, hlocks, hRf, hRl⟩ := id X
  refine pRX10_76 hx hb hown hts hK hP hD hS dX10_takes_230 (fun H locs hP hD hS => ?_)
  refine lv_aload_n hx hb dX10_takes_233 rfl (lv_at hl 0 rfl) ?_
  refine lv_dup hx hb dX10_takes_234 rfl ?_
  refine gRX10_70 hx hb hown hts hK hP dX10_takes_235 ?_
  refine lv_iconst (v := (1 : Int32)) hx hb dX10_takes_238 (by decide) ?_
  refine lv_iadd hx hb dX10_takes_239 ?_
  refine lv_topi (fun f_9 e_9 => ?_)
  have hw := hw f_9 e_9
  refine pRX10_70 hx hb hown hts hK hP hD hS dX10_takes_240 (fun H locs hP hD hS => ?_)
  refine lv_iconst (v := (1 : Int32)) hx hb dX10_takes_243 (by decide) ?_
  exact rw_z hx hb hr hlocks rfl (fun t ht => ⟨i_newRows, f_9, i_newColumns, v0, a_newAt, hw, by rw [ht]; exact hP⟩) hS dX10_takes_244
set_option maxHeartbeats 4000000 in
set_option maxRecDepth 100000 in
theorem t_X10_takes_191 {p : Program} {l : Launch} {e : Env} {R : Room} {s : State} {m : MethodId} {args : Array Value} {below : List Frame} {meth : Method} {c : Code} {A : Nat → Prop} {D : va_G} {q : Nat → Nat} {cA : Nat → ClassId} {i_pageLength : Int32} {a_page : Nat → Int32} {i_states : Int32} {i_columns : Int32} {a_entries : Nat → Int32} {i_signals : Int32} {a_signalAt : Nat → Int32} {i_walksAt : Int32} {i_turned : Int32} {i_changed : Int32} {i_read : Int32} {i_newRows : Int32} {i_newEntries : Int32} {i_newColumns : Int32} {i_greatest : Int32} {a_newAt : Nat → Int32} {i_partings : Int32} {a_lowSet : Nat → Int32} {a_highSet : Nat → Int32} {i_leastMany : Int32} {a_leastAt : Nat → Int32} {a_tried : Nat → Int32} {a_keptLow : Nat → Int64} {a_keptHigh : Nat → Int64} {i_laid : Int32} {a_wants : Nat → Int32} {i_wide : Int32} {a_wideAsked : Nat → Int32} {a_wideOnes : Nat → Int32} {i_sum : Int32} {i_flickers : Int32} {a_sumAt : Nat → Int32} {j_h : Int64} {post : Int32 → Int32 → Int32 → Int32 → Int32 → (Nat → Int32) → Prop} {v0 : Int32} (X : kC p R s m args meth c cX10_takes RX10 5 (some .boolean) 1) (hK : va_K D vwCl (tyM cA) s) (hw : j_X10_takes_191 post i_newRows i_newEntries i_newColumns i_greatest a_newAt v0) (ls : Array Slot) (H : Heap) (locs : List Loc) (hl : lv_has ls 5 [(0, .ref (q 0))]) (hP : va_P D vwCl (wM q cA i_pageLength a_page i_states i_columns a_entries i_signals a_signalAt i_walksAt i_turned i_changed i_read i_newRows i_newEntries i_newColumns i_greatest a_newAt i_partings a_lowSet a_highSet i_leastMany a_leastAt a_tried a_keptLow a_keptHigh i_laid a_wants i_wide a_wideAsked a_wideOnes i_sum i_flickers a_sumAt j_h) H) (hD : va_D A (wM q cA i_pageLength a_page i_states i_columns a_entries i_signals a_signalAt i_walksAt i_turned i_changed i_read i_newRows i_newEntries i_newColumns i_greatest a_newAt i_partings a_lowSet a_highSet i_leastMany a_leastAt a_tried a_keptLow a_keptHigh i_laid a_wants i_wide a_wideAsked a_wideOnes i_sum i_flickers a_sumAt j_h)) (hS : va_S A s.heap H locs) : W p l e R s m args below meth c H locs 0 0 (MQ below (qWi (Z_X10_takes D q cA i_pageLength a_page i_states i_columns a_entries i_signals a_signalAt i_walksAt i_turned i_changed i_read i_partings a_lowSet a_highSet i_leastMany a_leastAt a_tried a_keptLow a_keptHigh i_laid a_wants i_wide a_wideAsked a_wideOnes i_sum i_flickers a_sumAt j_h post) A) args s 0 0 A) (F0 m 191 ls [.int v0]) := by
  obtain ⟨hx, hb, hml, hown, hts, hr, hlocks, hRf, hRl⟩ := id X
  refine lv_istore (lv' := [(4, .int v0), (0, .ref (q 0))]) hx hb dX10_takes_191 hl (by decide) rfl (fun ls hl => ?_)
  refine lv_aload_n hx hb dX10_takes_193 rfl (lv_at hl 1 rfl) ?_
  refine gRX10_23 hx hb hown hts hK hP dX10_takes_194 ?_
  refine lv_iconst (v := (4 : Int32)) hx hb dX10_takes_197 (by decide) ?_
  refine lv_aload_n hx hb dX10_takes_198 rfl (lv_at hl 1 rfl) ?_
  refine gRX10_73 hx hb hown hts hK hP dX10_takes_199 ?_
  refine lv_imul hx hb dX10_takes_202 ?_
  refine lv_aload_n hx hb dX10_takes_203 rfl (lv_at hl 1 rfl) ?_
  refine gRX10_70 hx hb hown hts hK hP dX10_takes_204 ?_
  refine lv_iadd hx hb dX10_takes_207 ?_
  refine lv_iload hx hb dX10_takes_208 (lv_at hl 0 rfl) ?_
  have h_7 := hw.1
  have hw := hw.2
  refine st_a_newAt hx hb hK hP hD hS h_7 dX10_takes_210 (fun H locs a_7 e_7 hP hD hS => ?_)
  have hw := hw a_7 e_7
  refine lv_aload_n hx hb dX10_takes_211 rfl (lv_at hl 1 rfl) ?_
  refine lv_iload hx hb dX10_takes_212 (lv_at hl 0 rfl) ?_
  refine lv_aload_n hx hb dX10_takes_214 rfl (lv_at hl 1 rfl) ?_
  refine gRX10_76 hx hb hown hts hK hP dX10_takes_215 ?_
  refine lv_icmp_le (tgt := 226) hx hb dX10_takes_218 (by decide) (fun c_8 => ?_) (fun c_8 => ?_)
  · have hw := hw.1 c_8
    refine lv_aload_n hx hb dX10_takes_226 rfl (lv_at hl 1 rfl) ?_
    refine gRX10_76 hx hb hown hts hK hP dX10_takes_227 ?_
    exact t_X10_takes_230 X hK hw ls _ _ (lv_sub hl [1] rfl) hP hD hS
  · have hw := hw.2 c_8
    refine lv_iload hx hb dX10_takes_221 (lv_at hl 0 rfl) ?_
    refine lv_goto (tgt := 230) hx hb dX10_takes_223 (by decide) ?_
    exact t_X10_takes_230 X hK hw ls _ _ (lv_sub hl [1] rfl) hP hD hS
set_option maxHeartbeats 4000000 in
set_option maxRecDepth 100000 in
theorem t_X10_takes_170 {p : Program} {l : Launch} {e : Env} {R : Room} {s : State} {m : MethodId} {args : Array Value} {below : List Frame} {meth : Method} {c : Code} {A : Nat → Prop} {D : va_G} {q : Nat → Nat} {cA : Nat → ClassId} {i_pageLength : Int32} {a_page : Nat → Int32} {i_states : Int32} {i_columns : Int32} {a_entries : Nat → Int32} {i_signals : Int32} {a_signalAt : Nat → Int32} {i_walksAt : Int32} {i_turned : Int32} {i_changed : Int32} {i_read : Int32} {i_newRows : Int32} {i_newEntries : Int32} {i_newColumns : Int32} {i_greatest : Int32} {a_newAt : Nat → Int32} {i_partings : Int32} {a_lowSet : Nat → Int32} {a_highSet : Nat → Int32} {i_leastMany : Int32} {a_leastAt : Nat → Int32} {a_tried : Nat → Int32} {a_keptLow : Nat → Int64} {a_keptHigh : Nat → Int64} {i_laid : Int32} {a_wants : Nat → Int32} {i_wide : Int32} {a_wideAsked : Nat → Int32} {a_wideOnes : Nat → Int32} {i_sum : Int32} {i_flickers : Int32} {a_sumAt : Nat → Int32} {j_h : Int64} {post : Int32 → Int32 → Int32 → Int32 → Int32 → (Nat → Int32) → Prop} {x1 : Int32} {v0 : Int32} (X : kC p R s m args meth c cX10_takes RX10 5 (some .boolean) 1) (hK : va_K D vwCl (tyM cA) s) (hw : j_X10_takes_170 post i_newRows i_newEntries i_newColumns i_greatest a_newAt x1 v0) (ls : Array Slot) (H : Heap) (locs : List Loc) (hl : lv_has ls 5 [(0, .ref (q 0)), (1, .int x1)]) (hP : va_P D vwCl (wM q cA i_pageLength a_page i_states i_columns a_entries i_signals a_signalAt i_walksAt i_turned i_changed i_read i_newRows i_newEntries i_newColumns i_greatest a_newAt i_partings a_lowSet a_highSet i_leastMany a_leastAt a_tried a_keptLow a_keptHigh i_laid a_wants i_wide a_wideAsked a_wideOnes i_sum i_flickers a_sumAt j_h) H) (hD : va_D A (wM q cA i_pageLength a_page i_states i_columns a_entries i_signals a_signalAt i_walksAt i_turned i_changed i_read i_newRows i_newEntries i_newColumns i_greatest a_newAt i_partings a_lowSet a_highSet i_leastMany a_leastAt a_tried a_keptLow a_keptHigh i_laid a_wants i_wide a_wideAsked a_wideOnes i_sum i_flickers a_sumAt j_h)) (hS : va_S A s.heap H locs) : W p l e R s m args below meth c H locs 0 0 (MQ below (qWi (Z_X10_takes D q cA i_pageLength a_page i_states i_columns a_entries i_signals a_signalAt i_walksAt i_turned i_changed i_read i_partings a_lowSet a_highSet i_leastMany a_leastAt a_tried a_keptLow a_keptHigh i_laid a_wants i_wide a_wideAsked a_wideOnes i_sum i_flickers a_sumAt j_h post) A) args s 0 0 A) (F0 m 170 ls [.int v0]) := by
  obtain ⟨hx, hb, hml, hown, hts, hr, hlocks, hRf, hRl⟩ := id X
  refine lv_istore_n (lv' := [(3, .int v0), (0, .ref (q 0)), (1, .int x1)]) hx hb dX10_takes_170 rfl hl (by decide) rfl (fun ls hl => ?_)
  refine lv_iload_n hx hb dX10_takes_171 rfl (lv_at hl 0 rfl) ?_
  refine lv_if_ne (tgt := 177) hx hb dX10_takes_172 (by decide) (fun c_5 => ?_) (fun c_5 => ?_)
  · have hw := hw.2 c_5
    refine lv_iload_n hx hb dX10_takes_177 rfl (lv_at hl 2 rfl) ?_
    refine lv_bipush (v := (45 : Int32)) hx hb dX10_takes_178 (by decide +kernel) ?_
    refine lv_icmp_ne (tgt := 187) hx hb dX10_takes_180 (by decide) (fun c_6 => ?_) (fun c_6 => ?_)
    · have hw := hw.2 c_6
      refine lv_iload_n hx hb dX10_takes_187 rfl (lv_at hl 2 rfl) ?_
      refine lv_bipush (v := (97 : Int32)) hx hb dX10_takes_188 (by decide +kernel) ?_
      refine lv_isub hx hb dX10_takes_190 ?_
      exact t_X10_takes_191 X hK hw ls _ _ (lv_sub hl [1] rfl) hP hD hS
    · have hw := hw.1 c_6
      refine lv_iconst (v := ((-1) : Int32)) hx hb dX10_takes_183 (by decide) ?_
      refine lv_goto (tgt := 191) hx hb dX10_takes_184 (by decide) ?_
      exact t_X10_takes_191 X hK hw ls _ _ (lv_sub hl [1] rfl) hP hD hS
  · have hw := hw.1 c_5
    refine lv_iconst (v := (0 : Int32)) hx hb dX10_takes_175 (by decide) ?_
    exact rw_z hx hb hr hlocks rfl (fun t ht => ⟨i_newRows, i_newEntries, i_newColumns, i_greatest, a_newAt, hw, by rw [ht]; exact hP⟩) hS dX10_takes_176
set_option maxHeartbeats 4000000 in
set_option maxRecDepth 100000 in
theorem t_X10_takes_116 {p : Program} {l : Launch} {e : Env} {R : Room} {s : State} {m : MethodId} {args : Array Value} {below : List Frame} {meth : Method} {c : Code} {A : Nat → Prop} {D : va_G} {q : Nat → Nat} {cA : Nat → ClassId} {i_pageLength : Int32} {a_page : Nat → Int32} {i_states : Int32} {i_columns : Int32} {a_entries : Nat → Int32} {i_signals : Int32} {a_signalAt : Nat → Int32} {i_walksAt : Int32} {i_turned : Int32} {i_changed : Int32} {i_read : Int32} {i_newRows : Int32} {i_newEntries : Int32} {i_newColumns : Int32} {i_greatest : Int32} {a_newAt : Nat → Int32} {i_partings : Int32} {a_lowSet : Nat → Int32} {a_highSet : Nat → Int32} {i_leastMany : Int32} {a_leastAt : Nat → Int32} {a_tried : Nat → Int32} {a_keptLow : Nat → Int64} {a_keptHigh : Nat → Int64} {i_laid : Int32} {a_wants : Nat → Int32} {i_wide : Int32} {a_wideAsked : Nat → Int32} {a_wideOnes : Nat → Int32} {i_sum : Int32} {i_flickers : Int32} {a_sumAt : Nat → Int32} {j_h : Int64} {post : Int32 → Int32 → Int32 → Int32 → Int32 → (Nat → Int32) → Prop} {x4 : Int32} {v0 : Int32} {v1 : Int32} (X : kC p R s m args meth c cX10_takes RX10 5 (some .boolean) 1) (hK : va_K D vwCl (tyM cA) s) (hw : j_X10_takes_116 post i_newEntries i_newColumns i_greatest a_newAt x4 v0 v1) (ls : Array Slot) (H : Heap) (locs : List Loc) (hl : lv_has ls 5 [(0, .ref (q 0)), (4, .int x4)]) (hP : va_P D vwCl (wM q cA i_pageLength a_page i_states i_columns a_entries i_signals a_signalAt i_walksAt i_turned i_changed i_read i_newRows i_newEntries i_newColumns i_greatest a_newAt i_partings a_lowSet a_highSet i_leastMany a_leastAt a_tried a_keptLow a_keptHigh i_laid a_wants i_wide a_wideAsked a_wideOnes i_sum i_flickers a_sumAt j_h) H) (hD : va_D A (wM q cA i_pageLength a_page i_states i_columns a_entries i_signals a_signalAt i_walksAt i_turned i_changed i_read i_newRows i_newEntries i_newColumns i_greatest a_newAt i_partings a_lowSet a_highSet i_leastMany a_leastAt a_tried a_keptLow a_keptHigh i_laid a_wants i_wide a_wideAsked a_wideOnes i_sum i_flickers a_sumAt j_h)) (hS : va_S A s.heap H locs) : W p l e R s m args below meth c H locs 0 0 (MQ below (qWi (Z_X10_takes D q cA i_pageLength a_page i_states i_columns a_entries i_signals a_signalAt i_walksAt i_turned i_changed i_read i_partings a_lowSet a_highSet i_leastMany a_leastAt a_tried a_keptLow a_keptHigh i_laid a_wants i_wide a_wideAsked a_wideOnes i_sum i_flickers a_sumAt j_h post) A) args s 0 0 A) (F0 m 116 ls [.int v0, .int v1, .ref (q 0)]) := by
  obtain ⟨hx, hb, hml, hown, hts, hr, hlocks, hRf, hRl⟩ := id X
  refine lv_iadd hx hb dX10_takes_116 ?_
  refine lv_topi (fun f_18 e_18 => ?_)
  have hw := hw f_18 e_18
  refine pRX10_73 hx hb hown hts hK hP hD hS dX10_takes_117 (fun H locs hP hD hS => ?_)
  refine lv_aload_n hx hb dX10_takes_120 rfl (lv_at hl 0 rfl) ?_
  refine lv_iload hx hb dX10_takes_121 (lv_at hl 1 rfl) ?_
  refine lv_if_eq (tgt := 130) hx hb dX10_takes_123 (by decide) (fun c_19 => ?_) (fun c_19 => ?_)
  · have hw := hw.1 c_19
    refine lv_aload_n hx hb dX10_takes_130 rfl (lv_at hl 0 rfl) ?_
    refine gRX10_70 hx hb hown hts hK hP dX10_takes_131 ?_
    refine pRX10_70 hx hb hown hts hK hP hD hS dX10_takes_134 (fun H locs hP hD hS => ?_)
    refine lv_iload hx hb dX10_takes_137 (lv_at hl 1 rfl) ?_
    have hz := hw.1
    have hw := hw.2
    exact rw_z hx hb hr hlocks hz (fun t ht => ⟨f_18, i_newEntries, i_newColumns, i_greatest, a_newAt, hw, by rw [ht]; exact hP⟩) hS dX10_takes_139
  · have hw := hw.2 c_19
    refine lv_iconst (v := (0 : Int32)) hx hb dX10_takes_126 (by decide) ?_
    refine lv_goto (tgt := 134) hx hb dX10_takes_127 (by decide) ?_
    refine pRX10_70 hx hb hown hts hK hP hD hS dX10_takes_134 (fun H locs hP hD hS => ?_)
    refine lv_iload hx hb dX10_takes_137 (lv_at hl 1 rfl) ?_
    have hz := hw.1
    have hw := hw.2
    exact rw_z hx hb hr hlocks hz (fun t ht => ⟨f_18, (0 : Int32), i_newColumns, i_greatest, a_newAt, hw, by rw [ht]; exact hP⟩) hS dX10_takes_139
set_option maxHeartbeats 4000000 in
set_option maxRecDepth 100000 in
theorem t_X10_takes_98 {p : Program} {l : Launch} {e : Env} {R : Room} {s : State} {m : MethodId} {args : Array Value} {below : List Frame} {meth : Method} {c : Code} {A : Nat → Prop} {D : va_G} {q : Nat → Nat} {cA : Nat → ClassId} {i_pageLength : Int32} {a_page : Nat → Int32} {i_states : Int32} {i_columns : Int32} {a_entries : Nat → Int32} {i_signals : Int32} {a_signalAt : Nat → Int32} {i_walksAt : Int32} {i_turned : Int32} {i_changed : Int32} {i_read : Int32} {i_newRows : Int32} {i_newEntries : Int32} {i_newColumns : Int32} {i_greatest : Int32} {a_newAt : Nat → Int32} {i_partings : Int32} {a_lowSet : Nat → Int32} {a_highSet : Nat → Int32} {i_leastMany : Int32} {a_leastAt : Nat → Int32} {a_tried : Nat → Int32} {a_keptLow : Nat → Int64} {a_keptHigh : Nat → Int64} {i_laid : Int32} {a_wants : Nat → Int32} {i_wide : Int32} {a_wideAsked : Nat → Int32} {a_wideOnes : Nat → Int32} {i_sum : Int32} {i_flickers : Int32} {a_sumAt : Nat → Int32} {j_h : Int64} {post : Int32 → Int32 → Int32 → Int32 → Int32 → (Nat → Int32) → Prop} {x4 : Int32} {v0 : Int32} (X : kC p R s m args meth c cX10_takes RX10 5 (some .boolean) 1) (hK : va_K D vwCl (tyM cA) s) (hw : j_X10_takes_98 post i_newRows i_newEntries i_greatest a_newAt x4 v0) (ls : Array Slot) (H : Heap) (locs : List Loc) (hl : lv_has ls 5 [(0, .ref (q 0)), (4, .int x4)]) (hP : va_P D vwCl (wM q cA i_pageLength a_page i_states i_columns a_entries i_signals a_signalAt i_walksAt i_turned i_changed i_read i_newRows i_newEntries i_newColumns i_greatest a_newAt i_partings a_lowSet a_highSet i_leastMany a_leastAt a_tried a_keptLow a_keptHigh i_laid a_wants i_wide a_wideAsked a_wideOnes i_sum i_flickers a_sumAt j_h) H) (hD : va_D A (wM q cA i_pageLength a_page i_states i_columns a_entries i_signals a_signalAt i_walksAt i_turned i_changed i_read i_newRows i_newEntries i_newColumns i_greatest a_newAt i_partings a_lowSet a_highSet i_leastMany a_leastAt a_tried a_keptLow a_keptHigh i_laid a_wants i_wide a_wideAsked a_wideOnes i_sum i_flickers a_sumAt j_h)) (hS : va_S A s.heap H locs) : W p l e R s m args below meth c H locs 0 0 (MQ below (qWi (Z_X10_takes D q cA i_pageLength a_page i_states i_columns a_entries i_signals a_signalAt i_walksAt i_turned i_changed i_read i_partings a_lowSet a_highSet i_leastMany a_leastAt a_tried a_keptLow a_keptHigh i_laid a_wants i_wide a_wideAsked a_wideOnes i_sum i_flickers a_sumAt j_h post) A) args s 0 0 A) (F0 m 98 ls [.int v0, .ref (q 0)]) := by
  obtain ⟨hx, hb, hml, hown, hts, hr, hlocks, hRf, hRl⟩ := id X
  refine pRX10_67 hx hb hown hts hK hP hD hS dX10_takes_98 (fun H locs hP hD hS => ?_)
  refine lv_aload_n hx hb dX10_takes_101 rfl (lv_at hl 0 rfl) ?_
  refine lv_dup hx hb dX10_takes_102 rfl ?_
  refine gRX10_73 hx hb hown hts hK hP dX10_takes_103 ?_
  refine lv_iload hx hb dX10_takes_106 (lv_at hl 1 rfl) ?_
  refine lv_if_eq (tgt := 115) hx hb dX10_takes_108 (by decide) (fun c_17 => ?_) (fun c_17 => ?_)
  · have hw := hw.1 c_17
    refine lv_iconst (v := (0 : Int32)) hx hb dX10_takes_115 (by decide) ?_
    exact t_X10_takes_116 X hK hw ls _ _ (lv_sub hl [0, 1] rfl) hP hD hS
  · have hw := hw.2 c_17
    refine lv_iconst (v := (1 : Int32)) hx hb dX10_takes_111 (by decide) ?_
    refine lv_goto (tgt := 116) hx hb dX10_takes_112 (by decide) ?_
    exact t_X10_takes_116 X hK hw ls _ _ (lv_sub hl [0, 1] rfl) hP hD hS
set_option maxHeartbeats 4000000 in
set_option maxRecDepth 100000 in
theorem t_X10_takes_79 {p : Program} {l : Launch} {e : Env} {R : Room} {s : State} {m : MethodId} {args : Array Value} {below : List Frame} {meth : Method} {c : Code} {A : Nat → Prop} {D : va_G} {q : Nat → Nat} {cA : Nat → ClassId} {i_pageLength : Int32} {a_page : Nat → Int32} {i_states : Int32} {i_columns : Int32} {a_entries : Nat → Int32} {i_signals : Int32} {a_signalAt : Nat → Int32} {i_walksAt : Int32} {i_turned : Int32} {i_changed : Int32} {i_read : Int32} {i_newRows : Int32} {i_newEntries : Int32} {i_newColumns : Int32} {i_greatest : Int32} {a_newAt : Nat → Int32} {i_partings : Int32} {a_lowSet : Nat → Int32} {a_highSet : Nat → Int32} {i_leastMany : Int32} {a_leastAt : Nat → Int32} {a_tried : Nat → Int32} {a_keptLow : Nat → Int64} {a_keptHigh : Nat → Int64} {i_laid : Int32} {a_wants : Nat → Int32} {i_wide : Int32} {a_wideAsked : Nat → Int32} {a_wideOnes : Nat → Int32} {i_sum : Int32} {i_flickers : Int32} {a_sumAt : Nat → Int32} {j_h : Int64} {post : Int32 → Int32 → Int32 → Int32 → Int32 → (Nat → Int32) → Prop} {v0 : Int32} (X : kC p R s m args meth c cX10_takes RX10 5 (some .boolean) 1) (hK : va_K D vwCl (tyM cA) s) (hw : j_X10_takes_79 post i_newRows i_newEntries i_newColumns i_greatest a_newAt v0) (ls : Array Slot) (H : Heap) (locs : List Loc) (hl : lv_has ls 5 [(0, .ref (q 0))]) (hP : va_P D vwCl (wM q cA i_pageLength a_page i_states i_columns a_entries i_signals a_signalAt i_walksAt i_turned i_changed i_read i_newRows i_newEntries i_newColumns i_greatest a_newAt i_partings a_lowSet a_highSet i_leastMany a_leastAt a_tried a_keptLow a_keptHigh i_laid a_wants i_wide a_wideAsked a_wideOnes i_sum i_flickers a_sumAt j_h) H) (hD : va_D A (wM q cA i_pageLength a_page i_states i_columns a_entries i_signals a_signalAt i_walksAt i_turned i_changed i_read i_newRows i_newEntries i_newColumns i_greatest a_newAt i_partings a_lowSet a_highSet i_leastMany a_leastAt a_tried a_keptLow a_keptHigh i_laid a_wants i_wide a_wideAsked a_wideOnes i_sum i_flickers a_sumAt j_h)) (hS : va_S A s.heap H locs) : W p l e R s m args below meth c H locs 0 0 (MQ below (qWi (Z_X10_takes D q cA i_pageLength a_page i_states i_columns a_entries i_signals a_signalAt i_walksAt i_turned i_changed i_read i_partings a_lowSet a_highSet i_leastMany a_leastAt a_tried a_keptLow a_keptHigh i_laid a_wants i_wide a_wideAsked a_wideOnes i_sum i_flickers a_sumAt j_h post) A) args s 0 0 A) (F0 m 79 ls [.int v0]) := by
  obtain ⟨hx, hb, hml, hown, hts, hr, hlocks, hRf, hRl⟩ := id X
  refine lv_istore (lv' := [(4, .int v0), (0, .ref (q 0))]) hx hb dX10_takes_79 hl (by decide) rfl (fun ls hl => ?_)
  refine lv_aload_n hx hb dX10_takes_81 rfl (lv_at hl 1 rfl) ?_
  refine lv_iload hx hb dX10_takes_82 (lv_at hl 0 rfl) ?_
  refine lv_if_eq (tgt := 94) hx hb dX10_takes_84 (by decide) (fun c_16 => ?_) (fun c_16 => ?_)
  · have hw := hw.1 c_16
    refine lv_aload_n hx hb dX10_takes_94 rfl (lv_at hl 1 rfl) ?_
    refine gRX10_67 hx hb hown hts hK hP dX10_takes_95 ?_
    exact t_X10_takes_98 X hK hw ls _ _ (lv_sub hl [1, 0] rfl) hP hD hS
  · have hw := hw.2 c_16
    refine lv_aload_n hx hb dX10_takes_87 rfl (lv_at hl 1 rfl) ?_
    refine gRX10_70 hx hb hown hts hK hP dX10_takes_88 ?_
    refine lv_goto (tgt := 98) hx hb dX10_takes_91 (by decide) ?_
    exact t_X10_takes_98 X hK hw ls _ _ (lv_sub hl [1, 0] rfl) hP hD hS
set_option maxHeartbeats 4000000 in
set_option maxRecDepth 100000 in
theorem t_X10_takes_61 {p : Program} {l : Launch} {e : Env} {R : Room} {s : State} {m : MethodId} {args : Array Value} {below : List Frame} {meth : Method} {c : Code} {A : Nat → Prop} {D : va_G} {q : Nat → Nat} {cA : Nat → ClassId} {i_pageLength : Int32} {a_page : Nat → Int32} {i_states : Int32} {i_columns : Int32} {a_entries : Nat → Int32} {i_signals : Int32} {a_signalAt : Nat → Int32} {i_walksAt : Int32} {i_turned : Int32} {i_changed : Int32} {i_read : Int32} {i_newRows : Int32} {i_newEntries : Int32} {i_newColumns : Int32} {i_greatest : Int32} {a_newAt : Nat → Int32} {i_partings : Int32} {a_lowSet : Nat → Int32} {a_highSet : Nat → Int32} {i_leastMany : Int32} {a_leastAt : Nat → Int32} {a_tried : Nat → Int32} {a_keptLow : Nat → Int64} {a_keptHigh : Nat → Int64} {i_laid : Int32} {a_wants : Nat → Int32} {i_wide : Int32} {a_wideAsked : Nat → Int32} {a_wideOnes : Nat → Int32} {i_sum : Int32} {i_flickers : Int32} {a_sumAt : Nat → Int32} {j_h : Int64} {post : Int32 → Int32 → Int32 → Int32 → Int32 → (Nat → Int32) → Prop} {v0 : Int32} (X : kC p R s m args meth c cX10_takes RX10 5 (some .boolean) 1) (hK : va_K D vwCl (tyM cA) s) (hw : j_X10_takes_61 post i_newRows i_newEntries i_newColumns i_greatest a_newAt v0) (ls : Array Slot) (H : Heap) (locs : List Loc) (hl : lv_has ls 5 [(0, .ref (q 0))]) (hP : va_P D vwCl (wM q cA i_pageLength a_page i_states i_columns a_entries i_signals a_signalAt i_walksAt i_turned i_changed i_read i_newRows i_newEntries i_newColumns i_greatest a_newAt i_partings a_lowSet a_highSet i_leastMany a_leastAt a_tried a_keptLow a_keptHigh i_laid a_wants i_wide a_wideAsked a_wideOnes i_sum i_flickers a_sumAt j_h) H) (hD : va_D A (wM q cA i_pageLength a_page i_states i_columns a_entries i_signals a_signalAt i_walksAt i_turned i_changed i_read i_newRows i_newEntries i_newColumns i_greatest a_newAt i_partings a_lowSet a_highSet i_leastMany a_leastAt a_tried a_keptLow a_keptHigh i_laid a_wants i_wide a_wideAsked a_wideOnes i_sum i_flickers a_sumAt j_h)) (hS : va_S A s.heap H locs) : W p l e R s m args below meth c H locs 0 0 (MQ below (qWi (Z_X10_takes D q cA i_pageLength a_page i_states i_columns a_entries i_signals a_signalAt i_walksAt i_turned i_changed i_read i_partings a_lowSet a_highSet i_leastMany a_leastAt a_tried a_keptLow a_keptHigh i_laid a_wants i_wide a_wideAsked a_wideOnes i_sum i_flickers a_sumAt j_h post) A) args s 0 0 A) (F0 m 61 ls [.int v0]) := by
  obtain ⟨hx, hb, hml, hown, hts, hr, hlocks, hRf, hRl⟩ := id X
  refine lv_istore_n (lv' := [(3, .int v0), (0, .ref (q 0))]) hx hb dX10_takes_61 rfl hl (by decide) rfl (fun ls hl => ?_)
  refine lv_iload_n hx hb dX10_takes_62 rfl (lv_at hl 0 rfl) ?_
  refine lv_if_eq (tgt := 78) hx hb dX10_takes_63 (by decide) (fun c_15 => ?_) (fun c_15 => ?_)
  · have hw := hw.1 c_15
    refine lv_iconst (v := (0 : Int32)) hx hb dX10_takes_78 (by decide) ?_
    exact t_X10_takes_79 X hK hw ls _ _ (lv_sub hl [1] rfl) hP hD hS
  · have hw := hw.2 c_15
    refine lv_aload_n hx hb dX10_takes_66 rfl (lv_at hl 1 rfl) ?_
    refine gRX10_73 hx hb hown hts hK hP dX10_takes_67 ?_
    refine lv_iconst (v := (5 : Int32)) hx hb dX10_takes_70 (by decide) ?_
    refine lv_icmp_ge (tgt := 78) hx hb dX10_takes_71 (by decide) (fun c_20 => ?_) (fun c_20 => ?_)
    · have hw := hw.1 c_20
      refine lv_iconst (v := (0 : Int32)) hx hb dX10_takes_78 (by decide) ?_
      exact t_X10_takes_79 X hK hw ls _ _ (lv_sub hl [1] rfl) hP hD hS
    · have hw := hw.2 c_20
      refine lv_iconst (v := (1 : Int32)) hx hb dX10_takes_74 (by decide) ?_
      refine lv_goto (tgt := 79) hx hb dX10_takes_75 (by decide) ?_
      exact t_X10_takes_79 X hK hw ls _ _ (lv_sub hl [1] rfl) hP hD hS
set_option maxHeartbeats 4000000 in
set_option maxRecDepth 100000 in
theorem t_X10_takes_15 {p : Program} {l : Launch} {e : Env} {R : Room} {s : State} {m : MethodId} {args : Array Value} {below : List Frame} {meth : Method} {c : Code} {A : Nat → Prop} {D : va_G} {q : Nat → Nat} {cA : Nat → ClassId} {i_pageLength : Int32} {a_page : Nat → Int32} {i_states : Int32} {i_columns : Int32} {a_entries : Nat → Int32} {i_signals : Int32} {a_signalAt : Nat → Int32} {i_walksAt : Int32} {i_turned : Int32} {i_changed : Int32} {i_read : Int32} {i_newRows : Int32} {i_newEntries : Int32} {i_newColumns : Int32} {i_greatest : Int32} {a_newAt : Nat → Int32} {i_partings : Int32} {a_lowSet : Nat → Int32} {a_highSet : Nat → Int32} {i_leastMany : Int32} {a_leastAt : Nat → Int32} {a_tried : Nat → Int32} {a_keptLow : Nat → Int64} {a_keptHigh : Nat → Int64} {i_laid : Int32} {a_wants : Nat → Int32} {i_wide : Int32} {a_wideAsked : Nat → Int32} {a_wideOnes : Nat → Int32} {i_sum : Int32} {i_flickers : Int32} {a_sumAt : Nat → Int32} {j_h : Int64} {post : Int32 → Int32 → Int32 → Int32 → Int32 → (Nat → Int32) → Prop} {x1 : Int32} {v0 : Int32} (X : kC p R s m args meth c cX10_takes RX10 5 (some .boolean) 1) (hK : va_K D vwCl (tyM cA) s) (hw : j_X10_takes_15 post i_newRows i_newEntries i_newColumns i_greatest a_newAt x1 v0) (ls : Array Slot) (H : Heap) (locs : List Loc) (hl : lv_has ls 5 [(0, .ref (q 0)), (1, .int x1)]) (hP : va_P D vwCl (wM q cA i_pageLength a_page i_states i_columns a_entries i_signals a_signalAt i_walksAt i_turned i_changed i_read i_newRows i_newEntries i_newColumns i_greatest a_newAt i_partings a_lowSet a_highSet i_leastMany a_leastAt a_tried a_keptLow a_keptHigh i_laid a_wants i_wide a_wideAsked a_wideOnes i_sum i_flickers a_sumAt j_h) H) (hD : va_D A (wM q cA i_pageLength a_page i_states i_columns a_entries i_signals a_signalAt i_walksAt i_turned i_changed i_read i_newRows i_newEntries i_newColumns i_greatest a_newAt i_partings a_lowSet a_highSet i_leastMany a_leastAt a_tried a_keptLow a_keptHigh i_laid a_wants i_wide a_wideAsked a_wideOnes i_sum i_flickers a_sumAt j_h)) (hS : va_S A s.heap H locs) : W p l e R s m args below meth c H locs 0 0 (MQ below (qWi (Z_X10_takes D q cA i_pageLength a_page i_states i_columns a_entries i_signals a_signalAt i_walksAt i_turned i_changed i_read i_partings a_lowSet a_highSet i_leastMany a_leastAt a_tried a_keptLow a_keptHigh i_laid a_wants i_wide a_wideAsked a_wideOnes i_sum i_flickers a_sumAt j_h post) A) args s 0 0 A) (F0 m 15 ls [.int v0]) := by
  obtain ⟨hx, hb, hml, hown, hts, hr, hlocks, hRf, hRl⟩ := id X
  refine lv_istore_n (lv' := [(2, .int v0), (0, .ref (q 0)), (1, .int x1)]) hx hb dX10_takes_15 rfl hl (by decide) rfl (fun ls hl => ?_)
  refine lv_iload_n hx hb dX10_takes_16 rfl (lv_at hl 2 rfl) ?_
  refine lv_bipush (v := (59 : Int32)) hx hb dX10_takes_17 (by decide +kernel) ?_
  refine lv_icmp_ne (tgt := 140) hx hb dX10_takes_19 (by decide) (fun c_2 => ?_) (fun c_2 => ?_)
  · have hw := hw.2 c_2
    refine lv_iload_n hx hb dX10_takes_140 rfl (lv_at hl 2 rfl) ?_
    refine lv_bipush (v := (45 : Int32)) hx hb dX10_takes_141 (by decide +kernel) ?_
    refine lv_icmp_eq (tgt := 157) hx hb dX10_takes_143 (by decide) (fun c_3 => ?_) (fun c_3 => ?_)
    · have hw := hw.1 c_3
      refine lv_aload_n hx hb dX10_takes_157 rfl (lv_at hl 1 rfl) ?_
      refine gRX10_70 hx hb hown hts hK hP dX10_takes_158 ?_
      refine lv_iload_n hx hb dX10_takes_161 rfl (lv_at hl 0 rfl) ?_
      refine lv_icmp_ge (tgt := 169) hx hb dX10_takes_162 (by decide) (fun c_4 => ?_) (fun c_4 => ?_)
      · have hw := hw.1 c_4
        refine lv_iconst (v := (0 : Int32)) hx hb dX10_takes_169 (by decide) ?_
        exact t_X10_takes_170 X hK hw ls _ _ (lv_sub hl [1, 2] rfl) hP hD hS
      · have hw := hw.2 c_4
        refine lv_iconst (v := (1 : Int32)) hx hb dX10_takes_165 (by decide) ?_
        refine lv_goto (tgt := 170) hx hb dX10_takes_166 (by decide) ?_
        exact t_X10_takes_170 X hK hw ls _ _ (lv_sub hl [1, 2] rfl) hP hD hS
    · have hw := hw.2 c_3
      refine lv_iload_n hx hb dX10_takes_146 rfl (lv_at hl 2 rfl) ?_
      refine lv_bipush (v := (97 : Int32)) hx hb dX10_takes_147 (by decide +kernel) ?_
      refine lv_bipush (v := (102 : Int32)) hx hb dX10_takes_149 (by decide +kernel) ?_
      refine ro_i (va_runS (As := [.int x1, .int (97 : Int32), .int (102 : Int32)]) (rest := []) ⟨hx, hb, hml, hown, hts⟩ (c_X10_within l hw) (kRX10_60 (h := 0) hts (Nat.le_trans (Nat.le_of_ble_eq_true rfl) hRf) (Nat.le_trans (Nat.le_of_ble_eq_true rfl) hRl)) pre_0 rfl rfl hl.1 rfl (lv_room (Nat.le_of_ble_eq_true rfl)) dX10_takes_151 ⟨Nat.zero_le _, Nat.zero_le _⟩) (fun r_10 hw => ?_)
      refine lv_if_eq (tgt := 169) hx hb dX10_takes_154 (by decide) (fun c_11 => ?_) (fun c_11 => ?_)
      · have hw := hw.1 c_11
        refine lv_iconst (v := (0 : Int32)) hx hb dX10_takes_169 (by decide) ?_
        exact t_X10_takes_170 X hK hw ls _ _ (lv_sub hl [1, 2] rfl) hP hD hS
      · have hw := hw.2 c_11
        refine lv_aload_n hx hb dX10_takes_157 rfl (lv_at hl 1 rfl) ?_
        refine gRX10_70 hx hb hown hts hK hP dX10_takes_158 ?_
        refine lv_iload_n hx hb dX10_takes_161 rfl (lv_at hl 0 rfl) ?_
        refine lv_icmp_ge (tgt := 169) hx hb dX10_takes_162 (by decide) (fun c_12 => ?_) (fun c_12 => ?_)
        · have hw := hw.1 c_12
          refine lv_iconst (v := (0 : Int32)) hx hb dX10_takes_169 (by decide) ?_
          exact t_X10_takes_170 X hK hw ls _ _ (lv_sub hl [1, 2] rfl) hP hD hS
        · have hw := hw.2 c_12
          refine lv_iconst (v := (1 : Int32)) hx hb dX10_takes_165 (by decide) ?_
          refine lv_goto (tgt := 170) hx hb dX10_takes_166 (by decide) ?_
          exact t_X10_takes_170 X hK hw ls _ _ (lv_sub hl [1, 2] rfl) hP hD hS
  · have hw := hw.1 c_2
    refine lv_aload_n hx hb dX10_takes_22 rfl (lv_at hl 1 rfl) ?_
    refine gRX10_67 hx hb hown hts hK hP dX10_takes_23 ?_
    refine lv_if_ne (tgt := 45) hx hb dX10_takes_26 (by decide) (fun c_13 => ?_) (fun c_13 => ?_)
    · have hw := hw.2 c_13
      refine lv_aload_n hx hb dX10_takes_45 rfl (lv_at hl 1 rfl) ?_
      refine gRX10_70 hx hb hown hts hK hP dX10_takes_46 ?_
      refine lv_aload_n hx hb dX10_takes_49 rfl (lv_at hl 1 rfl) ?_
      refine gRX10_67 hx hb hown hts hK hP dX10_takes_50 ?_
      refine lv_icmp_ne (tgt := 60) hx hb dX10_takes_53 (by decide) (fun c_14 => ?_) (fun c_14 => ?_)
      · have hw := hw.2 c_14
        refine lv_iconst (v := (0 : Int32)) hx hb dX10_takes_60 (by decide) ?_
        exact t_X10_takes_61 X hK hw ls _ _ (lv_sub hl [1] rfl) hP hD hS
      · have hw := hw.1 c_14
        refine lv_iconst (v := (1 : Int32)) hx hb dX10_takes_56 (by decide) ?_
        refine lv_goto (tgt := 61) hx hb dX10_takes_57 (by decide) ?_
        exact t_X10_takes_61 X hK hw ls _ _ (lv_sub hl [1] rfl) hP hD hS
    · have hw := hw.1 c_13
      refine lv_aload_n hx hb dX10_takes_29 rfl (lv_at hl 1 rfl) ?_
      refine gRX10_70 hx hb hown hts hK hP dX10_takes_30 ?_
      refine lv_iconst (v := (1 : Int32)) hx hb dX10_takes_33 (by decide) ?_
      refine lv_icmp_le (tgt := 41) hx hb dX10_takes_34 (by decide) (fun c_21 => ?_) (fun c_21 => ?_)
      · have hw := hw.1 c_21
        refine lv_iconst (v := (0 : Int32)) hx hb dX10_takes_41 (by decide) ?_
        refine lv_goto (tgt := 61) hx hb dX10_takes_42 (by decide) ?_
        exact t_X10_takes_61 X hK hw ls _ _ (lv_sub hl [1] rfl) hP hD hS
      · have hw := hw.2 c_21
        refine lv_iconst (v := (1 : Int32)) hx hb dX10_takes_37 (by decide) ?_
        refine lv_goto (tgt := 61) hx hb dX10_takes_38 (by decide) ?_
        exact t_X10_takes_61 X hK hw ls _ _ (lv_sub hl [1] rfl) hP hD hS
set_option maxHeartbeats 4000000 in
set_option maxRecDepth 100000 in
theorem c_X10_takes (l : Launch) {D : va_G} {q : Nat → Nat} {cA : Nat → ClassId} {i_pageLength : Int32} {a_page : Nat → Int32} {i_states : Int32} {i_columns : Int32} {a_entries : Nat → Int32} {i_signals : Int32} {a_signalAt : Nat → Int32} {i_walksAt : Int32} {i_turned : Int32} {i_changed : Int32} {i_read : Int32} {i_newRows : Int32} {i_newEntries : Int32} {i_newColumns : Int32} {i_greatest : Int32} {a_newAt : Nat → Int32} {i_partings : Int32} {a_lowSet : Nat → Int32} {a_highSet : Nat → Int32} {i_leastMany : Int32} {a_leastAt : Nat → Int32} {a_tried : Nat → Int32} {a_keptLow : Nat → Int64} {a_keptHigh : Nat → Int64} {i_laid : Int32} {a_wants : Nat → Int32} {i_wide : Int32} {a_wideAsked : Nat → Int32} {a_wideOnes : Nat → Int32} {i_sum : Int32} {i_flickers : Int32} {a_sumAt : Nat → Int32} {j_h : Int64} {A : Nat → Prop} {post : Int32 → Int32 → Int32 → Int32 → Int32 → (Nat → Int32) → Prop} {x1 : Int32} (hw : wp_X10_takes post i_newRows i_newEntries i_newColumns i_greatest a_newAt x1) : Met l yX10_takes (Cond.code yX10_takes cX10_takes 5 (some .boolean) :: wsL_law) (rmH 1) (va_Pc [.ref (q 0), .int x1] (fun U => va_P D vwCl (wM q cA i_pageLength a_page i_states i_columns a_entries i_signals a_signalAt i_walksAt i_turned i_changed i_read i_newRows i_newEntries i_newColumns i_greatest a_newAt i_partings a_lowSet a_highSet i_leastMany a_leastAt a_tried a_keptLow a_keptHigh i_laid a_wants i_wide a_wideAsked a_wideOnes i_sum i_flickers a_sumAt j_h) U.heap ∧ va_K D vwCl (tyM cA) U ∧ va_D A (wM q cA i_pageLength a_page i_states i_columns a_entries i_signals a_signalAt i_walksAt i_turned i_changed i_read i_newRows i_newEntries i_newColumns i_greatest a_newAt i_partings a_lowSet a_highSet i_leastMany a_leastAt a_tried a_keptLow a_keptHigh i_laid a_wants i_wide a_wideAsked a_wideOnes i_sum i_flickers a_sumAt j_h))) (qWi (Z_X10_takes D q cA i_pageLength a_page i_states i_columns a_entries i_signals a_signalAt i_walksAt i_turned i_changed i_read i_partings a_lowSet a_highSet i_leastMany a_leastAt a_tried a_keptLow a_keptHigh i_laid a_wants i_wide a_wideAsked a_wideOnes i_sum i_flickers a_sumAt j_h post) A) 0 0 A := by
  refine Met.ofW (cc := cX10_takes) (maxL := 5) (ret := (some .boolean)) (by decide) rfl ?_
  intro p e s m args below meth c s₁ B hml hv
  obtain ⟨rfl, hP, hK, hD⟩ := hv
  have X : kC p (headSpec (Cond.code yX10_takes cX10_takes 5 (some .boolean) :: wsL_law) (rmH 1)).room s m _ meth c cX10_takes RX10 5 (some .boolean) 1 := ⟨B.exec, B.bytes, hml, findClass_of_methodNamed B.named, fun w h => atoms_spec (ws := Cond.code yX10_takes cX10_takes 5 (some .boolean) :: wsL_law) B.pre w (List.mem_cons_of_mem _ h), B.returns, B.notSynchronized, Nat.le_refl _, Nat.le_refl _⟩
  obtain ⟨hx, hb, hml, hown, hts, hr, hlocks, hRf, hRl⟩ := id X
  have hS : va_S A s.heap s.heap [] := va_S.rf
  have hl := lv_entry ([.ref (q 0), .int x1]) (n := 5) (Nat.le_of_ble_eq_true rfl)
  rw [lg_entry_eq]
  generalize (lg_sl ([.ref (q 0), .int x1]) ++ List.replicate (5 - (lg_sl ([.ref (q 0), .int x1])).length) Slot.unset).toArray = ls at hl ⊢
  have hl : lv_has ls 5 [(0, .ref (q 0)), (1, .int x1)] := hl
  refine lv_aload_n hx hb dX10_takes_0 rfl (lv_at hl 0 rfl) ?_
  refine gRX10_67 hx hb hown hts hK hP dX10_takes_1 ?_
  refine lv_if_ne (tgt := 11) hx hb dX10_takes_4 (by decide) (fun c_1 => ?_) (fun c_1 => ?_)
  · have hw := hw.2 c_1
    refine lv_aload_n hx hb dX10_takes_11 rfl (lv_at hl 0 rfl) ?_
    refine gRX10_67 hx hb hown hts hK hP dX10_takes_12 ?_
    exact t_X10_takes_15 X hK hw ls _ _ (lv_sub hl [0, 1] rfl) hP hD hS
  · have hw := hw.1 c_1
    refine lv_iconst (v := (4 : Int32)) hx hb dX10_takes_7 (by decide) ?_
    refine lv_goto (tgt := 15) hx hb dX10_takes_8 (by decide) ?_
    exact t_X10_takes_15 X hK hw ls _ _ (lv_sub hl [0, 1] rfl) hP hD hS
