abbrev Z_X9_settle (D : va_G) (q : Nat → Nat) (cA : Nat → ClassId) (Fc_tablesRead : Int32) (Pg_letters : Nat → Int32) (Pg_size : Int32) (Pg_fault : Int32) (Pg_rows : Int32) (Pg_inRow : Int32) (Pg_width : Int32) (Fl_entries : Nat → Int32) (Fl_states : Int32) (Fl_columns : Int32) (Fl_moves : Int32) (Fl_stables : Int32) (Fl_amiss : Int32) (Fl_normal : Int32) (Pt_lessers : Nat → Int32) (Pt_greaters : Nat → Int32) (Pt_size : Int32) (Lc_signals : Nat → Int32) (Lc_kept : Nat → Int64) (Lc_keptFrom : Nat → Int64) (Lc_candidates : Int32) (Lc_size : Int32) (Sc_signals : Nat → Int32) (Sc_codes : Nat → Int32) (Sc_size : Int32) (Cu_seen : Nat → Int32) (Cu_inThrees : Nat → Int32) (Cu_all : Int32) (Lo_asked : Nat → Nat → Int32) (Lo_ones : Nat → Nat → Int32) (Lo_sum : Nat → Nat → Int32) (Lo_wideSize : Nat → Int32) (Lo_sumSize : Nat → Int32) (Lo_flickers : Nat → Int32) (Wa_at : Int32) (Wa_turns : Int32) (Wa_changes : Int32) (post : Int32 → (Nat → Int32) → Int32 → (Nat → Int32) → Prop) : State → Prop := fun t => ∃ (y_Fc_unkept : Int32) (y_Ai_codes : Nat → Int32) (y_Ai_bits : Int32) (y_Lo_ready : Nat → Int32), post y_Fc_unkept y_Ai_codes y_Ai_bits y_Lo_ready ∧ va_P D vwCl (wC q cA y_Fc_unkept Fc_tablesRead Pg_letters Pg_size Pg_fault Pg_rows Pg_inRow Pg_width Fl_entries Fl_states Fl_columns Fl_moves Fl_stables Fl_amiss Fl_normal Pt_lessers Pt_greaters Pt_size Lc_signals Lc_kept Lc_keptFrom Lc_candidates Lc_size Sc_signals Sc_codes Sc_size y_Ai_codes y_Ai_bits Cu_seen Cu_inThrees Cu_all Lo_asked Lo_ones Lo_sum Lo_wideSize Lo_sumSize Lo_flickers y_Lo_ready Wa_at Wa_turns Wa_changes) t.heap
set_option maxHeartbeats 4000000 in
set_option maxRecDepth 100000 in
theorem t_X9_settle_17 {p : Program} {l : Launch} {e : Env} {R : Room} {s : State} {m : MethodId} {args : Array Value} {below : List Frame} {meth : Method} {c : Code} {A : Nat → Prop} {D : va_G} {q : Nat → Nat} {cA : Nat → ClassId} {Fc_unkept : Int32} {Fc_tablesRead : Int32} {Pg_letters : Nat → Int32} {Pg_size : Int32} {Pg_fault : Int32} {Pg_rows : Int32} {Pg_inRow : Int32} {Pg_width : Int32} {Fl_entries : Nat → Int32} {Fl_states : Int32} {Fl_columns : Int32} {Fl_moves : Int32} {Fl_stables : Int32} {Fl_amiss : Int32} {Fl_normal : Int32} {Pt_lessers : Nat → Int32} {Pt_greaters : Nat → Int32} {Pt_size : Int32} {Lc_signals : Nat → Int32} {Lc_kept : Nat → Int64} {Lc_keptFrom : Nat → Int64} {Lc_candidates : Int32} {Lc_size : Int32} {Sc_signals : Nat → Int32} {Sc_codes : Nat → Int32} {Sc_size : Int32} {Ai_codes : Nat → Int32} {Ai_bits : Int32} {Cu_seen : Nat → Int32} {Cu_inThrees : Nat → Int32} {Cu_all : Int32} {Lo_asked : Nat → Nat → Int32} {Lo_ones : Nat → Nat → Int32} {Lo_sum : Nat → Nat → Int32} {Lo_wideSize : Nat → Int32} {Lo_sumSize : Nat → Int32} {Lo_flickers : Nat → Int32} {Wa_at : Int32} {Wa_turns : Int32} {Wa_changes : Int32} {post : Int32 → (Nat → Int32) → Int32 → (Nat → Int32) → Prop} {KE : (Nat → Int32) → Prop} (X : kC p R s m args meth c cX9_settle RX9 2 none 4) (hK : va_K D vwCl (tyC cA) s) (hN : nwC s) (hE : ∀ (Lo_ready : Nat → Int32), KE Lo_ready → ∀ (ls : Array Slot) (H : Heap) (locs : List Loc), lv_has ls 2 [(0, .ref (q 0))] → va_P D vwCl (wC q cA Fc_unkept Fc_tablesRead Pg_letters Pg_size Pg_fault Pg_rows Pg_inRow Pg_width Fl_entries Fl_states Fl_columns Fl_moves Fl_stables Fl_amiss Fl_normal Pt_lessers Pt_greaters Pt_size Lc_signals Lc_kept Lc_keptFrom Lc_candidates Lc_size Sc_signals Sc_codes Sc_size Ai_codes Ai_bits Cu_seen Cu_inThrees Cu_all Lo_asked Lo_ones Lo_sum Lo_wideSize Lo_sumSize Lo_flickers Lo_ready Wa_at Wa_turns Wa_changes) H → va_D A (wC q cA Fc_unkept Fc_tablesRead Pg_letters Pg_size Pg_fault Pg_rows Pg_inRow Pg_width Fl_entries Fl_states Fl_columns Fl_moves Fl_stables Fl_amiss Fl_normal Pt_lessers Pt_greaters Pt_size Lc_signals Lc_kept Lc_keptFrom Lc_candidates Lc_size Sc_signals Sc_codes Sc_size Ai_codes Ai_bits Cu_seen Cu_inThrees Cu_all Lo_asked Lo_ones Lo_sum Lo_wideSize Lo_sumSize Lo_flickers Lo_ready Wa_at Wa_turns Wa_changes) → va_S A s.heap H locs → W p l e R s m args below meth c H locs 0 0 (MQ below (qWv (Z_X9_settle D q cA Fc_tablesRead Pg_letters Pg_size Pg_fault Pg_rows Pg_inRow Pg_width Fl_entries Fl_states Fl_columns Fl_moves Fl_stables Fl_amiss Fl_normal Pt_lessers Pt_greaters Pt_size Lc_signals Lc_kept Lc_keptFrom Lc_candidates Lc_size Sc_signals Sc_codes Sc_size Cu_seen Cu_inThrees Cu_all Lo_asked Lo_ones Lo_sum Lo_wideSize Lo_sumSize Lo_flickers Wa_at Wa_turns Wa_changes post) A) args s 0 0 A) (F0 m 38 ls [])) : ∀ (n : Nat) (x1 : Int32) (Lo_ready : Nat → Int32), w_X9_settle_17 KE n x1 Lo_ready → ∀ (ls : Array Slot) (H : Heap) (locs : List Loc), lv_has ls 2 [(0, .ref (q 0)), (1, .int x1)] → va_P D vwCl (wC q cA Fc_unkept Fc_tablesRead Pg_letters Pg_size Pg_fault Pg_rows Pg_inRow Pg_width Fl_entries Fl_states Fl_columns Fl_moves Fl_stables Fl_amiss Fl_normal Pt_lessers Pt_greaters Pt_size Lc_signals Lc_kept Lc_keptFrom Lc_candidates Lc_size Sc_signals Sc_codes Sc_size Ai_codes Ai_bits Cu_seen Cu_inThrees Cu_all Lo_asked Lo_ones Lo_sum Lo_wideSize Lo_sumSize Lo_flickers Lo_ready Wa_at Wa_turns Wa_changes) H → va_D A (wC q cA Fc_unkept Fc_tablesRead Pg_letters Pg_size Pg_fault Pg_rows Pg_inRow Pg_width Fl_entries Fl_states Fl_columns Fl_moves Fl_stables Fl_amiss Fl_normal Pt_lessers Pt_greaters Pt_size Lc_signals Lc_kept Lc_keptFrom Lc_candidates Lc_size Sc_signals Sc_codes Sc_size Ai_codes Ai_bits Cu_seen Cu_inThrees Cu_all Lo_asked Lo_ones Lo_sum Lo_wideSize Lo_sumSize Lo_flickers Lo_ready Wa_at Wa_turns Wa_changes) → va_S A s.heap H locs → W p l e R s m args below meth c H locs 0 0 (MQ below (qWv (Z_X9_settle D q cA Fc_tablesRead Pg_letters Pg_size Pg_fault Pg_rows Pg_inRow Pg_width Fl_entries Fl_states Fl_columns Fl_moves Fl_stables Fl_amiss Fl_normal Pt_lessers Pt_greaters Pt_size Lc_signals Lc_kept Lc_keptFrom Lc_candidates Lc_size Sc_signals Sc_codes Sc_size Cu_seen Cu_inThrees Cu_all Lo_asked Lo_ones Lo_sum Lo_wideSize Lo_sumSize Lo_flickers Wa_at Wa_turns Wa_changes post) A) args s 0 0 A) (F0 m 17 ls []) := by
  obtain ⟨hx, hb, hml, hown, hts, hr, hlocks, hRf, hRl⟩ := id X
  intro n
  induction n with
  | zero => intro x1 Lo_ready hw; exact (show False from hw).elim
  | succ n ih =>
    intro x1 Lo_ready hw ls H locs hl hP hD hS
    refine lv_iload_n hx hb dX9_settle_17 rfl (lv_at hl 1 rfl) ?_
    refine lv_iconst (v := (5 : Int32)) hx hb dX9_settle_18 (by decide) ?_
    refine lv_icmp_ge (tgt := 38) hx hb dX9_settle_19 (by decide) (fun c_2 => ?_) (fun c_2 => ?_)
    · have hw := hw.1 c_2
      exact hE _ hw ls _ _ (lv_sub hl [0] rfl) hP hD hS
    · have hw := hw.2 c_2
      refine lv_aload_n hx hb dX9_settle_22 rfl (lv_at hl 0 rfl) ?_
      refine gRX9_60 hx hb hown hts hK hP dX9_settle_23 ?_
      refine lv_iload_n hx hb dX9_settle_26 rfl (lv_at hl 1 rfl) ?_
      have h_3 := hw.1
      have hw := hw.2
      refine ld_logics hx hb hK hP h_3 dX9_settle_27 ?_
      refine lv_iconst (v := (0 : Int32)) hx hb dX9_settle_28 (by decide) ?_
      refine pRX9_294 (k := x1.toNatClampNeg) (ltk h_3) hx hb hown hts hK hN hP hD hS rfl rfl dX9_settle_29 (fun H locs hP hD hS => ?_)
      obtain ⟨x1_4, e_4⟩ : ∃ z : Int32, z = x1 + (1 : Int32) := ⟨_, rfl⟩
      have hw := hw x1_4 e_4
      refine lv_iinc (v := x1_4) (lv' := [(1, .int x1_4), (0, .ref (q 0))]) hx hb dX9_settle_32 hl (k := 1) rfl (by rw [e_4]; rfl) (by decide) rfl (fun ls hl => ?_)
      refine lv_goto (tgt := 17) hx hb dX9_settle_35 (by decide) ?_
      exact ih _ _ hw ls _ _ (lv_sub hl [1, 0] rfl) hP hD hS
set_option maxHeartbeats 4000000 in
set_option maxRecDepth 100000 in
theorem c_X9_settle (l : Launch) {D : va_G} {q : Nat → Nat} {cA : Nat → ClassId} {Fc_unkept : Int32} {Fc_tablesRead : Int32} {Pg_letters : Nat → Int32} {Pg_size : Int32} {Pg_fault : Int32} {Pg_rows : Int32} {Pg_inRow : Int32} {Pg_width : Int32} {Fl_entries : Nat → Int32} {Fl_states : Int32} {Fl_columns : Int32} {Fl_moves : Int32} {Fl_stables : Int32} {Fl_amiss : Int32} {Fl_normal : Int32} {Pt_lessers : Nat → Int32} {Pt_greaters : Nat → Int32} {Pt_size : Int32} {Lc_signals : Nat → Int32} {Lc_kept : Nat → Int64} {Lc_keptFrom : Nat → Int64} {Lc_candidates : Int32} {Lc_size : Int32} {Sc_signals : Nat → Int32} {Sc_codes : Nat → Int32} {Sc_size : Int32} {Ai_codes : Nat → Int32} {Ai_bits : Int32} {Cu_seen : Nat → Int32} {Cu_inThrees : Nat → Int32} {Cu_all : Int32} {Lo_asked : Nat → Nat → Int32} {Lo_ones : Nat → Nat → Int32} {Lo_sum : Nat → Nat → Int32} {Lo_wideSize : Nat → Int32} {Lo_sumSize : Nat → Int32} {Lo_flickers : Nat → Int32} {Lo_ready : Nat → Int32} {Wa_at : Int32} {Wa_turns : Int32} {Wa_changes : Int32} {A : Nat → Prop} {post : Int32 → (Nat → Int32) → Int32 → (Nat → Int32) → Prop}  (hw : wp_X9_settle post Fc_unkept Fl_entries Fl_states Fl_columns Fl_normal Pt_lessers Pt_greaters Pt_size Sc_signals Sc_codes Sc_size Ai_codes Ai_bits Lo_ready ) : Met l yX9_settle (Cond.code yX9_settle cX9_settle 2 none :: wsL_law) (rmH 4) (va_Pc [.ref (q 0)] (fun U => va_P D vwCl (wC q cA Fc_unkept Fc_tablesRead Pg_letters Pg_size Pg_fault Pg_rows Pg_inRow Pg_width Fl_entries Fl_states Fl_columns Fl_moves Fl_stables Fl_amiss Fl_normal Pt_lessers Pt_greaters Pt_size Lc_signals Lc_kept Lc_keptFrom Lc_candidates Lc_size Sc_signals Sc_codes Sc_size Ai_codes Ai_bits Cu_seen Cu_inThrees Cu_all Lo_asked Lo_ones Lo_sum Lo_wideSize Lo_sumSize Lo_flickers Lo_ready Wa_at Wa_turns Wa_changes) U.heap ∧ va_K D vwCl (tyC cA) U ∧ nwC U ∧ va_D A (wC q cA Fc_unkept Fc_tablesRead Pg_letters Pg_size Pg_fault Pg_rows Pg_inRow Pg_width Fl_entries Fl_states Fl_columns Fl_moves Fl_stables Fl_amiss Fl_normal Pt_lessers Pt_greaters Pt_size Lc_signals Lc_kept Lc_keptFrom Lc_candidates Lc_size Sc_signals Sc_codes Sc_size Ai_codes Ai_bits Cu_seen Cu_inThrees Cu_all Lo_asked Lo_ones Lo_sum Lo_wideSize Lo_sumSize Lo_flickers Lo_ready Wa_at Wa_turns Wa_changes))) (qWv (Z_X9_settle D q cA Fc_tablesRead Pg_letters Pg_size Pg_fault Pg_rows Pg_inRow Pg_width Fl_entries Fl_states Fl_columns Fl_moves Fl_stables Fl_amiss Fl_normal Pt_lessers Pt_greaters Pt_size Lc_signals Lc_kept Lc_keptFrom Lc_candidates Lc_size Sc_signals Sc_codes Sc_size Cu_seen Cu_inThrees Cu_all Lo_asked Lo_ones Lo_sum Lo_wideSize Lo_sumSize Lo_flickers Wa_at Wa_turns Wa_changes post) A) 0 0 A := by
  refine Met.ofW (cc := cX9_settle) (maxL := 2) (ret := none) (by decide) rfl ?_
  intro p e s m args below meth c s₁ B hml hv
  obtain ⟨rfl, hP, hK, hN, hD⟩ := hv
  have X : kC p (headSpec (Cond.code yX9_settle cX9_settle 2 none :: wsL_law) (rmH 4)).room s m _ meth c cX9_settle RX9 2 none 4 := ⟨B.exec, B.bytes, hml, findClass_of_methodNamed B.named, fun w h => atoms_spec (ws := Cond.code yX9_settle cX9_settle 2 none :: wsL_law) B.pre w (List.mem_cons_of_mem _ h), B.returns, B.notSynchronized, Nat.le_refl _, Nat.le_refl _⟩
  obtain ⟨hx, hb, hml, hown, hts, hr, hlocks, hRf, hRl⟩ := id X
  have hS : va_S A s.heap s.heap [] := va_S.rf
  have hl := lv_entry ([.ref (q 0)]) (n := 2) (Nat.le_of_ble_eq_true rfl)
  rw [lg_entry_eq]
  generalize (lg_sl ([.ref (q 0)]) ++ List.replicate (2 - (lg_sl ([.ref (q 0)])).length) Slot.unset).toArray = ls at hl ⊢
  have hl : lv_has ls 2 [(0, .ref (q 0))] := hl
  refine lv_aload_n hx hb dX9_settle_0 rfl (lv_at hl 0 rfl) ?_
  refine lv_aload_n hx hb dX9_settle_1 rfl (lv_at hl 0 rfl) ?_
  refine gRX9_40 hx hb hown hts hK hP dX9_settle_2 ?_
  refine lv_aload_n hx hb dX9_settle_5 rfl (lv_at hl 0 rfl) ?_
  refine gRX9_26 hx hb hown hts hK hP dX9_settle_6 ?_
  refine ro_i (va_runV (As := [.ref (q 5)]) (rest := [.ref (q 0)]) ⟨hx, hb, hml, hown, hts⟩ (c_X7_countUnkept l hw) (kRX9_290 (h := 3) hts (Nat.le_trans (Nat.le_of_ble_eq_true rfl) hRf) (Nat.le_trans (Nat.le_of_ble_eq_true rfl) hRl)) (preX7 hK hN hP) rfl rfl hl.1 rfl (lv_room (Nat.le_of_ble_eq_true rfl)) dX9_settle_9 ⟨Nat.zero_le _, Nat.zero_le _⟩) (fun r_1 hw => ?_)
  refine pRX9_72 hx hb hown hts hK hP hD hS dX9_settle_12 (fun H locs hP hD hS => ?_)
  refine lv_iconst (v := (0 : Int32)) hx hb dX9_settle_15 (by decide) ?_
  refine lv_istore_n (lv' := [(1, .int (0 : Int32)), (0, .ref (q 0))]) hx hb dX9_settle_16 rfl hl (by decide) rfl (fun ls hl => ?_)
  obtain ⟨n_5, hw⟩ := hw
  refine t_X9_settle_17 X hK hN (fun yready_5 hw ls H locs hl hP hD hS => ?_) n_5 _ _ hw ls _ _ (lv_sub hl [1, 0] rfl) hP hD hS
  refine lv_aload_n hx hb dX9_settle_38 rfl (lv_at hl 0 rfl) ?_
  refine ro_i (va_runV (As := []) (rest := []) ⟨hx, hb, hml, hown, hts⟩ (c_X9_isGood l hw) (kRX9_261 (h := 0) hts (Nat.le_trans (Nat.le_of_ble_eq_true rfl) hRf) (Nat.le_trans (Nat.le_of_ble_eq_true rfl) hRl)) (preX9 hK hN hP) rfl rfl hl.1 rfl (lv_room (Nat.le_of_ble_eq_true rfl)) dX9_settle_39 ⟨Nat.zero_le _, Nat.zero_le _⟩) (fun r_6 hw => ?_)
  refine lv_if_eq (tgt := 60) hx hb dX9_settle_42 (by decide) (fun c_7 => ?_) (fun c_7 => ?_)
  · have hw := hw.1 c_7
    exact rw_v hx hb hr hlocks (fun t ht => ⟨r_1, Ai_codes, Ai_bits, yready_5, hw, by rw [ht]; exact hP⟩) hS dX9_settle_60
  · have hw := hw.2 c_7
    refine lv_aload_n hx hb dX9_settle_45 rfl (lv_at hl 0 rfl) ?_
    refine gRX9_47 hx hb hown hts hK hP dX9_settle_46 ?_
    refine lv_aload_n hx hb dX9_settle_49 rfl (lv_at hl 0 rfl) ?_
    refine gRX9_19 hx hb hown hts hK hP dX9_settle_50 ?_
    refine lv_aload_n hx hb dX9_settle_53 rfl (lv_at hl 0 rfl) ?_
    refine gRX9_40 hx hb hown hts hK hP dX9_settle_54 ?_
    refine wr_v (va_runV (As := [.ref (q 3), .ref (q 12)]) (rest := []) ⟨hx, hb, hml, hown, hts⟩ (c_X0_chart l hw) (kRX9_297 (h := 2) hts (Nat.le_trans (Nat.le_of_ble_eq_true rfl) hRf) (Nat.le_trans (Nat.le_of_ble_eq_true rfl) hRl)) (preX0w hK hN hP hD) rfl rfl hl.1 rfl (lv_room (Nat.le_of_ble_eq_true rfl)) dX9_settle_57 ⟨Nat.zero_le _, Nat.zero_le _⟩) hS (fun t H locs ht hw hS => ?_)
    obtain ⟨ycodes_8, ybits_8, hw, hP⟩ := hw
    rw [ht] at hP
    have hP : va_P D vwCl (wC q cA r_1 Fc_tablesRead Pg_letters Pg_size Pg_fault Pg_rows Pg_inRow Pg_width Fl_entries Fl_states Fl_columns Fl_moves Fl_stables Fl_amiss Fl_normal Pt_lessers Pt_greaters Pt_size Lc_signals Lc_kept Lc_keptFrom Lc_candidates Lc_size Sc_signals Sc_codes Sc_size ycodes_8 ybits_8 Cu_seen Cu_inThrees Cu_all Lo_asked Lo_ones Lo_sum Lo_wideSize Lo_sumSize Lo_flickers yready_5 Wa_at Wa_turns Wa_changes) H := hP
    have hD : va_D A (wC q cA r_1 Fc_tablesRead Pg_letters Pg_size Pg_fault Pg_rows Pg_inRow Pg_width Fl_entries Fl_states Fl_columns Fl_moves Fl_stables Fl_amiss Fl_normal Pt_lessers Pt_greaters Pt_size Lc_signals Lc_kept Lc_keptFrom Lc_candidates Lc_size Sc_signals Sc_codes Sc_size ycodes_8 ybits_8 Cu_seen Cu_inThrees Cu_all Lo_asked Lo_ones Lo_sum Lo_wideSize Lo_sumSize Lo_flickers yready_5 Wa_at Wa_turns Wa_changes) := dC hD
    exact rw_v hx hb hr hlocks (fun t ht => ⟨r_1, ycodes_8, ybits_8, yready_5, hw, by rw [ht]; exact hP⟩) hS dX9_settle_60
set_option maxHeartbeats 4000000 in
set_option maxRecDepth 100000 in
theorem t_X6_isInside_16 {p : Program} {l : Launch} {e : Env} {R : Room} {s : State} {m : MethodId} {args : Array Value} {below : List Frame} {meth : Method} {c : Code}  {post : Int32 → Prop} {x0 : Int32} {x1 : Int32} {x2 : Int32} {x3 : Int32} (X : kC p R s m args meth c cX6_isInside RX6 4 (some .boolean) 0) (hw : j_X6_isInside_16 post x0 x1 x2 x3) (ls : Array Slot) (hl : lv_has ls 4 [(0, .int x0), (1, .int x1), (2, .int x2), (3, .int x3)]) : W p l e R s m args below meth c s.heap [] 0 0 (MQ below (qRi post) args s 0 0 (fun _ => False)) (F0 m 16 ls []) := by
  obtain ⟨hx, hb, hml, hown, hts, hr, hlocks, hRf, hRl⟩ := id X
  refine lv_iload_n hx hb dX6_isInside_16 rfl (lv_at hl 0 rfl) ?_
  refine lv_iload_n hx hb dX6_isInside_17 rfl (lv_at hl 3 rfl) ?_
  refine lv_iconst (v := ((-1) : Int32)) hx hb dX6_isInside_18 (by decide) ?_
  refine lv_ixor hx hb dX6_isInside_19 ?_
  refine lv_iand hx hb dX6_isInside_20 ?_
  refine lv_if_ne (tgt := 36) hx hb dX6_isInside_21 (by decide) (fun c_2 => ?_) (fun c_2 => ?_)
  · have hw := hw.2 c_2
    refine lv_iconst (v := (0 : Int32)) hx hb dX6_isInside_36 (by decide) ?_
    exact rt_z hx hb hr hlocks rfl hw dX6_isInside_37
  · have hw := hw.1 c_2
    refine lv_iload_n hx hb dX6_isInside_24 rfl (lv_at hl 1 rfl) ?_
    refine lv_iload_n hx hb dX6_isInside_25 rfl (lv_at hl 2 rfl) ?_
    refine lv_iconst (v := ((-1) : Int32)) hx hb dX6_isInside_26 (by decide) ?_
    refine lv_ixor hx hb dX6_isInside_27 ?_
    refine lv_iand hx hb dX6_isInside_28 ?_
    refine lv_if_ne (tgt := 36) hx hb dX6_isInside_29 (by decide) (fun c_3 => ?_) (fun c_3 => ?_)
    · have hw := hw.2 c_3
      refine lv_iconst (v := (0 : Int32)) hx hb dX6_isInside_36 (by decide) ?_
      exact rt_z hx hb hr hlocks rfl hw dX6_isInside_37
    · have hw := hw.1 c_3
      refine lv_iconst (v := (1 : Int32)) hx hb dX6_isInside_32 (by decide) ?_
      refine lv_goto (tgt := 37) hx hb dX6_isInside_33 (by decide) ?_
      exact rt_z hx hb hr hlocks rfl hw dX6_isInside_37
set_option maxHeartbeats 4000000 in
set_option maxRecDepth 100000 in
theorem c_X6_isInside (l : Launch)  {post : Int32 → Prop} {x0 : Int32} {x1 : Int32} {x2 : Int32} {x3 : Int32} (hw : wp_X6_isInside post  x0 x1 x2 x3) : Met l yX6_isInside (Cond.code yX6_isInside cX6_isInside 4 (some .boolean) :: wsL_law) (rmH 0) (va_Pc [.int x0, .int x1, .int x2, .int x3] (fun _ => True)) (qRi post) 0 0 (fun _ => False) := by
  refine Met.ofW (cc := cX6_isInside) (maxL := 4) (ret := (some .boolean)) (by decide) rfl ?_
  intro p e s m args below meth c s₁ B hml hv
  obtain ⟨rfl, -⟩ := hv
  have X : kC p (headSpec (Cond.code yX6_isInside cX6_isInside 4 (some .boolean) :: wsL_law) (rmH 0)).room s m _ meth c cX6_isInside RX6 4 (some .boolean) 0 := ⟨B.exec, B.bytes, hml, findClass_of_methodNamed B.named, fun w h => atoms_spec (ws := Cond.code yX6_isInside cX6_isInside 4 (some .boolean) :: wsL_law) B.pre w (List.mem_cons_of_mem _ h), B.returns, B.notSynchronized, Nat.le_refl _, Nat.le_refl _⟩
  obtain ⟨hx, hb, hml, hown, hts, hr, hlocks, hRf, hRl⟩ := id X
  have hl := lv_entry ([.int x0, .int x1, .int x2, .int x3]) (n := 4) (Nat.le_of_ble_eq_true rfl)
  rw [lg_entry_eq]
  generalize (lg_sl ([.int x0, .int x1, .int x2, .int x3]) ++ List.replicate (4 - (lg_sl ([.int x0, .int x1, .int x2, .int x3])).length) Slot.unset).toArray = ls at hl ⊢
  have hl : lv_has ls 4 [(0, .int x0), (1, .int x1), (2, .int x2), (3, .int x3)] := hl
  refine lv_iload_n hx hb dX6_isInside_0 rfl (lv_at hl 0 rfl) ?_
  refine lv_iload_n hx hb dX6_isInside_1 rfl (lv_at hl 2 rfl) ?_
  refine lv_iconst (v := ((-1) : Int32)) hx hb dX6_isInside_2 (by decide) ?_
  refine lv_ixor hx hb dX6_isInside_3 ?_
  refine lv_iand hx hb dX6_isInside_4 ?_
  refine lv_if_ne (tgt := 16) hx hb dX6_isInside_5 (by decide) (fun c_1 => ?_) (fun c_1 => ?_)
  · have hw := hw.2 c_1
    exact t_X6_isInside_16 X hw ls (lv_sub hl [0, 1, 2, 3] rfl)
  · have hw := hw.1 c_1
    refine lv_iload_n hx hb dX6_isInside_8 rfl (lv_at hl 1 rfl) ?_
    refine lv_iload_n hx hb dX6_isInside_9 rfl (lv_at hl 3 rfl) ?_
    refine lv_iconst (v := ((-1) : Int32)) hx hb dX6_isInside_10 (by decide) ?_
    refine lv_ixor hx hb dX6_isInside_11 ?_
    refine lv_iand hx hb dX6_isInside_12 ?_
    refine lv_if_eq (tgt := 32) hx hb dX6_isInside_13 (by decide) (fun c_4 => ?_) (fun c_4 => ?_)
    · have hw := hw.1 c_4
      refine lv_iconst (v := (1 : Int32)) hx hb dX6_isInside_32 (by decide) ?_
      refine lv_goto (tgt := 37) hx hb dX6_isInside_33 (by decide) ?_
      exact rt_z hx hb hr hlocks rfl hw dX6_isInside_37
    · have hw := hw.2 c_4
      exact t_X6_isInside_16 X hw ls (lv_sub hl [0, 1, 2, 3] rfl)
abbrev Z_X6_dropInside (D : va_G) (q : Nat → Nat) (cA : Nat → ClassId) (Fc_unkept : Int32) (Fc_tablesRead : Int32) (Pg_letters : Nat → Int32) (Pg_size : Int32) (Pg_fault : Int32) (Pg_rows : Int32) (Pg_inRow : Int32) (Pg_width : Int32) (Fl_entries : Nat → Int32) (Fl_states : Int32) (Fl_columns : Int32) (Fl_moves : Int32) (Fl_stables : Int32) (Fl_amiss : Int32) (Fl_normal : Int32) (Lc_signals : Nat → Int32) (Lc_kept : Nat → Int64) (Lc_keptFrom : Nat → Int64) (Lc_candidates : Int32) (Lc_size : Int32) (Sc_signals : Nat → Int32) (Sc_codes : Nat → Int32) (Sc_size : Int32) (Ai_codes : Nat → Int32) (Ai_bits : Int32) (Cu_seen : Nat → Int32) (Cu_inThrees : Nat → Int32) (Cu_all : Int32) (Lo_asked : Nat → Nat → Int32) (Lo_ones : Nat → Nat → Int32) (Lo_sum : Nat → Nat → Int32) (Lo_wideSize : Nat → Int32) (Lo_sumSize : Nat → Int32) (Lo_flickers : Nat → Int32) (Lo_ready : Nat → Int32) (Wa_at : Int32) (Wa_turns : Int32) (Wa_changes : Int32) (post : (Nat → Int32) → (Nat → Int32) → Int32 → Prop) : State → Prop := fun t => ∃ (y_Pt_lessers : Nat → Int32) (y_Pt_greaters : Nat → Int32) (y_Pt_size : Int32), post y_Pt_lessers y_Pt_greaters y_Pt_size ∧ va_P D vwCl (wC q cA Fc_unkept Fc_tablesRead Pg_letters Pg_size Pg_fault Pg_rows Pg_inRow Pg_width Fl_entries Fl_states Fl_columns Fl_moves Fl_stables Fl_amiss Fl_normal y_Pt_lessers y_Pt_greaters y_Pt_size Lc_signals Lc_kept Lc_keptFrom Lc_candidates Lc_size Sc_signals Sc_codes Sc_size Ai_codes Ai_bits Cu_seen Cu_inThrees Cu_all Lo_asked Lo_ones Lo_sum Lo_wideSize Lo_sumSize Lo_flickers Lo_ready Wa_at Wa_turns Wa_changes) t.heap
set_option maxHeartbeats 4000000 in
set_option maxRecDepth 100000 in
theorem t_X6_dropInside_5 {p : Program} {l : Launch} {e : Env} {R : Room} {s : State} {m : MethodId} {args : Array Value} {below : List Frame} {meth : Method} {c : Code} {A : Nat → Prop} {D : va_G} {q : Nat → Nat} {cA : Nat → ClassId} {Fc_unkept : Int32} {Fc_tablesRead : Int32} {Pg_letters : Nat → Int32} {Pg_size : Int32} {Pg_fault : Int32} {Pg_rows : Int32} {Pg_inRow : Int32} {Pg_width : Int32} {Fl_entries : Nat → Int32} {Fl_states : Int32} {Fl_columns : Int32} {Fl_moves : Int32} {Fl_stables : Int32} {Fl_amiss : Int32} {Fl_normal : Int32} {Pt_size : Int32} {Lc_signals : Nat → Int32} {Lc_kept : Nat → Int64} {Lc_keptFrom : Nat → Int64} {Lc_candidates : Int32} {Lc_size : Int32} {Sc_signals : Nat → Int32} {Sc_codes : Nat → Int32} {Sc_size : Int32} {Ai_codes : Nat → Int32} {Ai_bits : Int32} {Cu_seen : Nat → Int32} {Cu_inThrees : Nat → Int32} {Cu_all : Int32} {Lo_asked : Nat → Nat → Int32} {Lo_ones : Nat → Nat → Int32} {Lo_sum : Nat → Nat → Int32} {Lo_wideSize : Nat → Int32} {Lo_sumSize : Nat → Int32} {Lo_flickers : Nat → Int32} {Lo_ready : Nat → Int32} {Wa_at : Int32} {Wa_turns : Int32} {Wa_changes : Int32} {post : (Nat → Int32) → (Nat → Int32) → Int32 → Prop} {KE : Int32 → (Nat → Int32) → (Nat → Int32) → Prop} {x1 : Int32} {x2 : Int32} (X : kC p R s m args meth c cX6_dropInside RX6 5 none 1) (hK : va_K D vwCl (tyC cA) s) (hN : nwC s) (hE : ∀ (x3 : Int32) (Pt_lessers : Nat → Int32) (Pt_greaters : Nat → Int32), KE x3 Pt_lessers Pt_greaters → ∀ (ls : Array Slot) (H : Heap) (locs : List Loc), lv_has ls 5 [(0, .ref (q 5)), (3, .int x3)] → va_P D vwCl (wC q cA Fc_unkept Fc_tablesRead Pg_letters Pg_size Pg_fault Pg_rows Pg_inRow Pg_width Fl_entries Fl_states Fl_columns Fl_moves Fl_stables Fl_amiss Fl_normal Pt_lessers Pt_greaters Pt_size Lc_signals Lc_kept Lc_keptFrom Lc_candidates Lc_size Sc_signals Sc_codes Sc_size Ai_codes Ai_bits Cu_seen Cu_inThrees Cu_all Lo_asked Lo_ones Lo_sum Lo_wideSize Lo_sumSize Lo_flickers Lo_ready Wa_at Wa_turns Wa_changes) H → va_D A (wC q cA Fc_unkept Fc_tablesRead Pg_letters Pg_size Pg_fault Pg_rows Pg_inRow Pg_width Fl_entries Fl_states Fl_columns Fl_moves Fl_stables Fl_amiss Fl_normal Pt_lessers Pt_greaters Pt_size Lc_signals Lc_kept Lc_keptFrom Lc_candidates Lc_size Sc_signals Sc_codes Sc_size Ai_codes Ai_bits Cu_seen Cu_inThrees Cu_all Lo_asked Lo_ones Lo_sum Lo_wideSize Lo_sumSize Lo_flickers Lo_ready Wa_at Wa_turns Wa_changes) → va_S A s.heap H locs → W p l e R s m args below meth c H locs 0 0 (MQ below (qWv (Z_X6_dropInside D q cA Fc_unkept Fc_tablesRead Pg_letters Pg_size Pg_fault Pg_rows Pg_inRow Pg_width Fl_entries Fl_states Fl_columns Fl_moves Fl_stables Fl_amiss Fl_normal Lc_signals Lc_kept Lc_keptFrom Lc_candidates Lc_size Sc_signals Sc_codes Sc_size Ai_codes Ai_bits Cu_seen Cu_inThrees Cu_all Lo_asked Lo_ones Lo_sum Lo_wideSize Lo_sumSize Lo_flickers Lo_ready Wa_at Wa_turns Wa_changes post) A) args s 0 0 A) (F0 m 71 ls [])) : ∀ (n : Nat) (x3 : Int32) (x4 : Int32) (Pt_lessers : Nat → Int32) (Pt_greaters : Nat → Int32), w_X6_dropInside_5 KE Pt_size x1 x2 n x3 x4 Pt_lessers Pt_greaters → ∀ (ls : Array Slot) (H : Heap) (locs : List Loc), lv_has ls 5 [(0, .ref (q 5)), (1, .int x1), (2, .int x2), (3, .int x3), (4, .int x4)] → va_P D vwCl (wC q cA Fc_unkept Fc_tablesRead Pg_letters Pg_size Pg_fault Pg_rows Pg_inRow Pg_width Fl_entries Fl_states Fl_columns Fl_moves Fl_stables Fl_amiss Fl_normal Pt_lessers Pt_greaters Pt_size Lc_signals Lc_kept Lc_keptFrom Lc_candidates Lc_size Sc_signals Sc_codes Sc_size Ai_codes Ai_bits Cu_seen Cu_inThrees Cu_all Lo_asked Lo_ones Lo_sum Lo_wideSize Lo_sumSize Lo_flickers Lo_ready Wa_at Wa_turns Wa_changes) H → va_D A (wC q cA Fc_unkept Fc_tablesRead Pg_letters Pg_size Pg_fault Pg_rows Pg_inRow Pg_width Fl_entries Fl_states Fl_columns Fl_moves Fl_stables Fl_amiss Fl_normal Pt_lessers Pt_greaters Pt_size Lc_signals Lc_kept Lc_keptFrom Lc_candidates Lc_size Sc_signals Sc_codes Sc_size Ai_codes Ai_bits Cu_seen Cu_inThrees Cu_all Lo_asked Lo_ones Lo_sum Lo_wideSize Lo_sumSize Lo_flickers Lo_ready Wa_at Wa_turns Wa_changes) → va_S A s.heap H locs → W p l e R s m args below meth c H locs 0 0 (MQ below (qWv (Z_X6_dropInside D q cA Fc_unkept Fc_tablesRead Pg_letters Pg_size Pg_fault Pg_rows Pg_inRow Pg_width Fl_entries Fl_states Fl_columns Fl_moves Fl_stables Fl_amiss Fl_normal Lc_signals Lc_kept Lc_keptFrom Lc_candidates Lc_size Sc_signals Sc_codes Sc_size Ai_codes Ai_bits Cu_seen Cu_inThrees Cu_all Lo_asked Lo_ones Lo_sum Lo_wideSize Lo_sumSize Lo_flickers Lo_ready Wa_at Wa_turns Wa_changes post) A) args s 0 0 A) (F0 m 5 ls []) := by
  obtain ⟨hx, hb, hml, hown, hts, hr, hlocks, hRf, hRl⟩ := id X
  intro n
  induction n with
  | zero => intro x3 x4 Pt_lessers Pt_greaters hw; exact (show False from hw).elim
  | succ n ih =>
    intro x3 x4 Pt_lessers Pt_greaters hw ls H locs hl hP hD hS
    refine lv_iload hx hb dX6_dropInside_5 (lv_at hl 4 rfl) ?_
    refine lv_aload_n hx hb dX6_dropInside_7 rfl (lv_at hl 0 rfl) ?_
    refine gRX6_18 hx hb hown hts hK hP dX6_dropInside_8 ?_
    refine lv_icmp_ge (tgt := 71) hx hb dX6_dropInside_11 (by decide) (fun c_1 => ?_) (fun c_1 => ?_)
    · have hw := hw.1 c_1
      exact hE _ _ _ hw ls _ _ (lv_sub hl [0, 3] rfl) hP hD hS
    · have hw := hw.2 c_1
      refine lv_aload_n hx hb dX6_dropInside_14 rfl (lv_at hl 0 rfl) ?_
      refine gRX6_11 hx hb hown hts hK hP dX6_dropInside_15 ?_
      refine lv_iload hx hb dX6_dropInside_18 (lv_at hl 4 rfl) ?_
      have h_2 := hw.1
      have hw := hw.2
      refine ld_Pt_lessers hx hb hK hP h_2 dX6_dropInside_20 ?_
      refine lv_aload_n hx hb dX6_dropInside_21 rfl (lv_at hl 0 rfl) ?_
      refine gRX6_15 hx hb hown hts hK hP dX6_dropInside_22 ?_
      refine lv_iload hx hb dX6_dropInside_25 (lv_at hl 4 rfl) ?_
      have h_3 := hw.1
      have hw := hw.2
      refine ld_Pt_greaters hx hb hK hP h_3 dX6_dropInside_27 ?_
      refine lv_iload_n hx hb dX6_dropInside_28 rfl (lv_at hl 1 rfl) ?_
      refine lv_iload_n hx hb dX6_dropInside_29 rfl (lv_at hl 2 rfl) ?_
      refine ro_i (va_runS (As := [.int (Pt_lessers x4.toNatClampNeg), .int (Pt_greaters x4.toNatClampNeg), .int x1, .int x2]) (rest := []) ⟨hx, hb, hml, hown, hts⟩ (c_X6_isInside l hw) (kRX6_53 (h := 0) hts (Nat.le_trans (Nat.le_of_ble_eq_true rfl) hRf) (Nat.le_trans (Nat.le_of_ble_eq_true rfl) hRl)) pre_0 rfl rfl hl.1 rfl (lv_room (Nat.le_of_ble_eq_true rfl)) dX6_dropInside_30 ⟨Nat.zero_le _, Nat.zero_le _⟩) (fun r_4 hw => ?_)
      refine lv_if_ne (tgt := 65) hx hb dX6_dropInside_33 (by decide) (fun c_5 => ?_) (fun c_5 => ?_)
      · have hw := hw.2 c_5
        obtain ⟨x4_6, e_6⟩ : ∃ z : Int32, z = x4 + (1 : Int32) := ⟨_, rfl⟩
        have hw := hw x4_6 e_6
        refine lv_iinc (v := x4_6) (lv' := [(4, .int x4_6), (0, .ref (q 5)), (1, .int x1), (2, .int x2), (3, .int x3)]) hx hb dX6_dropInside_65 hl (k := 4) rfl (by rw [e_6]; rfl) (by decide) rfl (fun ls hl => ?_)
        refine lv_goto (tgt := 5) hx hb dX6_dropInside_68 (by decide) ?_
        exact ih _ _ _ _ hw ls _ _ (lv_sub hl [1, 2, 3, 4, 0] rfl) hP hD hS
      · have hw := hw.1 c_5
        refine lv_aload_n hx hb dX6_dropInside_36 rfl (lv_at hl 0 rfl) ?_
        refine gRX6_11 hx hb hown hts hK hP dX6_dropInside_37 ?_
        refine lv_iload_n hx hb dX6_dropInside_40 rfl (lv_at hl 3 rfl) ?_
        refine lv_aload_n hx hb dX6_dropInside_41 rfl (lv_at hl 0 rfl) ?_
        refine gRX6_11 hx hb hown hts hK hP dX6_dropInside_42 ?_
        refine lv_iload hx hb dX6_dropInside_45 (lv_at hl 4 rfl) ?_
        have h_7 := hw.1
        have hw := hw.2
        refine ld_Pt_lessers hx hb hK hP h_7 dX6_dropInside_47 ?_
        have h_8 := hw.1
        have hw := hw.2
        refine st_Pt_lessers hx hb hK hP hD hS h_8 dX6_dropInside_48 (fun H locs a_8 e_8 hP hD hS => ?_)
        have hw := hw a_8 e_8
        refine lv_aload_n hx hb dX6_dropInside_49 rfl (lv_at hl 0 rfl) ?_
        refine gRX6_15 hx hb hown hts hK hP dX6_dropInside_50 ?_
        refine lv_iload_n hx hb dX6_dropInside_53 rfl (lv_at hl 3 rfl) ?_
        refine lv_aload_n hx hb dX6_dropInside_54 rfl (lv_at hl 0 rfl) ?_
        refine gRX6_15 hx hb hown hts hK hP dX6_dropInside_55 ?_
        refine lv_iload hx hb dX6_dropInside_58 (lv_at hl 4 rfl) ?_
        have h_9 := hw.1
        have hw := hw.2
        refine ld_Pt_greaters hx hb hK hP h_9 dX6_dropInside_60 ?_
        have h_10 := hw.1
        have hw := hw.2
        refine st_Pt_greaters hx hb hK hP hD hS h_10 dX6_dropInside_61 (fun H locs a_10 e_10 hP hD hS => ?_)
        have hw := hw a_10 e_10
        obtain ⟨x3_11, e_11⟩ : ∃ z : Int32, z = x3 + (1 : Int32) := ⟨_, rfl⟩
        have hw := hw x3_11 e_11
        refine lv_iinc (v := x3_11) (lv' := [(3, .int x3_11), (0, .ref (q 5)), (1, .int x1), (2, .int x2), (4, .int x4)]) hx hb dX6_dropInside_62 hl (k := 3) rfl (by rw [e_11]; rfl) (by decide) rfl (fun ls hl => ?_)
        obtain ⟨x4_12, e_12⟩ : ∃ z : Int32, z = x4 + (1 : Int32) := ⟨_, rfl⟩
        have hw := hw x4_12 e_12
        refine lv_iinc (v := x4_12) (lv' := [(4, .int x4_12), (3, .int x3_11), (0, .ref (q 5)), (1, .int x1), (2, .int x2)]) hx hb dX6_dropInside_65 hl (k := 4) rfl (by rw [e_12]; rfl) (by decide) rfl (fun ls hl => ?_)
        refine lv_goto (tgt := 5) hx hb dX6_dropInside_68 (by decide) ?_
        exact ih _ _ _ _ hw ls _ _ (lv_sub hl [2, 3, 4, 1, 0] rfl) hP hD hS
set_option maxHeartbeats 4000000 in
set_option maxRecDepth 100000 in
theorem c_X6_dropInside (l : Launch) {D : va_G} {q : Nat → Nat} {cA : Nat → ClassId} {Fc_unkept : Int32} {Fc_tablesRead : Int32} {Pg_letters : Nat → Int32} {Pg_size : Int32} {Pg_fault : Int32} {Pg_rows : Int32} {Pg_inRow : Int32} {Pg_width : Int32} {Fl_entries : Nat → Int32} {Fl_states : Int32} {Fl_columns : Int32} {Fl_moves : Int32} {Fl_stables : Int32} {Fl_amiss : Int32} {Fl_normal : Int32} {Pt_lessers : Nat → Int32} {Pt_greaters : Nat → Int32} {Pt_size : Int32} {Lc_signals : Nat → Int32} {Lc_kept : Nat → Int64} {Lc_keptFrom : Nat → Int64} {Lc_candidates : Int32} {Lc_size : Int32} {Sc_signals : Nat → Int32} {Sc_codes : Nat → Int32} {Sc_size : Int32} {Ai_codes : Nat → Int32} {Ai_bits : Int32} {Cu_seen : Nat → Int32} {Cu_inThrees : Nat → Int32} {Cu_all : Int32} {Lo_asked : Nat → Nat → Int32} {Lo_ones : Nat → Nat → Int32} {Lo_sum : Nat → Nat → Int32} {Lo_wideSize : Nat → Int32} {Lo_sumSize : Nat → Int32} {Lo_flickers : Nat → Int32} {Lo_ready : Nat → Int32} {Wa_at : Int32} {Wa_turns : Int32} {Wa_changes : Int32} {A : Nat → Prop} {post : (Nat → Int32) → (Nat → Int32) → Int32 → Prop} {x1 : Int32} {x2 : Int32} (hw : wp_X6_dropInside post Pt_lessers Pt_greaters Pt_size x1 x2) : Met l yX6_dropInside (Cond.code yX6_dropInside cX6_dropInside 5 none :: wsL_law) (rmH 1) (va_Pc [.ref (q 5), .int x1, .int x2] (fun U => va_P D vwCl (wC q cA Fc_unkept Fc_tablesRead Pg_letters Pg_size Pg_fault Pg_rows Pg_inRow Pg_width Fl_entries Fl_states Fl_columns Fl_moves Fl_stables Fl_amiss Fl_normal Pt_lessers Pt_greaters Pt_size Lc_signals Lc_kept Lc_keptFrom Lc_candidates Lc_size Sc_signals Sc_codes Sc_size Ai_codes Ai_bits Cu_seen Cu_inThrees Cu_all Lo_asked Lo_ones Lo_sum Lo_wideSize Lo_sumSize Lo_flickers Lo_ready Wa_at Wa_turns Wa_changes) U.heap ∧ va_K D vwCl (tyC cA) U ∧ nwC U ∧ va_D A (wC q cA Fc_unkept Fc_tablesRead Pg_letters Pg_size Pg_fault Pg_rows Pg_inRow Pg_width Fl_entries Fl_states Fl_columns Fl_moves Fl_stables Fl_amiss Fl_normal Pt_lessers Pt_greaters Pt_size Lc_signals Lc_kept Lc_keptFrom Lc_candidates Lc_size Sc_signals Sc_codes Sc_size Ai_codes Ai_bits Cu_seen Cu_inThrees Cu_all Lo_asked Lo_ones Lo_sum Lo_wideSize Lo_sumSize Lo_flickers Lo_ready Wa_at Wa_turns Wa_changes))) (qWv (Z_X6_dropInside D q cA Fc_unkept Fc_tablesRead Pg_letters Pg_size Pg_fault Pg_rows Pg_inRow Pg_width Fl_entries Fl_states Fl_columns Fl_moves Fl_stables Fl_amiss Fl_normal Lc_signals Lc_kept Lc_keptFrom Lc_candidates Lc_size Sc_signals Sc_codes Sc_size Ai_codes Ai_bits Cu_seen Cu_inThrees Cu_all Lo_asked Lo_ones Lo_sum Lo_wideSize Lo_sumSize Lo_flickers Lo_ready Wa_at Wa_turns Wa_changes post) A) 0 0 A := by
  refine Met.ofW (cc := cX6_dropInside) (maxL := 5) (ret := none) (by decide) rfl ?_
  intro p e s m args below meth c s₁ B hml hv
  obtain ⟨rfl, hP, hK, hN, hD⟩ := hv
  have X : kC p (headSpec (Cond.code yX6_dropInside cX6_dropInside 5 none :: wsL_law) (rmH 1)).room s m _ meth c cX6_dropInside RX6 5 none 1 := ⟨B.exec, B.bytes, hml, findClass_of_methodNamed B.named, fun w h => atoms_spec (ws := Cond.code yX6_dropInside cX6_dropInside 5 none :: wsL_law) B.pre w (List.mem_cons_of_mem _ h), B.returns, B.notSynchronized, Nat.le_refl _, Nat.le_refl _⟩
  obtain ⟨hx, hb, hml, hown, hts, hr, hlocks, hRf, hRl⟩ := id X
  have hS : va_S A s.heap s.heap [] := va_S.rf
  have hl := lv_entry ([.ref (q 5), .int x1, .int x2]) (n := 5) (Nat.le_of_ble_eq_true rfl)
  rw [lg_entry_eq]
  generalize (lg_sl ([.ref (q 5), .int x1, .int x2]) ++ List.replicate (5 - (lg_sl ([.ref (q 5), .int x1, .int x2])).length) Slot.unset).toArray = ls at hl ⊢
  have hl : lv_has ls 5 [(0, .ref (q 5)), (1, .int x1), (2, .int x2)] := hl
  refine lv_iconst (v := (0 : Int32)) hx hb dX6_dropInside_0 (by decide) ?_
  refine lv_istore_n (lv' := [(3, .int (0 : Int32)), (0, .ref (q 5)), (1, .int x1), (2, .int x2)]) hx hb dX6_dropInside_1 rfl hl (by decide) rfl (fun ls hl => ?_)
  refine lv_iconst (v := (0 : Int32)) hx hb dX6_dropInside_2 (by decide) ?_
  refine lv_istore (lv' := [(4, .int (0 : Int32)), (3, .int (0 : Int32)), (0, .ref (q 5)), (1, .int x1), (2, .int x2)]) hx hb dX6_dropInside_3 hl (by decide) rfl (fun ls hl => ?_)
  obtain ⟨n_13, hw⟩ := hw
  refine t_X6_dropInside_5 X hK hN (fun x3_13 ylessers_13 ygreaters_13 hw ls H locs hl hP hD hS => ?_) n_13 _ _ _ _ hw ls _ _ (lv_sub hl [2, 3, 4, 1, 0] rfl) hP hD hS
  refine lv_aload_n hx hb dX6_dropInside_71 rfl (lv_at hl 0 rfl) ?_
  refine lv_iload_n hx hb dX6_dropInside_72 rfl (lv_at hl 1 rfl) ?_
  refine pRX6_18 hx hb hown hts hK hP hD hS dX6_dropInside_73 (fun H locs hP hD hS => ?_)
  exact rw_v hx hb hr hlocks (fun t ht => ⟨ylessers_13, ygreaters_13, x3_13, hw, by rw [ht]; exact hP⟩) hS dX6_dropInside_76
set_option maxHeartbeats 4000000 in
set_option maxRecDepth 100000 in
theorem c_X6_isBehind (l : Launch) {D : va_G} {q : Nat → Nat} {cA : Nat → ClassId} {Fc_unkept : Int32} {Fc_tablesRead : Int32} {Pg_letters : Nat → Int32} {Pg_size : Int32} {Pg_fault : Int32} {Pg_rows : Int32} {Pg_inRow : Int32} {Pg_width : Int32} {Fl_entries : Nat → Int32} {Fl_states : Int32} {Fl_columns : Int32} {Fl_moves : Int32} {Fl_stables : Int32} {Fl_amiss : Int32} {Fl_normal : Int32} {Pt_lessers : Nat → Int32} {Pt_greaters : Nat → Int32} {Pt_size : Int32} {Lc_signals : Nat → Int32} {Lc_kept : Nat → Int64} {Lc_keptFrom : Nat → Int64} {Lc_candidates : Int32} {Lc_size : Int32} {Sc_signals : Nat → Int32} {Sc_codes : Nat → Int32} {Sc_size : Int32} {Ai_codes : Nat → Int32} {Ai_bits : Int32} {Cu_seen : Nat → Int32} {Cu_inThrees : Nat → Int32} {Cu_all : Int32} {Lo_asked : Nat → Nat → Int32} {Lo_ones : Nat → Nat → Int32} {Lo_sum : Nat → Nat → Int32} {Lo_wideSize : Nat → Int32} {Lo_sumSize : Nat → Int32} {Lo_flickers : Nat → Int32} {Lo_ready : Nat → Int32} {Wa_at : Int32} {Wa_turns : Int32} {Wa_changes : Int32} {post : Int32 → Prop} {x1 : Int32} {x2 : Int32} {x3 : Int32} (hw : wp_X6_isBehind post Pt_lessers Pt_greaters x1 x2 x3) : Met l yX6_isBehind (Cond.code yX6_isBehind cX6_isBehind 4 (some .boolean) :: wsL_law) (rmH 0) (va_Pc [.ref (q 5), .int x1, .int x2, .int x3] (fun U => va_P D vwCl (wC q cA Fc_unkept Fc_tablesRead Pg_letters Pg_size Pg_fault Pg_rows Pg_inRow Pg_width Fl_entries Fl_states Fl_columns Fl_moves Fl_stables Fl_amiss Fl_normal Pt_lessers Pt_greaters Pt_size Lc_signals Lc_kept Lc_keptFrom Lc_candidates Lc_size Sc_signals Sc_codes Sc_size Ai_codes Ai_bits Cu_seen Cu_inThrees Cu_all Lo_asked Lo_ones Lo_sum Lo_wideSize Lo_sumSize Lo_flickers Lo_ready Wa_at Wa_turns Wa_changes) U.heap ∧ va_K D vwCl (tyC cA) U ∧ nwC U)) (qRi post) 0 0 (fun _ => False) := by
  refine Met.ofW (cc := cX6_isBehind) (maxL := 4) (ret := (some .boolean)) (by decide) rfl ?_
  intro p e s m args below meth c s₁ B hml hv
  obtain ⟨rfl, hP, hK, hN⟩ := hv
  have X : kC p (headSpec (Cond.code yX6_isBehind cX6_isBehind 4 (some .boolean) :: wsL_law) (rmH 0)).room s m _ meth c cX6_isBehind RX6 4 (some .boolean) 0 := ⟨B.exec, B.bytes, hml, findClass_of_methodNamed B.named, fun w h => atoms_spec (ws := Cond.code yX6_isBehind cX6_isBehind 4 (some .boolean) :: wsL_law) B.pre w (List.mem_cons_of_mem _ h), B.returns, B.notSynchronized, Nat.le_refl _, Nat.le_refl _⟩
  obtain ⟨hx, hb, hml, hown, hts, hr, hlocks, hRf, hRl⟩ := id X
  have hl := lv_entry ([.ref (q 5), .int x1, .int x2, .int x3]) (n := 4) (Nat.le_of_ble_eq_true rfl)
  rw [lg_entry_eq]
  generalize (lg_sl ([.ref (q 5), .int x1, .int x2, .int x3]) ++ List.replicate (4 - (lg_sl ([.ref (q 5), .int x1, .int x2, .int x3])).length) Slot.unset).toArray = ls at hl ⊢
  have hl : lv_has ls 4 [(0, .ref (q 5)), (1, .int x1), (2, .int x2), (3, .int x3)] := hl
  refine lv_aload_n hx hb dX6_isBehind_0 rfl (lv_at hl 0 rfl) ?_
  refine gRX6_11 hx hb hown hts hK hP dX6_isBehind_1 ?_
  refine lv_iload_n hx hb dX6_isBehind_4 rfl (lv_at hl 1 rfl) ?_
  have h_1 := hw.1
  have hw := hw.2
  refine ld_Pt_lessers hx hb hK hP h_1 dX6_isBehind_5 ?_
  refine lv_iload_n hx hb dX6_isBehind_6 rfl (lv_at hl 2 rfl) ?_
  refine lv_icmp_gt (tgt := 30) hx hb dX6_isBehind_7 (by decide) (fun c_2 => ?_) (fun c_2 => ?_)
  · have hw := hw.1 c_2
    refine lv_iconst (v := (1 : Int32)) hx hb dX6_isBehind_30 (by decide) ?_
    refine lv_goto (tgt := 35) hx hb dX6_isBehind_31 (by decide) ?_
    exact rt_z hx hb hr hlocks rfl hw dX6_isBehind_35
  · have hw := hw.2 c_2
    refine lv_aload_n hx hb dX6_isBehind_10 rfl (lv_at hl 0 rfl) ?_
    refine gRX6_11 hx hb hown hts hK hP dX6_isBehind_11 ?_
    refine lv_iload_n hx hb dX6_isBehind_14 rfl (lv_at hl 1 rfl) ?_
    have h_3 := hw.1
    have hw := hw.2
    refine ld_Pt_lessers hx hb hK hP h_3 dX6_isBehind_15 ?_
    refine lv_iload_n hx hb dX6_isBehind_16 rfl (lv_at hl 2 rfl) ?_
    refine lv_icmp_ne (tgt := 34) hx hb dX6_isBehind_17 (by decide) (fun c_4 => ?_) (fun c_4 => ?_)
    · have hw := hw.2 c_4
      refine lv_iconst (v := (0 : Int32)) hx hb dX6_isBehind_34 (by decide) ?_
      exact rt_z hx hb hr hlocks rfl hw dX6_isBehind_35
    · have hw := hw.1 c_4
      refine lv_aload_n hx hb dX6_isBehind_20 rfl (lv_at hl 0 rfl) ?_
      refine gRX6_15 hx hb hown hts hK hP dX6_isBehind_21 ?_
      refine lv_iload_n hx hb dX6_isBehind_24 rfl (lv_at hl 1 rfl) ?_
      have h_5 := hw.1
      have hw := hw.2
      refine ld_Pt_greaters hx hb hK hP h_5 dX6_isBehind_25 ?_
      refine lv_iload_n hx hb dX6_isBehind_26 rfl (lv_at hl 3 rfl) ?_
      refine lv_icmp_le (tgt := 34) hx hb dX6_isBehind_27 (by decide) (fun c_6 => ?_) (fun c_6 => ?_)
      · have hw := hw.1 c_6
        refine lv_iconst (v := (0 : Int32)) hx hb dX6_isBehind_34 (by decide) ?_
        exact rt_z hx hb hr hlocks rfl hw dX6_isBehind_35
      · have hw := hw.2 c_6
        refine lv_iconst (v := (1 : Int32)) hx hb dX6_isBehind_30 (by decide) ?_
        refine lv_goto (tgt := 35) hx hb dX6_isBehind_31 (by decide) ?_
        exact rt_z hx hb hr hlocks rfl hw dX6_isBehind_35
abbrev Z_X6_insert (D : va_G) (q : Nat → Nat) (cA : Nat → ClassId) (Fc_unkept : Int32) (Fc_tablesRead : Int32) (Pg_letters : Nat → Int32) (Pg_size : Int32) (Pg_fault : Int32) (Pg_rows : Int32) (Pg_inRow : Int32) (Pg_width : Int32) (Fl_entries : Nat → Int32) (Fl_states : Int32) (Fl_columns : Int32) (Fl_moves : Int32) (Fl_stables : Int32) (Fl_amiss : Int32) (Fl_normal : Int32) (Lc_signals : Nat → Int32) (Lc_kept : Nat → Int64) (Lc_keptFrom : Nat → Int64) (Lc_candidates : Int32) (Lc_size : Int32) (Sc_signals : Nat → Int32) (Sc_codes : Nat → Int32) (Sc_size : Int32) (Ai_codes : Nat → Int32) (Ai_bits : Int32) (Cu_seen : Nat → Int32) (Cu_inThrees : Nat → Int32) (Cu_all : Int32) (Lo_asked : Nat → Nat → Int32) (Lo_ones : Nat → Nat → Int32) (Lo_sum : Nat → Nat → Int32) (Lo_wideSize : Nat → Int32) (Lo_sumSize : Nat → Int32) (Lo_flickers : Nat → Int32) (Lo_ready : Nat → Int32) (Wa_at : Int32) (Wa_turns : Int32) (Wa_changes : Int32) (post : (Nat → Int32) → (Nat → Int32) → Int32 → Prop) : State → Prop := fun t => ∃ (y_Pt_lessers : Nat → Int32) (y_Pt_greaters : Nat → Int32) (y_Pt_size : Int32), post y_Pt_lessers y_Pt_greaters y_Pt_size ∧ va_P D vwCl (wC q cA Fc_unkept Fc_tablesRead Pg_letters Pg_size Pg_fault Pg_rows Pg_inRow Pg_width Fl_entries Fl_states Fl_columns Fl_moves Fl_stables Fl_amiss Fl_normal y_Pt_lessers y_Pt_greaters y_Pt_size Lc_signals Lc_kept Lc_keptFrom Lc_candidates Lc_size Sc_signals Sc_codes Sc_size Ai_codes Ai_bits Cu_seen Cu_inThrees Cu_all Lo_asked Lo_ones Lo_sum Lo_wideSize Lo_sumSize Lo_flickers Lo_ready Wa_at Wa_turns Wa_changes) t.heap
set_option maxHeartbeats 4000000 in
set_option maxRecDepth 100000 in
theorem t_X6_insert_15 {p : Program} {l : Launch} {e : Env} {R : Room} {s : State} {m : MethodId} {args : Array Value} {below : List Frame} {meth : Method} {c : Code} {A : Nat → Prop} {D : va_G} {q : Nat → Nat} {cA : Nat → ClassId} {Fc_unkept : Int32} {Fc_tablesRead : Int32} {Pg_letters : Nat → Int32} {Pg_size : Int32} {Pg_fault : Int32} {Pg_rows : Int32} {Pg_inRow : Int32} {Pg_width : Int32} {Fl_entries : Nat → Int32} {Fl_states : Int32} {Fl_columns : Int32} {Fl_moves : Int32} {Fl_stables : Int32} {Fl_amiss : Int32} {Fl_normal : Int32} {Pt_size : Int32} {Lc_signals : Nat → Int32} {Lc_kept : Nat → Int64} {Lc_keptFrom : Nat → Int64} {Lc_candidates : Int32} {Lc_size : Int32} {Sc_signals : Nat → Int32} {Sc_codes : Nat → Int32} {Sc_size : Int32} {Ai_codes : Nat → Int32} {Ai_bits : Int32} {Cu_seen : Nat → Int32} {Cu_inThrees : Nat → Int32} {Cu_all : Int32} {Lo_asked : Nat → Nat → Int32} {Lo_ones : Nat → Nat → Int32} {Lo_sum : Nat → Nat → Int32} {Lo_wideSize : Nat → Int32} {Lo_sumSize : Nat → Int32} {Lo_flickers : Nat → Int32} {Lo_ready : Nat → Int32} {Wa_at : Int32} {Wa_turns : Int32} {Wa_changes : Int32} {post : (Nat → Int32) → (Nat → Int32) → Int32 → Prop} {KE : Int32 → (Nat → Int32) → (Nat → Int32) → Prop} {x1 : Int32} {x2 : Int32} (X : kC p R s m args meth c cX6_insert RX6 4 none 1) (hK : va_K D vwCl (tyC cA) s) (hN : nwC s) (hE : ∀ (x3 : Int32) (Pt_lessers : Nat → Int32) (Pt_greaters : Nat → Int32), KE x3 Pt_lessers Pt_greaters → ∀ (ls : Array Slot) (H : Heap) (locs : List Loc), lv_has ls 4 [(0, .ref (q 5)), (1, .int x1), (2, .int x2), (3, .int x3)] → va_P D vwCl (wC q cA Fc_unkept Fc_tablesRead Pg_letters Pg_size Pg_fault Pg_rows Pg_inRow Pg_width Fl_entries Fl_states Fl_columns Fl_moves Fl_stables Fl_amiss Fl_normal Pt_lessers Pt_greaters Pt_size Lc_signals Lc_kept Lc_keptFrom Lc_candidates Lc_size Sc_signals Sc_codes Sc_size Ai_codes Ai_bits Cu_seen Cu_inThrees Cu_all Lo_asked Lo_ones Lo_sum Lo_wideSize Lo_sumSize Lo_flickers Lo_ready Wa_at Wa_turns Wa_changes) H → va_D A (wC q cA Fc_unkept Fc_tablesRead Pg_letters Pg_size Pg_fault Pg_rows Pg_inRow Pg_width Fl_entries Fl_states Fl_columns Fl_moves Fl_stables Fl_amiss Fl_normal Pt_lessers Pt_greaters Pt_size Lc_signals Lc_kept Lc_keptFrom Lc_candidates Lc_size Sc_signals Sc_codes Sc_size Ai_codes Ai_bits Cu_seen Cu_inThrees Cu_all Lo_asked Lo_ones Lo_sum Lo_wideSize Lo_sumSize Lo_flickers Lo_ready Wa_at Wa_turns Wa_changes) → va_S A s.heap H locs → W p l e R s m args below meth c H locs 0 0 (MQ below (qWv (Z_X6_insert D q cA Fc_unkept Fc_tablesRead Pg_letters Pg_size Pg_fault Pg_rows Pg_inRow Pg_width Fl_entries Fl_states Fl_columns Fl_moves Fl_stables Fl_amiss Fl_normal Lc_signals Lc_kept Lc_keptFrom Lc_candidates Lc_size Sc_signals Sc_codes Sc_size Ai_codes Ai_bits Cu_seen Cu_inThrees Cu_all Lo_asked Lo_ones Lo_sum Lo_wideSize Lo_sumSize Lo_flickers Lo_ready Wa_at Wa_turns Wa_changes post) A) args s 0 0 A) (F0 m 65 ls [])) : ∀ (n : Nat) (x3 : Int32) (Pt_lessers : Nat → Int32) (Pt_greaters : Nat → Int32), w_X6_insert_15 KE x1 x2 n x3 Pt_lessers Pt_greaters → ∀ (ls : Array Slot) (H : Heap) (locs : List Loc), lv_has ls 4 [(0, .ref (q 5)), (1, .int x1), (2, .int x2), (3, .int x3)] → va_P D vwCl (wC q cA Fc_unkept Fc_tablesRead Pg_letters Pg_size Pg_fault Pg_rows Pg_inRow Pg_width Fl_entries Fl_states Fl_columns Fl_moves Fl_stables Fl_amiss Fl_normal Pt_lessers Pt_greaters Pt_size Lc_signals Lc_kept Lc_keptFrom Lc_candidates Lc_size Sc_signals Sc_codes Sc_size Ai_codes Ai_bits Cu_seen Cu_inThrees Cu_all Lo_asked Lo_ones Lo_sum Lo_wideSize Lo_sumSize Lo_flickers Lo_ready Wa_at Wa_turns Wa_changes) H → va_D A (wC q cA Fc_unkept Fc_tablesRead Pg_letters Pg_size Pg_fault Pg_rows Pg_inRow Pg_width Fl_entries Fl_states Fl_columns Fl_moves Fl_stables Fl_amiss Fl_normal Pt_lessers Pt_greaters Pt_size Lc_signals Lc_kept Lc_keptFrom Lc_candidates Lc_size Sc_signals Sc_codes Sc_size Ai_codes Ai_bits Cu_seen Cu_inThrees Cu_all Lo_asked Lo_ones Lo_sum Lo_wideSize Lo_sumSize Lo_flickers Lo_ready Wa_at Wa_turns Wa_changes) → va_S A s.heap H locs → W p l e R s m args below meth c H locs 0 0 (MQ below (qWv (Z_X6_insert D q cA Fc_unkept Fc_tablesRead Pg_letters Pg_size Pg_fault Pg_rows Pg_inRow Pg_width Fl_entries Fl_states Fl_columns Fl_moves Fl_stables Fl_amiss Fl_normal Lc_signals Lc_kept Lc_keptFrom Lc_candidates Lc_size Sc_signals Sc_codes Sc_size Ai_codes Ai_bits Cu_seen Cu_inThrees Cu_all Lo_asked Lo_ones Lo_sum Lo_wideSize Lo_sumSize Lo_flickers Lo_ready Wa_at Wa_turns Wa_changes post) A) args s 0 0 A) (F0 m 15 ls []) := by
  obtain ⟨hx, hb, hml, hown, hts, hr, hlocks, hRf, hRl⟩ := id X
  intro n
  induction n with
  | zero => intro x3 Pt_lessers Pt_greaters hw; exact (show False from hw).elim
  | succ n ih =>
    intro x3 Pt_lessers Pt_greaters hw ls H locs hl hP hD hS
    refine lv_iload_n hx hb dX6_insert_15 rfl (lv_at hl 3 rfl) ?_
    refine lv_if_le (tgt := 65) hx hb dX6_insert_16 (by decide) (fun c_2 => ?_) (fun c_2 => ?_)
    · have hw := hw.1 c_2
      exact hE _ _ _ hw ls _ _ (lv_sub hl [0, 1, 2, 3] rfl) hP hD hS
    · have hw := hw.2 c_2
      refine lv_aload_n hx hb dX6_insert_19 rfl (lv_at hl 0 rfl) ?_
      refine lv_iload_n hx hb dX6_insert_20 rfl (lv_at hl 3 rfl) ?_
      refine lv_iconst (v := (1 : Int32)) hx hb dX6_insert_21 (by decide) ?_
      refine lv_isub hx hb dX6_insert_22 ?_
      refine lv_iload_n hx hb dX6_insert_23 rfl (lv_at hl 1 rfl) ?_
      refine lv_iload_n hx hb dX6_insert_24 rfl (lv_at hl 2 rfl) ?_
      refine ro_i (va_runV (As := [.int (x3 - (1 : Int32)), .int x1, .int x2]) (rest := []) ⟨hx, hb, hml, hown, hts⟩ (c_X6_isBehind l hw) (kRX6_63 (h := 0) hts (Nat.le_trans (Nat.le_of_ble_eq_true rfl) hRf) (Nat.le_trans (Nat.le_of_ble_eq_true rfl) hRl)) (preX6 hK hN hP) rfl rfl hl.1 rfl (lv_room (Nat.le_of_ble_eq_true rfl)) dX6_insert_25 ⟨Nat.zero_le _, Nat.zero_le _⟩) (fun r_3 hw => ?_)
      refine lv_if_eq (tgt := 65) hx hb dX6_insert_28 (by decide) (fun c_4 => ?_) (fun c_4 => ?_)
      · have hw := hw.1 c_4
        exact hE _ _ _ hw ls _ _ (lv_sub hl [0, 1, 2, 3] rfl) hP hD hS
      · have hw := hw.2 c_4
        refine lv_aload_n hx hb dX6_insert_31 rfl (lv_at hl 0 rfl) ?_
        refine gRX6_11 hx hb hown hts hK hP dX6_insert_32 ?_
        refine lv_iload_n hx hb dX6_insert_35 rfl (lv_at hl 3 rfl) ?_
        refine lv_aload_n hx hb dX6_insert_36 rfl (lv_at hl 0 rfl) ?_
        refine gRX6_11 hx hb hown hts hK hP dX6_insert_37 ?_
        refine lv_iload_n hx hb dX6_insert_40 rfl (lv_at hl 3 rfl) ?_
        refine lv_iconst (v := (1 : Int32)) hx hb dX6_insert_41 (by decide) ?_
        refine lv_isub hx hb dX6_insert_42 ?_
        have h_5 := hw.1
        have hw := hw.2
        refine ld_Pt_lessers hx hb hK hP h_5 dX6_insert_43 ?_
        have h_6 := hw.1
        have hw := hw.2
        refine st_Pt_lessers hx hb hK hP hD hS h_6 dX6_insert_44 (fun H locs a_6 e_6 hP hD hS => ?_)
        have hw := hw a_6 e_6
        refine lv_aload_n hx hb dX6_insert_45 rfl (lv_at hl 0 rfl) ?_
        refine gRX6_15 hx hb hown hts hK hP dX6_insert_46 ?_
        refine lv_iload_n hx hb dX6_insert_49 rfl (lv_at hl 3 rfl) ?_
        refine lv_aload_n hx hb dX6_insert_50 rfl (lv_at hl 0 rfl) ?_
        refine gRX6_15 hx hb hown hts hK hP dX6_insert_51 ?_
        refine lv_iload_n hx hb dX6_insert_54 rfl (lv_at hl 3 rfl) ?_
        refine lv_iconst (v := (1 : Int32)) hx hb dX6_insert_55 (by decide) ?_
        refine lv_isub hx hb dX6_insert_56 ?_
        have h_7 := hw.1
        have hw := hw.2
        refine ld_Pt_greaters hx hb hK hP h_7 dX6_insert_57 ?_
        have h_8 := hw.1
        have hw := hw.2
        refine st_Pt_greaters hx hb hK hP hD hS h_8 dX6_insert_58 (fun H locs a_8 e_8 hP hD hS => ?_)
        have hw := hw a_8 e_8
        obtain ⟨x3_9, e_9⟩ : ∃ z : Int32, z = x3 + ((-1) : Int32) := ⟨_, rfl⟩
        have hw := hw x3_9 e_9
        refine lv_iinc (v := x3_9) (lv' := [(3, .int x3_9), (0, .ref (q 5)), (1, .int x1), (2, .int x2)]) hx hb dX6_insert_59 hl (k := 3) rfl (by rw [e_9]; rfl) (by decide) rfl (fun ls hl => ?_)
        refine lv_goto (tgt := 15) hx hb dX6_insert_62 (by decide) ?_
        exact ih _ _ _ hw ls _ _ (lv_sub hl [1, 2, 3, 0] rfl) hP hD hS
set_option maxHeartbeats 4000000 in
set_option maxRecDepth 100000 in
theorem t_X6_insert_65 {p : Program} {l : Launch} {e : Env} {R : Room} {s : State} {m : MethodId} {args : Array Value} {below : List Frame} {meth : Method} {c : Code} {A : Nat → Prop} {D : va_G} {q : Nat → Nat} {cA : Nat → ClassId} {Fc_unkept : Int32} {Fc_tablesRead : Int32} {Pg_letters : Nat → Int32} {Pg_size : Int32} {Pg_fault : Int32} {Pg_rows : Int32} {Pg_inRow : Int32} {Pg_width : Int32} {Fl_entries : Nat → Int32} {Fl_states : Int32} {Fl_columns : Int32} {Fl_moves : Int32} {Fl_stables : Int32} {Fl_amiss : Int32} {Fl_normal : Int32} {Pt_lessers : Nat → Int32} {Pt_greaters : Nat → Int32} {Pt_size : Int32} {Lc_signals : Nat → Int32} {Lc_kept : Nat → Int64} {Lc_keptFrom : Nat → Int64} {Lc_candidates : Int32} {Lc_size : Int32} {Sc_signals : Nat → Int32} {Sc_codes : Nat → Int32} {Sc_size : Int32} {Ai_codes : Nat → Int32} {Ai_bits : Int32} {Cu_seen : Nat → Int32} {Cu_inThrees : Nat → Int32} {Cu_all : Int32} {Lo_asked : Nat → Nat → Int32} {Lo_ones : Nat → Nat → Int32} {Lo_sum : Nat → Nat → Int32} {Lo_wideSize : Nat → Int32} {Lo_sumSize : Nat → Int32} {Lo_flickers : Nat → Int32} {Lo_ready : Nat → Int32} {Wa_at : Int32} {Wa_turns : Int32} {Wa_changes : Int32} {post : (Nat → Int32) → (Nat → Int32) → Int32 → Prop} {x1 : Int32} {x2 : Int32} {x3 : Int32} (X : kC p R s m args meth c cX6_insert RX6 4 none 1) (hK : va_K D vwCl (tyC cA) s) (hN : nwC s) (hw : j_X6_insert_65 post Pt_lessers Pt_greaters Pt_size x1 x2 x3) (ls : Array Slot) (H : Heap) (locs : List Loc) (hl : lv_has ls 4 [(0, .ref (q 5)), (1, .int x1), (2, .int x2), (3, .int x3)]) (hP : va_P D vwCl (wC q cA Fc_unkept Fc_tablesRead Pg_letters Pg_size Pg_fault Pg_rows Pg_inRow Pg_width Fl_entries Fl_states Fl_columns Fl_moves Fl_stables Fl_amiss Fl_normal Pt_lessers Pt_greaters Pt_size Lc_signals Lc_kept Lc_keptFrom Lc_candidates Lc_size Sc_signals Sc_codes Sc_size Ai_codes Ai_bits Cu_seen Cu_inThrees Cu_all Lo_asked Lo_ones Lo_sum Lo_wideSize Lo_sumSize Lo_flickers Lo_ready Wa_at Wa_turns Wa_changes) H) (hD : va_D A (wC q cA Fc_unkept Fc_tablesRead Pg_letters Pg_size Pg_fault Pg_rows Pg_inRow Pg_width Fl_entries Fl_states Fl_columns Fl_moves Fl_stables Fl_amiss Fl_normal Pt_lessers Pt_greaters Pt_size Lc_signals Lc_kept Lc_keptFrom Lc_candidates Lc_size Sc_signals Sc_codes Sc_size Ai_codes Ai_bits Cu_seen Cu_inThrees Cu_all Lo_asked Lo_ones Lo_sum Lo_wideSize Lo_sumSize Lo_flickers Lo_ready Wa_at Wa_turns Wa_changes)) (hS : va_S A s.heap H locs) : W p l e R s m args below meth c H locs 0 0 (MQ below (qWv (Z_X6_insert D q cA Fc_unkept Fc_tablesRead Pg_letters Pg_size Pg_fault Pg_rows Pg_inRow Pg_width Fl_entries Fl_states Fl_columns Fl_moves Fl_stables Fl_amiss Fl_normal Lc_signals Lc_kept Lc_keptFrom Lc_candidates Lc_size Sc_signals Sc_codes Sc_size Ai_codes Ai_bits Cu_seen Cu_inThrees Cu_all Lo_asked Lo_ones Lo_sum Lo_wideSize Lo_sumSize Lo_flickers Lo_ready Wa_at Wa_turns Wa_changes post) A) args s 0 0 A) (F0 m 65 ls []) := by
  obtain ⟨hx, hb, hml, hown, hts, hr, hlocks, hRf, hRl⟩ := id X
  refine lv_aload_n hx hb dX6_insert_65 rfl (lv_at hl 0 rfl) ?_
  refine gRX6_11 hx hb hown hts hK hP dX6_insert_66 ?_
  refine lv_iload_n hx hb dX6_insert_69 rfl (lv_at hl 3 rfl) ?_
  refine lv_iload_n hx hb dX6_insert_70 rfl (lv_at hl 1 rfl) ?_
  have h_11 := hw.1
  have hw := hw.2
  refine st_Pt_lessers hx hb hK hP hD hS h_11 dX6_insert_71 (fun H locs a_11 e_11 hP hD hS => ?_)
  have hw := hw a_11 e_11
  refine lv_aload_n hx hb dX6_insert_72 rfl (lv_at hl 0 rfl) ?_
  refine gRX6_15 hx hb hown hts hK hP dX6_insert_73 ?_
  refine lv_iload_n hx hb dX6_insert_76 rfl (lv_at hl 3 rfl) ?_
  refine lv_iload_n hx hb dX6_insert_77 rfl (lv_at hl 2 rfl) ?_
  have h_12 := hw.1
  have hw := hw.2
  refine st_Pt_greaters hx hb hK hP hD hS h_12 dX6_insert_78 (fun H locs a_12 e_12 hP hD hS => ?_)
  have hw := hw a_12 e_12
  refine lv_aload_n hx hb dX6_insert_79 rfl (lv_at hl 0 rfl) ?_
  refine lv_dup hx hb dX6_insert_80 rfl ?_
  refine gRX6_18 hx hb hown hts hK hP dX6_insert_81 ?_
  refine lv_iconst (v := (1 : Int32)) hx hb dX6_insert_84 (by decide) ?_
  refine lv_iadd hx hb dX6_insert_85 ?_
  refine lv_topi (fun f_13 e_13 => ?_)
  have hw := hw f_13 e_13
  refine pRX6_18 hx hb hown hts hK hP hD hS dX6_insert_86 (fun H locs hP hD hS => ?_)
  exact rw_v hx hb hr hlocks (fun t ht => ⟨a_11, a_12, f_13, hw, by rw [ht]; exact hP⟩) hS dX6_insert_89
set_option maxHeartbeats 4000000 in
set_option maxRecDepth 100000 in
theorem c_X6_insert (l : Launch) {D : va_G} {q : Nat → Nat} {cA : Nat → ClassId} {Fc_unkept : Int32} {Fc_tablesRead : Int32} {Pg_letters : Nat → Int32} {Pg_size : Int32} {Pg_fault : Int32} {Pg_rows : Int32} {Pg_inRow : Int32} {Pg_width : Int32} {Fl_entries : Nat → Int32} {Fl_states : Int32} {Fl_columns : Int32} {Fl_moves : Int32} {Fl_stables : Int32} {Fl_amiss : Int32} {Fl_normal : Int32} {Pt_lessers : Nat → Int32} {Pt_greaters : Nat → Int32} {Pt_size : Int32} {Lc_signals : Nat → Int32} {Lc_kept : Nat → Int64} {Lc_keptFrom : Nat → Int64} {Lc_candidates : Int32} {Lc_size : Int32} {Sc_signals : Nat → Int32} {Sc_codes : Nat → Int32} {Sc_size : Int32} {Ai_codes : Nat → Int32} {Ai_bits : Int32} {Cu_seen : Nat → Int32} {Cu_inThrees : Nat → Int32} {Cu_all : Int32} {Lo_asked : Nat → Nat → Int32} {Lo_ones : Nat → Nat → Int32} {Lo_sum : Nat → Nat → Int32} {Lo_wideSize : Nat → Int32} {Lo_sumSize : Nat → Int32} {Lo_flickers : Nat → Int32} {Lo_ready : Nat → Int32} {Wa_at : Int32} {Wa_turns : Int32} {Wa_changes : Int32} {A : Nat → Prop} {post : (Nat → Int32) → (Nat → Int32) → Int32 → Prop} {x1 : Int32} {x2 : Int32} (hw : wp_X6_insert post Pt_lessers Pt_greaters Pt_size x1 x2) : Met l yX6_insert (Cond.code yX6_insert cX6_insert 4 none :: wsL_law) (rmH 1) (va_Pc [.ref (q 5), .int x1, .int x2] (fun U => va_P D vwCl (wC q cA Fc_unkept Fc_tablesRead Pg_letters Pg_size Pg_fault Pg_rows Pg_inRow Pg_width Fl_entries Fl_states Fl_columns Fl_moves Fl_stables Fl_amiss Fl_normal Pt_lessers Pt_greaters Pt_size Lc_signals Lc_kept Lc_keptFrom Lc_candidates Lc_size Sc_signals Sc_codes Sc_size Ai_codes Ai_bits Cu_seen Cu_inThrees Cu_all Lo_asked Lo_ones Lo_sum Lo_wideSize Lo_sumSize Lo_flickers Lo_ready Wa_at Wa_turns Wa_changes) U.heap ∧ va_K D vwCl (tyC cA) U ∧ nwC U ∧ va_D A (wC q cA Fc_unkept Fc_tablesRead Pg_letters Pg_size Pg_fault Pg_rows Pg_inRow Pg_width Fl_entries Fl_states Fl_columns Fl_moves Fl_stables Fl_amiss Fl_normal Pt_lessers Pt_greaters Pt_size Lc_signals Lc_kept Lc_keptFrom Lc_candidates Lc_size Sc_signals Sc_codes Sc_size Ai_codes Ai_bits Cu_seen Cu_inThrees Cu_all Lo_asked Lo_ones Lo_sum Lo_wideSize Lo_sumSize Lo_flickers Lo_ready Wa_at Wa_turns Wa_changes))) (qWv (Z_X6_insert D q cA Fc_unkept Fc_tablesRead Pg_letters Pg_size Pg_fault Pg_rows Pg_inRow Pg_width Fl_entries Fl_states Fl_columns Fl_moves Fl_stables Fl_amiss Fl_normal Lc_signals Lc_kept Lc_keptFrom Lc_candidates Lc_size Sc_signals Sc_codes Sc_size Ai_codes Ai_bits Cu_seen Cu_inThrees Cu_all Lo_asked Lo_ones Lo_sum Lo_wideSize Lo_sumSize Lo_flickers Lo_ready Wa_at Wa_turns Wa_changes post) A) 0 0 A := by
  refine Met.ofW (cc := cX6_insert) (maxL := 4) (ret := none) (by decide) rfl ?_
  intro p e s m args below meth c s₁ B hml hv
  obtain ⟨rfl, hP, hK, hN, hD⟩ := hv
  have X : kC p (headSpec (Cond.code yX6_insert cX6_insert 4 none :: wsL_law) (rmH 1)).room s m _ meth c cX6_insert RX6 4 none 1 := ⟨B.exec, B.bytes, hml, findClass_of_methodNamed B.named, fun w h => atoms_spec (ws := Cond.code yX6_insert cX6_insert 4 none :: wsL_law) B.pre w (List.mem_cons_of_mem _ h), B.returns, B.notSynchronized, Nat.le_refl _, Nat.le_refl _⟩
  obtain ⟨hx, hb, hml, hown, hts, hr, hlocks, hRf, hRl⟩ := id X
  have hS : va_S A s.heap s.heap [] := va_S.rf
  have hl := lv_entry ([.ref (q 5), .int x1, .int x2]) (n := 4) (Nat.le_of_ble_eq_true rfl)
  rw [lg_entry_eq]
  generalize (lg_sl ([.ref (q 5), .int x1, .int x2]) ++ List.replicate (4 - (lg_sl ([.ref (q 5), .int x1, .int x2])).length) Slot.unset).toArray = ls at hl ⊢
  have hl : lv_has ls 4 [(0, .ref (q 5)), (1, .int x1), (2, .int x2)] := hl
  refine lv_aload_n hx hb dX6_insert_0 rfl (lv_at hl 0 rfl) ?_
  refine gRX6_18 hx hb hown hts hK hP dX6_insert_1 ?_
  refine lv_bipush (v := (75 : Int32)) hx hb dX6_insert_4 (by decide +kernel) ?_
  refine lv_icmp_lt (tgt := 10) hx hb dX6_insert_6 (by decide) (fun c_1 => ?_) (fun c_1 => ?_)
  · have hw := hw.1 c_1
    refine lv_aload_n hx hb dX6_insert_10 rfl (lv_at hl 0 rfl) ?_
    refine gRX6_18 hx hb hown hts hK hP dX6_insert_11 ?_
    refine lv_istore_n (lv' := [(3, .int Pt_size), (0, .ref (q 5)), (1, .int x1), (2, .int x2)]) hx hb dX6_insert_14 rfl hl (by decide) rfl (fun ls hl => ?_)
    obtain ⟨n_10, hw⟩ := hw
    refine t_X6_insert_15 X hK hN (fun x3_10 ylessers_10 ygreaters_10 hw ls H locs hl hP hD hS => ?_) n_10 _ _ _ hw ls _ _ (lv_sub hl [1, 2, 3, 0] rfl) hP hD hS
    exact t_X6_insert_65 X hK hN hw ls _ _ (lv_sub hl [0, 1, 2, 3] rfl) hP hD hS
  · have hw := hw.2 c_1
    exact rw_v hx hb hr hlocks (fun t ht => ⟨Pt_lessers, Pt_greaters, Pt_size, hw, by rw [ht]; exact hP⟩) hS dX6_insert_9
abbrev Z_X6_offer (D : va_G) (q : Nat → Nat) (cA : Nat → ClassId) (Fc_unkept : Int32) (Fc_tablesRead : Int32) (Pg_letters : Nat → Int32) (Pg_size : Int32) (Pg_fault : Int32) (Pg_rows : Int32) (Pg_inRow : Int32) (Pg_width : Int32) (Fl_entries : Nat → Int32) (Fl_states : Int32) (Fl_columns : Int32) (Fl_moves : Int32) (Fl_stables : Int32) (Fl_amiss : Int32) (Fl_normal : Int32) (Lc_signals : Nat → Int32) (Lc_kept : Nat → Int64) (Lc_keptFrom : Nat → Int64) (Lc_candidates : Int32) (Lc_size : Int32) (Sc_signals : Nat → Int32) (Sc_codes : Nat → Int32) (Sc_size : Int32) (Ai_codes : Nat → Int32) (Ai_bits : Int32) (Cu_seen : Nat → Int32) (Cu_inThrees : Nat → Int32) (Cu_all : Int32) (Lo_asked : Nat → Nat → Int32) (Lo_ones : Nat → Nat → Int32) (Lo_sum : Nat → Nat → Int32) (Lo_wideSize : Nat → Int32) (Lo_sumSize : Nat → Int32) (Lo_flickers : Nat → Int32) (Lo_ready : Nat → Int32) (Wa_at : Int32) (Wa_turns : Int32) (Wa_changes : Int32) (post : (Nat → Int32) → (Nat → Int32) → Int32 → Prop) : State → Prop := fun t => ∃ (y_Pt_lessers : Nat → Int32) (y_Pt_greaters : Nat → Int32) (y_Pt_size : Int32), post y_Pt_lessers y_Pt_greaters y_Pt_size ∧ va_P D vwCl (wC q cA Fc_unkept Fc_tablesRead Pg_letters Pg_size Pg_fault Pg_rows Pg_inRow Pg_width Fl_entries Fl_states Fl_columns Fl_moves Fl_stables Fl_amiss Fl_normal y_Pt_lessers y_Pt_greaters y_Pt_size Lc_signals Lc_kept Lc_keptFrom Lc_candidates Lc_size Sc_signals Sc_codes Sc_size Ai_codes Ai_bits Cu_seen Cu_inThrees Cu_all Lo_asked Lo_ones Lo_sum Lo_wideSize Lo_sumSize Lo_flickers Lo_ready Wa_at Wa_turns Wa_changes) t.heap
set_option maxHeartbeats 4000000 in
set_option maxRecDepth 100000 in
theorem t_X6_offer_16 {p : Program} {l : Launch} {e : Env} {R : Room} {s : State} {m : MethodId} {args : Array Value} {below : List Frame} {meth : Method} {c : Code} {A : Nat → Prop} {D : va_G} {q : Nat → Nat} {cA : Nat → ClassId} {Fc_unkept : Int32} {Fc_tablesRead : Int32} {Pg_letters : Nat → Int32} {Pg_size : Int32} {Pg_fault : Int32} {Pg_rows : Int32} {Pg_inRow : Int32} {Pg_width : Int32} {Fl_entries : Nat → Int32} {Fl_states : Int32} {Fl_columns : Int32} {Fl_moves : Int32} {Fl_stables : Int32} {Fl_amiss : Int32} {Fl_normal : Int32} {Pt_lessers : Nat → Int32} {Pt_greaters : Nat → Int32} {Pt_size : Int32} {Lc_signals : Nat → Int32} {Lc_kept : Nat → Int64} {Lc_keptFrom : Nat → Int64} {Lc_candidates : Int32} {Lc_size : Int32} {Sc_signals : Nat → Int32} {Sc_codes : Nat → Int32} {Sc_size : Int32} {Ai_codes : Nat → Int32} {Ai_bits : Int32} {Cu_seen : Nat → Int32} {Cu_inThrees : Nat → Int32} {Cu_all : Int32} {Lo_asked : Nat → Nat → Int32} {Lo_ones : Nat → Nat → Int32} {Lo_sum : Nat → Nat → Int32} {Lo_wideSize : Nat → Int32} {Lo_sumSize : Nat → Int32} {Lo_flickers : Nat → Int32} {Lo_ready : Nat → Int32} {Wa_at : Int32} {Wa_turns : Int32} {Wa_changes : Int32} {post : (Nat → Int32) → (Nat → Int32) → Int32 → Prop} {KE : Prop} {x3 : Int32} {x4 : Int32} (X : kC p R s m args meth c cX6_offer RX6 6 none 2) (hK : va_K D vwCl (tyC cA) s) (hN : nwC s) (hE : KE → ∀ (ls : Array Slot) (H : Heap) (locs : List Loc), lv_has ls 6 [(0, .ref (q 5)), (3, .int x3), (4, .int x4)] → va_P D vwCl (wC q cA Fc_unkept Fc_tablesRead Pg_letters Pg_size Pg_fault Pg_rows Pg_inRow Pg_width Fl_entries Fl_states Fl_columns Fl_moves Fl_stables Fl_amiss Fl_normal Pt_lessers Pt_greaters Pt_size Lc_signals Lc_kept Lc_keptFrom Lc_candidates Lc_size Sc_signals Sc_codes Sc_size Ai_codes Ai_bits Cu_seen Cu_inThrees Cu_all Lo_asked Lo_ones Lo_sum Lo_wideSize Lo_sumSize Lo_flickers Lo_ready Wa_at Wa_turns Wa_changes) H → va_D A (wC q cA Fc_unkept Fc_tablesRead Pg_letters Pg_size Pg_fault Pg_rows Pg_inRow Pg_width Fl_entries Fl_states Fl_columns Fl_moves Fl_stables Fl_amiss Fl_normal Pt_lessers Pt_greaters Pt_size Lc_signals Lc_kept Lc_keptFrom Lc_candidates Lc_size Sc_signals Sc_codes Sc_size Ai_codes Ai_bits Cu_seen Cu_inThrees Cu_all Lo_asked Lo_ones Lo_sum Lo_wideSize Lo_sumSize Lo_flickers Lo_ready Wa_at Wa_turns Wa_changes) → va_S A s.heap H locs → W p l e R s m args below meth c H locs 0 0 (MQ below (qWv (Z_X6_offer D q cA Fc_unkept Fc_tablesRead Pg_letters Pg_size Pg_fault Pg_rows Pg_inRow Pg_width Fl_entries Fl_states Fl_columns Fl_moves Fl_stables Fl_amiss Fl_normal Lc_signals Lc_kept Lc_keptFrom Lc_candidates Lc_size Sc_signals Sc_codes Sc_size Ai_codes Ai_bits Cu_seen Cu_inThrees Cu_all Lo_asked Lo_ones Lo_sum Lo_wideSize Lo_sumSize Lo_flickers Lo_ready Wa_at Wa_turns Wa_changes post) A) args s 0 0 A) (F0 m 55 ls [])) : ∀ (n : Nat) (x5 : Int32), w_X6_offer_16 post KE Pt_lessers Pt_greaters Pt_size x3 x4 n x5 → ∀ (ls : Array Slot) (H : Heap) (locs : List Loc), lv_has ls 6 [(0, .ref (q 5)), (3, .int x3), (4, .int x4), (5, .int x5)] → va_P D vwCl (wC q cA Fc_unkept Fc_tablesRead Pg_letters Pg_size Pg_fault Pg_rows Pg_inRow Pg_width Fl_entries Fl_states Fl_columns Fl_moves Fl_stables Fl_amiss Fl_normal Pt_lessers Pt_greaters Pt_size Lc_signals Lc_kept Lc_keptFrom Lc_candidates Lc_size Sc_signals Sc_codes Sc_size Ai_codes Ai_bits Cu_seen Cu_inThrees Cu_all Lo_asked Lo_ones Lo_sum Lo_wideSize Lo_sumSize Lo_flickers Lo_ready Wa_at Wa_turns Wa_changes) H → va_D A (wC q cA Fc_unkept Fc_tablesRead Pg_letters Pg_size Pg_fault Pg_rows Pg_inRow Pg_width Fl_entries Fl_states Fl_columns Fl_moves Fl_stables Fl_amiss Fl_normal Pt_lessers Pt_greaters Pt_size Lc_signals Lc_kept Lc_keptFrom Lc_candidates Lc_size Sc_signals Sc_codes Sc_size Ai_codes Ai_bits Cu_seen Cu_inThrees Cu_all Lo_asked Lo_ones Lo_sum Lo_wideSize Lo_sumSize Lo_flickers Lo_ready Wa_at Wa_turns Wa_changes) → va_S A s.heap H locs → W p l e R s m args below meth c H locs 0 0 (MQ below (qWv (Z_X6_offer D q cA Fc_unkept Fc_tablesRead Pg_letters Pg_size Pg_fault Pg_rows Pg_inRow Pg_width Fl_entries Fl_states Fl_columns Fl_moves Fl_stables Fl_amiss Fl_normal Lc_signals Lc_kept Lc_keptFrom Lc_candidates Lc_size Sc_signals Sc_codes Sc_size Ai_codes Ai_bits Cu_seen Cu_inThrees Cu_all Lo_asked Lo_ones Lo_sum Lo_wideSize Lo_sumSize Lo_flickers Lo_ready Wa_at Wa_turns Wa_changes post) A) args s 0 0 A) (F0 m 16 ls []) := by
  obtain ⟨hx, hb, hml, hown, hts, hr, hlocks, hRf, hRl⟩ := id X
  intro n
  induction n with
  | zero => intro x5 hw; exact (show False from hw).elim
  | succ n ih =>
    intro x5 hw ls H locs hl hP hD hS
    refine lv_iload hx hb dX6_offer_16 (lv_at hl 3 rfl) ?_
    refine lv_aload_n hx hb dX6_offer_18 rfl (lv_at hl 0 rfl) ?_
    refine gRX6_18 hx hb hown hts hK hP dX6_offer_19 ?_
    refine lv_icmp_ge (tgt := 55) hx hb dX6_offer_22 (by decide) (fun c_3 => ?_) (fun c_3 => ?_)
    · have hw := hw.1 c_3
      exact hE hw ls _ _ (lv_sub hl [0, 1, 2] rfl) hP hD hS
    · have hw := hw.2 c_3
      refine lv_iload_n hx hb dX6_offer_25 rfl (lv_at hl 1 rfl) ?_
      refine lv_iload hx hb dX6_offer_26 (lv_at hl 2 rfl) ?_
      refine lv_aload_n hx hb dX6_offer_28 rfl (lv_at hl 0 rfl) ?_
      refine gRX6_11 hx hb hown hts hK hP dX6_offer_29 ?_
      refine lv_iload hx hb dX6_offer_32 (lv_at hl 3 rfl) ?_
      have h_4 := hw.1
      have hw := hw.2
      refine ld_Pt_lessers hx hb hK hP h_4 dX6_offer_34 ?_
      refine lv_aload_n hx hb dX6_offer_35 rfl (lv_at hl 0 rfl) ?_
      refine gRX6_15 hx hb hown hts hK hP dX6_offer_36 ?_
      refine lv_iload hx hb dX6_offer_39 (lv_at hl 3 rfl) ?_
      have h_5 := hw.1
      have hw := hw.2
      refine ld_Pt_greaters hx hb hK hP h_5 dX6_offer_41 ?_
      refine ro_i (va_runS (As := [.int x3, .int x4, .int (Pt_lessers x5.toNatClampNeg), .int (Pt_greaters x5.toNatClampNeg)]) (rest := []) ⟨hx, hb, hml, hown, hts⟩ (c_X6_isInside l hw) (kRX6_53 (h := 0) hts (Nat.le_trans (Nat.le_of_ble_eq_true rfl) hRf) (Nat.le_trans (Nat.le_of_ble_eq_true rfl) hRl)) pre_0 rfl rfl hl.1 rfl (lv_room (Nat.le_of_ble_eq_true rfl)) dX6_offer_42 ⟨Nat.zero_le _, Nat.zero_le _⟩) (fun r_6 hw => ?_)
      refine lv_if_eq (tgt := 49) hx hb dX6_offer_45 (by decide) (fun c_7 => ?_) (fun c_7 => ?_)
      · have hw := hw.1 c_7
        obtain ⟨x5_8, e_8⟩ : ∃ z : Int32, z = x5 + (1 : Int32) := ⟨_, rfl⟩
        have hw := hw x5_8 e_8
        refine lv_iinc (v := x5_8) (lv' := [(5, .int x5_8), (0, .ref (q 5)), (3, .int x3), (4, .int x4)]) hx hb dX6_offer_49 hl (k := 3) rfl (by rw [e_8]; rfl) (by decide) rfl (fun ls hl => ?_)
        refine lv_goto (tgt := 16) hx hb dX6_offer_52 (by decide) ?_
        exact ih _ hw ls _ _ (lv_sub hl [1, 2, 3, 0] rfl) hP hD hS
      · have hw := hw.2 c_7
        exact rw_v hx hb hr hlocks (fun t ht => ⟨Pt_lessers, Pt_greaters, Pt_size, hw, by rw [ht]; exact hP⟩) hS dX6_offer_48
set_option maxHeartbeats 4000000 in
set_option maxRecDepth 100000 in
theorem c_X6_offer (l : Launch) {D : va_G} {q : Nat → Nat} {cA : Nat → ClassId} {Fc_unkept : Int32} {Fc_tablesRead : Int32} {Pg_letters : Nat → Int32} {Pg_size : Int32} {Pg_fault : Int32} {Pg_rows : Int32} {Pg_inRow : Int32} {Pg_width : Int32} {Fl_entries : Nat → Int32} {Fl_states : Int32} {Fl_columns : Int32} {Fl_moves : Int32} {Fl_stables : Int32} {Fl_amiss : Int32} {Fl_normal : Int32} {Pt_lessers : Nat → Int32} {Pt_greaters : Nat → Int32} {Pt_size : Int32} {Lc_signals : Nat → Int32} {Lc_kept : Nat → Int64} {Lc_keptFrom : Nat → Int64} {Lc_candidates : Int32} {Lc_size : Int32} {Sc_signals : Nat → Int32} {Sc_codes : Nat → Int32} {Sc_size : Int32} {Ai_codes : Nat → Int32} {Ai_bits : Int32} {Cu_seen : Nat → Int32} {Cu_inThrees : Nat → Int32} {Cu_all : Int32} {Lo_asked : Nat → Nat → Int32} {Lo_ones : Nat → Nat → Int32} {Lo_sum : Nat → Nat → Int32} {Lo_wideSize : Nat → Int32} {Lo_sumSize : Nat → Int32} {Lo_flickers : Nat → Int32} {Lo_ready : Nat → Int32} {Wa_at : Int32} {Wa_turns : Int32} {Wa_changes : Int32} {A : Nat → Prop} {post : (Nat → Int32) → (Nat → Int32) → Int32 → Prop} {x1 : Int32} {x2 : Int32} (hw : wp_X6_offer post Pt_lessers Pt_greaters Pt_size x1 x2) : Met l yX6_offer (Cond.code yX6_offer cX6_offer 6 none :: wsL_law) (rmH 2) (va_Pc [.ref (q 5), .int x1, .int x2] (fun U => va_P D vwCl (wC q cA Fc_unkept Fc_tablesRead Pg_letters Pg_size Pg_fault Pg_rows Pg_inRow Pg_width Fl_entries Fl_states Fl_columns Fl_moves Fl_stables Fl_amiss Fl_normal Pt_lessers Pt_greaters Pt_size Lc_signals Lc_kept Lc_keptFrom Lc_candidates Lc_size Sc_signals Sc_codes Sc_size Ai_codes Ai_bits Cu_seen Cu_inThrees Cu_all Lo_asked Lo_ones Lo_sum Lo_wideSize Lo_sumSize Lo_flickers Lo_ready Wa_at Wa_turns Wa_changes) U.heap ∧ va_K D vwCl (tyC cA) U ∧ nwC U ∧ va_D A (wC q cA Fc_unkept Fc_tablesRead Pg_letters Pg_size Pg_fault Pg_rows Pg_inRow Pg_width Fl_entries Fl_states Fl_columns Fl_moves Fl_stables Fl_amiss Fl_normal Pt_lessers Pt_greaters Pt_size Lc_signals Lc_kept Lc_keptFrom Lc_candidates Lc_size Sc_signals Sc_codes Sc_size Ai_codes Ai_bits Cu_seen Cu_inThrees Cu_all Lo_asked Lo_ones Lo_sum Lo_wideSize Lo_sumSize Lo_flickers Lo_ready Wa_at Wa_turns Wa_changes))) (qWv (Z_X6_offer D q cA Fc_unkept Fc_tablesRead Pg_letters Pg_size Pg_fault Pg_rows Pg_inRow Pg_width Fl_entries Fl_states Fl_columns Fl_moves Fl_stables Fl_amiss Fl_normal Lc_signals Lc_kept Lc_keptFrom Lc_candidates Lc_size Sc_signals Sc_codes Sc_size Ai_codes Ai_bits Cu_seen Cu_inThrees Cu_all Lo_asked Lo_ones Lo_sum Lo_wideSize Lo_sumSize Lo_flickers Lo_ready Wa_at Wa_turns Wa_changes post) A) 0 0 A := by
  refine Met.ofW (cc := cX6_offer) (maxL := 6) (ret := none) (by decide) rfl ?_
  intro p e s m args below meth c s₁ B hml hv
  obtain ⟨rfl, hP, hK, hN, hD⟩ := hv
  have X : kC p (headSpec (Cond.code yX6_offer cX6_offer 6 none :: wsL_law) (rmH 2)).room s m _ meth c cX6_offer RX6 6 none 2 := ⟨B.exec, B.bytes, hml, findClass_of_methodNamed B.named, fun w h => atoms_spec (ws := Cond.code yX6_offer cX6_offer 6 none :: wsL_law) B.pre w (List.mem_cons_of_mem _ h), B.returns, B.notSynchronized, Nat.le_refl _, Nat.le_refl _⟩
  obtain ⟨hx, hb, hml, hown, hts, hr, hlocks, hRf, hRl⟩ := id X
  have hS : va_S A s.heap s.heap [] := va_S.rf
  have hl := lv_entry ([.ref (q 5), .int x1, .int x2]) (n := 6) (Nat.le_of_ble_eq_true rfl)
  rw [lg_entry_eq]
  generalize (lg_sl ([.ref (q 5), .int x1, .int x2]) ++ List.replicate (6 - (lg_sl ([.ref (q 5), .int x1, .int x2])).length) Slot.unset).toArray = ls at hl ⊢
  have hl : lv_has ls 6 [(0, .ref (q 5)), (1, .int x1), (2, .int x2)] := hl
  refine lv_iload_n hx hb dX6_offer_0 rfl (lv_at hl 1 rfl) ?_
  refine lv_iload_n hx hb dX6_offer_1 rfl (lv_at hl 2 rfl) ?_
  refine va_mmin hx hb (hml.trans hl.1.symm) hown (hts _ (inr11 _ (List.mem_of_getElem? (i := 21) rfl))) (hts _ (inr11 _ (List.mem_of_getElem? (i := 22) rfl))) (hts _ (inr11 _ (List.mem_of_getElem? (i := 23) rfl))) (hts _ (inr12 _ (List.mem_of_getElem? (i := 0) rfl))) (Nat.le_trans (Nat.le_of_ble_eq_true rfl) hRf) (Nat.le_trans (Nat.le_of_ble_eq_true rfl) hRl) (Nat.zero_le _) (Nat.zero_le _) dX6_offer_2 ?_
  refine lv_topi (fun x3_1 e_1 => ?_)
  have hw := hw x3_1 e_1
  refine lv_istore_n (lv' := [(3, .int x3_1), (0, .ref (q 5)), (1, .int x1), (2, .int x2)]) hx hb dX6_offer_5 rfl hl (by decide) rfl (fun ls hl => ?_)
  refine lv_iload_n hx hb dX6_offer_6 rfl (lv_at hl 2 rfl) ?_
  refine lv_iload_n hx hb dX6_offer_7 rfl (lv_at hl 3 rfl) ?_
  refine va_mmax hx hb (hml.trans hl.1.symm) hown (hts _ (inr12 _ (List.mem_of_getElem? (i := 1) rfl))) (hts _ (inr12 _ (List.mem_of_getElem? (i := 2) rfl))) (hts _ (inr11 _ (List.mem_of_getElem? (i := 23) rfl))) (hts _ (inr12 _ (List.mem_of_getElem? (i := 3) rfl))) (Nat.le_trans (Nat.le_of_ble_eq_true rfl) hRf) (Nat.le_trans (Nat.le_of_ble_eq_true rfl) hRl) (Nat.zero_le _) (Nat.zero_le _) dX6_offer_8 ?_
  refine lv_topi (fun x4_2 e_2 => ?_)
  have hw := hw x4_2 e_2
  refine lv_istore (lv' := [(4, .int x4_2), (3, .int x3_1), (0, .ref (q 5)), (1, .int x1), (2, .int x2)]) hx hb dX6_offer_11 hl (by decide) rfl (fun ls hl => ?_)
  refine lv_iconst (v := (0 : Int32)) hx hb dX6_offer_13 (by decide) ?_
  refine lv_istore (lv' := [(5, .int (0 : Int32)), (4, .int x4_2), (3, .int x3_1), (0, .ref (q 5)), (1, .int x1), (2, .int x2)]) hx hb dX6_offer_14 hl (by decide) rfl (fun ls hl => ?_)
  obtain ⟨n_9, hw⟩ := hw
  refine t_X6_offer_16 X hK hN (fun  hw ls H locs hl hP hD hS => ?_) n_9 _ hw ls _ _ (lv_sub hl [3, 2, 1, 0] rfl) hP hD hS
  refine lv_aload_n hx hb dX6_offer_55 rfl (lv_at hl 0 rfl) ?_
  refine lv_iload_n hx hb dX6_offer_56 rfl (lv_at hl 1 rfl) ?_
  refine lv_iload hx hb dX6_offer_57 (lv_at hl 2 rfl) ?_
  refine wr_v (va_runV (As := [.int x3_1, .int x4_2]) (rest := []) ⟨hx, hb, hml, hown, hts⟩ (c_X6_dropInside l hw) (kRX6_57 (h := 1) hts (Nat.le_trans (Nat.le_of_ble_eq_true rfl) hRf) (Nat.le_trans (Nat.le_of_ble_eq_true rfl) hRl)) (preX6w hK hN hP hD) rfl rfl hl.1 rfl (lv_room (Nat.le_of_ble_eq_true rfl)) dX6_offer_59 ⟨Nat.zero_le _, Nat.zero_le _⟩) hS (fun t H locs ht hw hS => ?_)
  obtain ⟨ylessers_10, ygreaters_10, ysize_10, hw, hP⟩ := hw
  rw [ht] at hP
  have hP : va_P D vwCl (wC q cA Fc_unkept Fc_tablesRead Pg_letters Pg_size Pg_fault Pg_rows Pg_inRow Pg_width Fl_entries Fl_states Fl_columns Fl_moves Fl_stables Fl_amiss Fl_normal ylessers_10 ygreaters_10 ysize_10 Lc_signals Lc_kept Lc_keptFrom Lc_candidates Lc_size Sc_signals Sc_codes Sc_size Ai_codes Ai_bits Cu_seen Cu_inThrees Cu_all Lo_asked Lo_ones Lo_sum Lo_wideSize Lo_sumSize Lo_flickers Lo_ready Wa_at Wa_turns Wa_changes) H := hP
  have hD : va_D A (wC q cA Fc_unkept Fc_tablesRead Pg_letters Pg_size Pg_fault Pg_rows Pg_inRow Pg_width Fl_entries Fl_states Fl_columns Fl_moves Fl_stables Fl_amiss Fl_normal ylessers_10 ygreaters_10 ysize_10 Lc_signals Lc_kept Lc_keptFrom Lc_candidates Lc_size Sc_signals Sc_codes Sc_size Ai_codes Ai_bits Cu_seen Cu_inThrees Cu_all Lo_asked Lo_ones Lo_sum Lo_wideSize Lo_sumSize Lo_flickers Lo_ready Wa_at Wa_turns Wa_changes) := dC hD
  refine lv_aload_n hx hb dX6_offer_62 rfl (lv_at hl 0 rfl) ?_
  refine lv_iload_n hx hb dX6_offer_63 rfl (lv_at hl 1 rfl) ?_
  refine lv_iload hx hb dX6_offer_64 (lv_at hl 2 rfl) ?_
  refine wr_v (va_runV (As := [.int x3_1, .int x4_2]) (rest := []) ⟨hx, hb, hml, hown, hts⟩ (c_X6_insert l hw) (kRX6_60 (h := 1) hts (Nat.le_trans (Nat.le_of_ble_eq_true rfl) hRf) (Nat.le_trans (Nat.le_of_ble_eq_true rfl) hRl)) (preX6w hK hN hP hD) rfl rfl hl.1 rfl (lv_room (Nat.le_of_ble_eq_true rfl)) dX6_offer_66 ⟨Nat.zero_le _, Nat.zero_le _⟩) hS (fun t H locs ht hw hS => ?_)
  obtain ⟨ylessers_11, ygreaters_11, ysize_11, hw, hP⟩ := hw
  rw [ht] at hP
  have hP : va_P D vwCl (wC q cA Fc_unkept Fc_tablesRead Pg_letters Pg_size Pg_fault Pg_rows Pg_inRow Pg_width Fl_entries Fl_states Fl_columns Fl_moves Fl_stables Fl_amiss Fl_normal ylessers_11 ygreaters_11 ysize_11 Lc_signals Lc_kept Lc_keptFrom Lc_candidates Lc_size Sc_signals Sc_codes Sc_size Ai_codes Ai_bits Cu_seen Cu_inThrees Cu_all Lo_asked Lo_ones Lo_sum Lo_wideSize Lo_sumSize Lo_flickers Lo_ready Wa_at Wa_turns Wa_changes) H := hP
  have hD : va_D A (wC q cA Fc_unkept Fc_tablesRead Pg_letters Pg_size Pg_fault Pg_rows Pg_inRow Pg_width Fl_entries Fl_states Fl_columns Fl_moves Fl_stables Fl_amiss Fl_normal ylessers_11 ygreaters_11 ysize_11 Lc_signals Lc_kept Lc_keptFrom Lc_candidates Lc_size Sc_signals Sc_codes Sc_size Ai_codes Ai_bits Cu_seen Cu_inThrees Cu_all Lo_asked Lo_ones Lo_sum Lo_wideSize Lo_sumSize Lo_flickers Lo_ready Wa_at Wa_turns Wa_changes) := dC hD
  exact rw_v hx hb hr hlocks (fun t ht => ⟨ylessers_11, ygreaters_11, ysize_11, hw, by rw [ht]; exact hP⟩) hS dX6_offer_69
abbrev Z_X6_offerMoves (D : va_G) (q : Nat → Nat) (cA : Nat → ClassId) (Fc_unkept : Int32) (Fc_tablesRead : Int32) (Pg_letters : Nat → Int32) (Pg_size : Int32) (Pg_fault : Int32) (Pg_rows : Int32) (Pg_inRow : Int32) (Pg_width : Int32) (Fl_entries : Nat → Int32) (Fl_states : Int32) (Fl_columns : Int32) (Fl_moves : Int32) (Fl_stables : Int32) (Fl_amiss : Int32) (Fl_normal : Int32) (Lc_signals : Nat → Int32) (Lc_kept : Nat → Int64) (Lc_keptFrom : Nat → Int64) (Lc_candidates : Int32) (Lc_size : Int32) (Sc_signals : Nat → Int32) (Sc_codes : Nat → Int32) (Sc_size : Int32) (Ai_codes : Nat → Int32) (Ai_bits : Int32) (Cu_seen : Nat → Int32) (Cu_inThrees : Nat → Int32) (Cu_all : Int32) (Lo_asked : Nat → Nat → Int32) (Lo_ones : Nat → Nat → Int32) (Lo_sum : Nat → Nat → Int32) (Lo_wideSize : Nat → Int32) (Lo_sumSize : Nat → Int32) (Lo_flickers : Nat → Int32) (Lo_ready : Nat → Int32) (Wa_at : Int32) (Wa_turns : Int32) (Wa_changes : Int32) (post : (Nat → Int32) → (Nat → Int32) → Int32 → Prop) : State → Prop := fun t => ∃ (y_Pt_lessers : Nat → Int32) (y_Pt_greaters : Nat → Int32) (y_Pt_size : Int32), post y_Pt_lessers y_Pt_greaters y_Pt_size ∧ va_P D vwCl (wC q cA Fc_unkept Fc_tablesRead Pg_letters Pg_size Pg_fault Pg_rows Pg_inRow Pg_width Fl_entries Fl_states Fl_columns Fl_moves Fl_stables Fl_amiss Fl_normal y_Pt_lessers y_Pt_greaters y_Pt_size Lc_signals Lc_kept Lc_keptFrom Lc_candidates Lc_size Sc_signals Sc_codes Sc_size Ai_codes Ai_bits Cu_seen Cu_inThrees Cu_all Lo_asked Lo_ones Lo_sum Lo_wideSize Lo_sumSize Lo_flickers Lo_ready Wa_at Wa_turns Wa_changes) t.heap
set_option maxHeartbeats 4000000 in
set_option maxRecDepth 100000 in
theorem c_X6_offerMoves (l : Launch) {D : va_G} {q : Nat → Nat} {cA : Nat → ClassId} {Fc_unkept : Int32} {Fc_tablesRead : Int32} {Pg_letters : Nat → Int32} {Pg_size : Int32} {Pg_fault : Int32} {Pg_rows : Int32} {Pg_inRow : Int32} {Pg_width : Int32} {Fl_entries : Nat → Int32} {Fl_states : Int32} {Fl_columns : Int32} {Fl_moves : Int32} {Fl_stables : Int32} {Fl_amiss : Int32} {Fl_normal : Int32} {Pt_lessers : Nat → Int32} {Pt_greaters : Nat → Int32} {Pt_size : Int32} {Lc_signals : Nat → Int32} {Lc_kept : Nat → Int64} {Lc_keptFrom : Nat → Int64} {Lc_candidates : Int32} {Lc_size : Int32} {Sc_signals : Nat → Int32} {Sc_codes : Nat → Int32} {Sc_size : Int32} {Ai_codes : Nat → Int32} {Ai_bits : Int32} {Cu_seen : Nat → Int32} {Cu_inThrees : Nat → Int32} {Cu_all : Int32} {Lo_asked : Nat → Nat → Int32} {Lo_ones : Nat → Nat → Int32} {Lo_sum : Nat → Nat → Int32} {Lo_wideSize : Nat → Int32} {Lo_sumSize : Nat → Int32} {Lo_flickers : Nat → Int32} {Lo_ready : Nat → Int32} {Wa_at : Int32} {Wa_turns : Int32} {Wa_changes : Int32} {A : Nat → Prop} {post : (Nat → Int32) → (Nat → Int32) → Int32 → Prop} {x2 : Int32} {x3 : Int32} {x4 : Int32} (hw : wp_X6_offerMoves post Fl_entries Fl_states Fl_columns Pt_lessers Pt_greaters Pt_size x2 x3 x4) : Met l yX6_offerMoves (Cond.code yX6_offerMoves cX6_offerMoves 7 none :: wsL_law) (rmH 3) (va_Pc [.ref (q 5), .ref (q 3), .int x2, .int x3, .int x4] (fun U => va_P D vwCl (wC q cA Fc_unkept Fc_tablesRead Pg_letters Pg_size Pg_fault Pg_rows Pg_inRow Pg_width Fl_entries Fl_states Fl_columns Fl_moves Fl_stables Fl_amiss Fl_normal Pt_lessers Pt_greaters Pt_size Lc_signals Lc_kept Lc_keptFrom Lc_candidates Lc_size Sc_signals Sc_codes Sc_size Ai_codes Ai_bits Cu_seen Cu_inThrees Cu_all Lo_asked Lo_ones Lo_sum Lo_wideSize Lo_sumSize Lo_flickers Lo_ready Wa_at Wa_turns Wa_changes) U.heap ∧ va_K D vwCl (tyC cA) U ∧ nwC U ∧ va_D A (wC q cA Fc_unkept Fc_tablesRead Pg_letters Pg_size Pg_fault Pg_rows Pg_inRow Pg_width Fl_entries Fl_states Fl_columns Fl_moves Fl_stables Fl_amiss Fl_normal Pt_lessers Pt_greaters Pt_size Lc_signals Lc_kept Lc_keptFrom Lc_candidates Lc_size Sc_signals Sc_codes Sc_size Ai_codes Ai_bits Cu_seen Cu_inThrees Cu_all Lo_asked Lo_ones Lo_sum Lo_wideSize Lo_sumSize Lo_flickers Lo_ready Wa_at Wa_turns Wa_changes))) (qWv (Z_X6_offerMoves D q cA Fc_unkept Fc_tablesRead Pg_letters Pg_size Pg_fault Pg_rows Pg_inRow Pg_width Fl_entries Fl_states Fl_columns Fl_moves Fl_stables Fl_amiss Fl_normal Lc_signals Lc_kept Lc_keptFrom Lc_candidates Lc_size Sc_signals Sc_codes Sc_size Ai_codes Ai_bits Cu_seen Cu_inThrees Cu_all Lo_asked Lo_ones Lo_sum Lo_wideSize Lo_sumSize Lo_flickers Lo_ready Wa_at Wa_turns Wa_changes post) A) 0 0 A := by
  refine Met.ofW (cc := cX6_offerMoves) (maxL := 7) (ret := none) (by decide) rfl ?_
  intro p e s m args below meth c s₁ B hml hv
  obtain ⟨rfl, hP, hK, hN, hD⟩ := hv
  have X : kC p (headSpec (Cond.code yX6_offerMoves cX6_offerMoves 7 none :: wsL_law) (rmH 3)).room s m _ meth c cX6_offerMoves RX6 7 none 3 := ⟨B.exec, B.bytes, hml, findClass_of_methodNamed B.named, fun w h => atoms_spec (ws := Cond.code yX6_offerMoves cX6_offerMoves 7 none :: wsL_law) B.pre w (List.mem_cons_of_mem _ h), B.returns, B.notSynchronized, Nat.le_refl _, Nat.le_refl _⟩
  obtain ⟨hx, hb, hml, hown, hts, hr, hlocks, hRf, hRl⟩ := id X
  have hS : va_S A s.heap s.heap [] := va_S.rf
  have hl := lv_entry ([.ref (q 5), .ref (q 3), .int x2, .int x3, .int x4]) (n := 7) (Nat.le_of_ble_eq_true rfl)
  rw [lg_entry_eq]
  generalize (lg_sl ([.ref (q 5), .ref (q 3), .int x2, .int x3, .int x4]) ++ List.replicate (7 - (lg_sl ([.ref (q 5), .ref (q 3), .int x2, .int x3, .int x4])).length) Slot.unset).toArray = ls at hl ⊢
  have hl : lv_has ls 7 [(0, .ref (q 5)), (1, .ref (q 3)), (2, .int x2), (3, .int x3), (4, .int x4)] := hl
  refine lv_aload_n hx hb dX6_offerMoves_0 rfl (lv_at hl 1 rfl) ?_
  refine lv_iload_n hx hb dX6_offerMoves_1 rfl (lv_at hl 3 rfl) ?_
  refine lv_iload_n hx hb dX6_offerMoves_2 rfl (lv_at hl 2 rfl) ?_
  refine ro_i (va_runV (As := [.int x3, .int x2]) (rest := []) ⟨hx, hb, hml, hown, hts⟩ (c_X2_next l hw) (kRX6_41 (h := 1) hts (Nat.le_trans (Nat.le_of_ble_eq_true rfl) hRf) (Nat.le_trans (Nat.le_of_ble_eq_true rfl) hRl)) (preX2 hK hN hP) rfl rfl hl.1 rfl (lv_room (Nat.le_of_ble_eq_true rfl)) dX6_offerMoves_3 ⟨Nat.zero_le _, Nat.zero_le _⟩) (fun r_1 hw => ?_)
  refine lv_istore (lv' := [(5, .int r_1), (0, .ref (q 5)), (1, .ref (q 3)), (2, .int x2), (3, .int x3), (4, .int x4)]) hx hb dX6_offerMoves_6 hl (by decide) rfl (fun ls hl => ?_)
  refine lv_aload_n hx hb dX6_offerMoves_8 rfl (lv_at hl 2 rfl) ?_
  refine lv_iload hx hb dX6_offerMoves_9 (lv_at hl 5 rfl) ?_
  refine lv_iload_n hx hb dX6_offerMoves_11 rfl (lv_at hl 3 rfl) ?_
  refine ro_i (va_runV (As := [.int x4, .int x2]) (rest := []) ⟨hx, hb, hml, hown, hts⟩ (c_X2_next l hw) (kRX6_41 (h := 1) hts (Nat.le_trans (Nat.le_of_ble_eq_true rfl) hRf) (Nat.le_trans (Nat.le_of_ble_eq_true rfl) hRl)) (preX2 hK hN hP) rfl rfl hl.1 rfl (lv_room (Nat.le_of_ble_eq_true rfl)) dX6_offerMoves_12 ⟨Nat.zero_le _, Nat.zero_le _⟩) (fun r_2 hw => ?_)
  refine lv_istore (lv' := [(6, .int r_2), (5, .int r_1), (0, .ref (q 5)), (1, .ref (q 3)), (2, .int x2), (3, .int x3), (4, .int x4)]) hx hb dX6_offerMoves_15 hl (by decide) rfl (fun ls hl => ?_)
  refine lv_iload hx hb dX6_offerMoves_17 (lv_at hl 1 rfl) ?_
  refine lv_iconst (v := ((-1) : Int32)) hx hb dX6_offerMoves_19 (by decide) ?_
  refine lv_icmp_eq (tgt := 57) hx hb dX6_offerMoves_20 (by decide) (fun c_3 => ?_) (fun c_3 => ?_)
  · have hw := hw.1 c_3
    exact rw_v hx hb hr hlocks (fun t ht => ⟨Pt_lessers, Pt_greaters, Pt_size, hw, by rw [ht]; exact hP⟩) hS dX6_offerMoves_57
  · have hw := hw.2 c_3
    refine lv_iload hx hb dX6_offerMoves_23 (lv_at hl 0 rfl) ?_
    refine lv_iconst (v := ((-1) : Int32)) hx hb dX6_offerMoves_25 (by decide) ?_
    refine lv_icmp_eq (tgt := 57) hx hb dX6_offerMoves_26 (by decide) (fun c_4 => ?_) (fun c_4 => ?_)
    · have hw := hw.1 c_4
      exact rw_v hx hb hr hlocks (fun t ht => ⟨Pt_lessers, Pt_greaters, Pt_size, hw, by rw [ht]; exact hP⟩) hS dX6_offerMoves_57
    · have hw := hw.2 c_4
      refine lv_iload hx hb dX6_offerMoves_29 (lv_at hl 1 rfl) ?_
      refine lv_iload hx hb dX6_offerMoves_31 (lv_at hl 0 rfl) ?_
      refine lv_icmp_eq (tgt := 57) hx hb dX6_offerMoves_33 (by decide) (fun c_5 => ?_) (fun c_5 => ?_)
      · have hw := hw.1 c_5
        exact rw_v hx hb hr hlocks (fun t ht => ⟨Pt_lessers, Pt_greaters, Pt_size, hw, by rw [ht]; exact hP⟩) hS dX6_offerMoves_57
      · have hw := hw.2 c_5
        refine lv_aload_n hx hb dX6_offerMoves_36 rfl (lv_at hl 2 rfl) ?_
        refine lv_iconst (v := (1 : Int32)) hx hb dX6_offerMoves_37 (by decide) ?_
        refine lv_iload_n hx hb dX6_offerMoves_38 rfl (lv_at hl 5 rfl) ?_
        refine lv_ishl hx hb dX6_offerMoves_39 ?_
        refine lv_iconst (v := (1 : Int32)) hx hb dX6_offerMoves_40 (by decide) ?_
        refine lv_iload hx hb dX6_offerMoves_41 (lv_at hl 1 rfl) ?_
        refine lv_ishl hx hb dX6_offerMoves_43 ?_
        refine lv_ior hx hb dX6_offerMoves_44 ?_
        refine lv_iconst (v := (1 : Int32)) hx hb dX6_offerMoves_45 (by decide) ?_
        refine lv_iload hx hb dX6_offerMoves_46 (lv_at hl 6 rfl) ?_
        refine lv_ishl hx hb dX6_offerMoves_48 ?_
        refine lv_iconst (v := (1 : Int32)) hx hb dX6_offerMoves_49 (by decide) ?_
        refine lv_iload hx hb dX6_offerMoves_50 (lv_at hl 0 rfl) ?_
        refine lv_ishl hx hb dX6_offerMoves_52 ?_
        refine lv_ior hx hb dX6_offerMoves_53 ?_
        refine wr_v (va_runV (As := [.int (((1 : Int32) <<< (x3 &&& 31)) ||| ((1 : Int32) <<< (r_1 &&& 31))), .int (((1 : Int32) <<< (x4 &&& 31)) ||| ((1 : Int32) <<< (r_2 &&& 31)))]) (rest := []) ⟨hx, hb, hml, hown, hts⟩ (c_X6_offer l hw) (kRX6_30 (h := 2) hts (Nat.le_trans (Nat.le_of_ble_eq_true rfl) hRf) (Nat.le_trans (Nat.le_of_ble_eq_true rfl) hRl)) (preX6w hK hN hP hD) rfl rfl hl.1 rfl (lv_room (Nat.le_of_ble_eq_true rfl)) dX6_offerMoves_54 ⟨Nat.zero_le _, Nat.zero_le _⟩) hS (fun t H locs ht hw hS => ?_)
        obtain ⟨ylessers_6, ygreaters_6, ysize_6, hw, hP⟩ := hw
        rw [ht] at hP
        have hP : va_P D vwCl (wC q cA Fc_unkept Fc_tablesRead Pg_letters Pg_size Pg_fault Pg_rows Pg_inRow Pg_width Fl_entries Fl_states Fl_columns Fl_moves Fl_stables Fl_amiss Fl_normal ylessers_6 ygreaters_6 ysize_6 Lc_signals Lc_kept Lc_keptFrom Lc_candidates Lc_size Sc_signals Sc_codes Sc_size Ai_codes Ai_bits Cu_seen Cu_inThrees Cu_all Lo_asked Lo_ones Lo_sum Lo_wideSize Lo_sumSize Lo_flickers Lo_ready Wa_at Wa_turns Wa_changes) H := hP
        have hD : va_D A (wC q cA Fc_unkept Fc_tablesRead Pg_letters Pg_size Pg_fault Pg_rows Pg_inRow Pg_width Fl_entries Fl_states Fl_columns Fl_moves Fl_stables Fl_amiss Fl_normal ylessers_6 ygreaters_6 ysize_6 Lc_signals Lc_kept Lc_keptFrom Lc_candidates Lc_size Sc_signals Sc_codes Sc_size Ai_codes Ai_bits Cu_seen Cu_inThrees Cu_all Lo_asked Lo_ones Lo_sum Lo_wideSize Lo_sumSize Lo_flickers Lo_ready Wa_at Wa_turns Wa_changes) := dC hD
        exact rw_v hx hb hr hlocks (fun t ht => ⟨ylessers_6, ygreaters_6, ysize_6, hw, by rw [ht]; exact hP⟩) hS dX6_offerMoves_57
abbrev Z_X6_gather (D : va_G) (q : Nat → Nat) (cA : Nat → ClassId) (Fc_unkept : Int32) (Fc_tablesRead : Int32) (Pg_letters : Nat → Int32) (Pg_size : Int32) (Pg_fault : Int32) (Pg_rows : Int32) (Pg_inRow : Int32) (Pg_width : Int32) (Fl_entries : Nat → Int32) (Fl_states : Int32) (Fl_columns : Int32) (Fl_moves : Int32) (Fl_stables : Int32) (Fl_amiss : Int32) (Fl_normal : Int32) (Lc_signals : Nat → Int32) (Lc_kept : Nat → Int64) (Lc_keptFrom : Nat → Int64) (Lc_candidates : Int32) (Lc_size : Int32) (Sc_signals : Nat → Int32) (Sc_codes : Nat → Int32) (Sc_size : Int32) (Ai_codes : Nat → Int32) (Ai_bits : Int32) (Cu_seen : Nat → Int32) (Cu_inThrees : Nat → Int32) (Cu_all : Int32) (Lo_asked : Nat → Nat → Int32) (Lo_ones : Nat → Nat → Int32) (Lo_sum : Nat → Nat → Int32) (Lo_wideSize : Nat → Int32) (Lo_sumSize : Nat → Int32) (Lo_flickers : Nat → Int32) (Lo_ready : Nat → Int32) (Wa_at : Int32) (Wa_turns : Int32) (Wa_changes : Int32) (post : (Nat → Int32) → (Nat → Int32) → Int32 → Prop) : State → Prop := fun t => ∃ (y_Pt_lessers : Nat → Int32) (y_Pt_greaters : Nat → Int32) (y_Pt_size : Int32), post y_Pt_lessers y_Pt_greaters y_Pt_size ∧ va_P D vwCl (wC q cA Fc_unkept Fc_tablesRead Pg_letters Pg_size Pg_fault Pg_rows Pg_inRow Pg_width Fl_entries Fl_states Fl_columns Fl_moves Fl_stables Fl_amiss Fl_normal y_Pt_lessers y_Pt_greaters y_Pt_size Lc_signals Lc_kept Lc_keptFrom Lc_candidates Lc_size Sc_signals Sc_codes Sc_size Ai_codes Ai_bits Cu_seen Cu_inThrees Cu_all Lo_asked Lo_ones Lo_sum Lo_wideSize Lo_sumSize Lo_flickers Lo_ready Wa_at Wa_turns Wa_changes) t.heap
set_option maxHeartbeats 4000000 in
set_option maxRecDepth 100000 in
theorem t_X6_gather_39 {p : Program} {l : Launch} {e : Env} {R : Room} {s : State} {m : MethodId} {args : Array Value} {below : List Frame} {meth : Method} {c : Code} {A : Nat → Prop} {D : va_G} {q : Nat → Nat} {cA : Nat → ClassId} {Fc_unkept : Int32} {Fc_tablesRead : Int32} {Pg_letters : Nat → Int32} {Pg_size : Int32} {Pg_fault : Int32} {Pg_rows : Int32} {Pg_inRow : Int32} {Pg_width : Int32} {Fl_entries : Nat → Int32} {Fl_states : Int32} {Fl_columns : Int32} {Fl_moves : Int32} {Fl_stables : Int32} {Fl_amiss : Int32} {Fl_normal : Int32} {Lc_signals : Nat → Int32} {Lc_kept : Nat → Int64} {Lc_keptFrom : Nat → Int64} {Lc_candidates : Int32} {Lc_size : Int32} {Sc_signals : Nat → Int32} {Sc_codes : Nat → Int32} {Sc_size : Int32} {Ai_codes : Nat → Int32} {Ai_bits : Int32} {Cu_seen : Nat → Int32} {Cu_inThrees : Nat → Int32} {Cu_all : Int32} {Lo_asked : Nat → Nat → Int32} {Lo_ones : Nat → Nat → Int32} {Lo_sum : Nat → Nat → Int32} {Lo_wideSize : Nat → Int32} {Lo_sumSize : Nat → Int32} {Lo_flickers : Nat → Int32} {Lo_ready : Nat → Int32} {Wa_at : Int32} {Wa_turns : Int32} {Wa_changes : Int32} {post : (Nat → Int32) → (Nat → Int32) → Int32 → Prop} {KE : (Nat → Int32) → (Nat → Int32) → Int32 → Prop} {x2 : Int32} {x3 : Int32} (X : kC p R s m args meth c cX6_gather RX6 5 none 4) (hK : va_K D vwCl (tyC cA) s) (hN : nwC s) (hE : ∀ (Pt_lessers : Nat → Int32) (Pt_greaters : Nat → Int32) (Pt_size : Int32), KE Pt_lessers Pt_greaters Pt_size → ∀ (ls : Array Slot) (H : Heap) (locs : List Loc), lv_has ls 5 [(0, .ref (q 5)), (1, .ref (q 3)), (2, .int x2), (3, .int x3)] → va_P D vwCl (wC q cA Fc_unkept Fc_tablesRead Pg_letters Pg_size Pg_fault Pg_rows Pg_inRow Pg_width Fl_entries Fl_states Fl_columns Fl_moves Fl_stables Fl_amiss Fl_normal Pt_lessers Pt_greaters Pt_size Lc_signals Lc_kept Lc_keptFrom Lc_candidates Lc_size Sc_signals Sc_codes Sc_size Ai_codes Ai_bits Cu_seen Cu_inThrees Cu_all Lo_asked Lo_ones Lo_sum Lo_wideSize Lo_sumSize Lo_flickers Lo_ready Wa_at Wa_turns Wa_changes) H → va_D A (wC q cA Fc_unkept Fc_tablesRead Pg_letters Pg_size Pg_fault Pg_rows Pg_inRow Pg_width Fl_entries Fl_states Fl_columns Fl_moves Fl_stables Fl_amiss Fl_normal Pt_lessers Pt_greaters Pt_size Lc_signals Lc_kept Lc_keptFrom Lc_candidates Lc_size Sc_signals Sc_codes Sc_size Ai_codes Ai_bits Cu_seen Cu_inThrees Cu_all Lo_asked Lo_ones Lo_sum Lo_wideSize Lo_sumSize Lo_flickers Lo_ready Wa_at Wa_turns Wa_changes) → va_S A s.heap H locs → W p l e R s m args below meth c H locs 0 0 (MQ below (qWv (Z_X6_gather D q cA Fc_unkept Fc_tablesRead Pg_letters Pg_size Pg_fault Pg_rows Pg_inRow Pg_width Fl_entries Fl_states Fl_columns Fl_moves Fl_stables Fl_amiss Fl_normal Lc_signals Lc_kept Lc_keptFrom Lc_candidates Lc_size Sc_signals Sc_codes Sc_size Ai_codes Ai_bits Cu_seen Cu_inThrees Cu_all Lo_asked Lo_ones Lo_sum Lo_wideSize Lo_sumSize Lo_flickers Lo_ready Wa_at Wa_turns Wa_changes post) A) args s 0 0 A) (F0 m 63 ls [])) : ∀ (n : Nat) (x4 : Int32) (Pt_lessers : Nat → Int32) (Pt_greaters : Nat → Int32) (Pt_size : Int32), w_X6_gather_39 KE Fl_entries Fl_states Fl_columns x2 x3 n x4 Pt_lessers Pt_greaters Pt_size → ∀ (ls : Array Slot) (H : Heap) (locs : List Loc), lv_has ls 5 [(0, .ref (q 5)), (1, .ref (q 3)), (2, .int x2), (3, .int x3), (4, .int x4)] → va_P D vwCl (wC q cA Fc_unkept Fc_tablesRead Pg_letters Pg_size Pg_fault Pg_rows Pg_inRow Pg_width Fl_entries Fl_states Fl_columns Fl_moves Fl_stables Fl_amiss Fl_normal Pt_lessers Pt_greaters Pt_size Lc_signals Lc_kept Lc_keptFrom Lc_candidates Lc_size Sc_signals Sc_codes Sc_size Ai_codes Ai_bits Cu_seen Cu_inThrees Cu_all Lo_asked Lo_ones Lo_sum Lo_wideSize Lo_sumSize Lo_flickers Lo_ready Wa_at Wa_turns Wa_changes) H → va_D A (wC q cA Fc_unkept Fc_tablesRead Pg_letters Pg_size Pg_fault Pg_rows Pg_inRow Pg_width Fl_entries Fl_states Fl_columns Fl_moves Fl_stables Fl_amiss Fl_normal Pt_lessers Pt_greaters Pt_size Lc_signals Lc_kept Lc_keptFrom Lc_candidates Lc_size Sc_signals Sc_codes Sc_size Ai_codes Ai_bits Cu_seen Cu_inThrees Cu_all Lo_asked Lo_ones Lo_sum Lo_wideSize Lo_sumSize Lo_flickers Lo_ready Wa_at Wa_turns Wa_changes) → va_S A s.heap H locs → W p l e R s m args below meth c H locs 0 0 (MQ below (qWv (Z_X6_gather D q cA Fc_unkept Fc_tablesRead Pg_letters Pg_size Pg_fault Pg_rows Pg_inRow Pg_width Fl_entries Fl_states Fl_columns Fl_moves Fl_stables Fl_amiss Fl_normal Lc_signals Lc_kept Lc_keptFrom Lc_candidates Lc_size Sc_signals Sc_codes Sc_size Ai_codes Ai_bits Cu_seen Cu_inThrees Cu_all Lo_asked Lo_ones Lo_sum Lo_wideSize Lo_sumSize Lo_flickers Lo_ready Wa_at Wa_turns Wa_changes post) A) args s 0 0 A) (F0 m 39 ls []) := by
  obtain ⟨hx, hb, hml, hown, hts, hr, hlocks, hRf, hRl⟩ := id X
  intro n
  induction n with
  | zero => intro x4 Pt_lessers Pt_greaters Pt_size hw; exact (show False from hw).elim
  | succ n ih =>
    intro x4 Pt_lessers Pt_greaters Pt_size hw ls H locs hl hP hD hS
    refine lv_iload hx hb dX6_gather_39 (lv_at hl 4 rfl) ?_
    refine lv_aload_n hx hb dX6_gather_41 rfl (lv_at hl 1 rfl) ?_
    refine gRX6_34 hx hb hown hts hK hN hP dX6_gather_42 ?_
    refine lv_icmp_ge (tgt := 63) hx hb dX6_gather_45 (by decide) (fun c_6 => ?_) (fun c_6 => ?_)
    · have hw := hw.1 c_6
      exact hE _ _ _ hw ls _ _ (lv_sub hl [0, 1, 2, 3] rfl) hP hD hS
    · have hw := hw.2 c_6
      refine lv_aload_n hx hb dX6_gather_48 rfl (lv_at hl 0 rfl) ?_
      refine lv_aload_n hx hb dX6_gather_49 rfl (lv_at hl 1 rfl) ?_
      refine lv_iload hx hb dX6_gather_50 (lv_at hl 4 rfl) ?_
      refine lv_iload_n hx hb dX6_gather_52 rfl (lv_at hl 2 rfl) ?_
      refine lv_iload_n hx hb dX6_gather_53 rfl (lv_at hl 3 rfl) ?_
      refine wr_v (va_runV (As := [.ref (q 3), .int x4, .int x2, .int x3]) (rest := []) ⟨hx, hb, hml, hown, hts⟩ (c_X6_offerMoves l hw) (kRX6_37 (h := 3) hts (Nat.le_trans (Nat.le_of_ble_eq_true rfl) hRf) (Nat.le_trans (Nat.le_of_ble_eq_true rfl) hRl)) (preX6w hK hN hP hD) rfl rfl hl.1 rfl (lv_room (Nat.le_of_ble_eq_true rfl)) dX6_gather_54 ⟨Nat.zero_le _, Nat.zero_le _⟩) hS (fun t H locs ht hw hS => ?_)
      obtain ⟨ylessers_7, ygreaters_7, ysize_7, hw, hP⟩ := hw
      rw [ht] at hP
      have hP : va_P D vwCl (wC q cA Fc_unkept Fc_tablesRead Pg_letters Pg_size Pg_fault Pg_rows Pg_inRow Pg_width Fl_entries Fl_states Fl_columns Fl_moves Fl_stables Fl_amiss Fl_normal ylessers_7 ygreaters_7 ysize_7 Lc_signals Lc_kept Lc_keptFrom Lc_candidates Lc_size Sc_signals Sc_codes Sc_size Ai_codes Ai_bits Cu_seen Cu_inThrees Cu_all Lo_asked Lo_ones Lo_sum Lo_wideSize Lo_sumSize Lo_flickers Lo_ready Wa_at Wa_turns Wa_changes) H := hP
      have hD : va_D A (wC q cA Fc_unkept Fc_tablesRead Pg_letters Pg_size Pg_fault Pg_rows Pg_inRow Pg_width Fl_entries Fl_states Fl_columns Fl_moves Fl_stables Fl_amiss Fl_normal ylessers_7 ygreaters_7 ysize_7 Lc_signals Lc_kept Lc_keptFrom Lc_candidates Lc_size Sc_signals Sc_codes Sc_size Ai_codes Ai_bits Cu_seen Cu_inThrees Cu_all Lo_asked Lo_ones Lo_sum Lo_wideSize Lo_sumSize Lo_flickers Lo_ready Wa_at Wa_turns Wa_changes) := dC hD
      obtain ⟨x4_8, e_8⟩ : ∃ z : Int32, z = x4 + (1 : Int32) := ⟨_, rfl⟩
      have hw := hw x4_8 e_8
      refine lv_iinc (v := x4_8) (lv' := [(4, .int x4_8), (0, .ref (q 5)), (1, .ref (q 3)), (2, .int x2), (3, .int x3)]) hx hb dX6_gather_57 hl (k := 4) rfl (by rw [e_8]; rfl) (by decide) rfl (fun ls hl => ?_)
      refine lv_goto (tgt := 39) hx hb dX6_gather_60 (by decide) ?_
      exact ih _ _ _ _ hw ls _ _ (lv_sub hl [1, 2, 3, 4, 0] rfl) hP hD hS
set_option maxHeartbeats 4000000 in
set_option maxRecDepth 100000 in
theorem t_X6_gather_18 {p : Program} {l : Launch} {e : Env} {R : Room} {s : State} {m : MethodId} {args : Array Value} {below : List Frame} {meth : Method} {c : Code} {A : Nat → Prop} {D : va_G} {q : Nat → Nat} {cA : Nat → ClassId} {Fc_unkept : Int32} {Fc_tablesRead : Int32} {Pg_letters : Nat → Int32} {Pg_size : Int32} {Pg_fault : Int32} {Pg_rows : Int32} {Pg_inRow : Int32} {Pg_width : Int32} {Fl_entries : Nat → Int32} {Fl_states : Int32} {Fl_columns : Int32} {Fl_moves : Int32} {Fl_stables : Int32} {Fl_amiss : Int32} {Fl_normal : Int32} {Lc_signals : Nat → Int32} {Lc_kept : Nat → Int64} {Lc_keptFrom : Nat → Int64} {Lc_candidates : Int32} {Lc_size : Int32} {Sc_signals : Nat → Int32} {Sc_codes : Nat → Int32} {Sc_size : Int32} {Ai_codes : Nat → Int32} {Ai_bits : Int32} {Cu_seen : Nat → Int32} {Cu_inThrees : Nat → Int32} {Cu_all : Int32} {Lo_asked : Nat → Nat → Int32} {Lo_ones : Nat → Nat → Int32} {Lo_sum : Nat → Nat → Int32} {Lo_wideSize : Nat → Int32} {Lo_sumSize : Nat → Int32} {Lo_flickers : Nat → Int32} {Lo_ready : Nat → Int32} {Wa_at : Int32} {Wa_turns : Int32} {Wa_changes : Int32} {post : (Nat → Int32) → (Nat → Int32) → Int32 → Prop} {KE : (Nat → Int32) → (Nat → Int32) → Int32 → Prop} {x2 : Int32} (X : kC p R s m args meth c cX6_gather RX6 5 none 4) (hK : va_K D vwCl (tyC cA) s) (hN : nwC s) (hE : ∀ (Pt_lessers : Nat → Int32) (Pt_greaters : Nat → Int32) (Pt_size : Int32), KE Pt_lessers Pt_greaters Pt_size → ∀ (ls : Array Slot) (H : Heap) (locs : List Loc), lv_has ls 5 [(0, .ref (q 5)), (1, .ref (q 3)), (2, .int x2)] → va_P D vwCl (wC q cA Fc_unkept Fc_tablesRead Pg_letters Pg_size Pg_fault Pg_rows Pg_inRow Pg_width Fl_entries Fl_states Fl_columns Fl_moves Fl_stables Fl_amiss Fl_normal Pt_lessers Pt_greaters Pt_size Lc_signals Lc_kept Lc_keptFrom Lc_candidates Lc_size Sc_signals Sc_codes Sc_size Ai_codes Ai_bits Cu_seen Cu_inThrees Cu_all Lo_asked Lo_ones Lo_sum Lo_wideSize Lo_sumSize Lo_flickers Lo_ready Wa_at Wa_turns Wa_changes) H → va_D A (wC q cA Fc_unkept Fc_tablesRead Pg_letters Pg_size Pg_fault Pg_rows Pg_inRow Pg_width Fl_entries Fl_states Fl_columns Fl_moves Fl_stables Fl_amiss Fl_normal Pt_lessers Pt_greaters Pt_size Lc_signals Lc_kept Lc_keptFrom Lc_candidates Lc_size Sc_signals Sc_codes Sc_size Ai_codes Ai_bits Cu_seen Cu_inThrees Cu_all Lo_asked Lo_ones Lo_sum Lo_wideSize Lo_sumSize Lo_flickers Lo_ready Wa_at Wa_turns Wa_changes) → va_S A s.heap H locs → W p l e R s m args below meth c H locs 0 0 (MQ below (qWv (Z_X6_gather D q cA Fc_unkept Fc_tablesRead Pg_letters Pg_size Pg_fault Pg_rows Pg_inRow Pg_width Fl_entries Fl_states Fl_columns Fl_moves Fl_stables Fl_amiss Fl_normal Lc_signals Lc_kept Lc_keptFrom Lc_candidates Lc_size Sc_signals Sc_codes Sc_size Ai_codes Ai_bits Cu_seen Cu_inThrees Cu_all Lo_asked Lo_ones Lo_sum Lo_wideSize Lo_sumSize Lo_flickers Lo_ready Wa_at Wa_turns Wa_changes post) A) args s 0 0 A) (F0 m 69 ls [])) : ∀ (n : Nat) (x3 : Int32) (Pt_lessers : Nat → Int32) (Pt_greaters : Nat → Int32) (Pt_size : Int32), w_X6_gather_18 KE Fl_entries Fl_states Fl_columns x2 n x3 Pt_lessers Pt_greaters Pt_size → ∀ (ls : Array Slot) (H : Heap) (locs : List Loc), lv_has ls 5 [(0, .ref (q 5)), (1, .ref (q 3)), (2, .int x2), (3, .int x3)] → va_P D vwCl (wC q cA Fc_unkept Fc_tablesRead Pg_letters Pg_size Pg_fault Pg_rows Pg_inRow Pg_width Fl_entries Fl_states Fl_columns Fl_moves Fl_stables Fl_amiss Fl_normal Pt_lessers Pt_greaters Pt_size Lc_signals Lc_kept Lc_keptFrom Lc_candidates Lc_size Sc_signals Sc_codes Sc_size Ai_codes Ai_bits Cu_seen Cu_inThrees Cu_all Lo_asked Lo_ones Lo_sum Lo_wideSize Lo_sumSize Lo_flickers Lo_ready Wa_at Wa_turns Wa_changes) H → va_D A (wC q cA Fc_unkept Fc_tablesRead Pg_letters Pg_size Pg_fault Pg_rows Pg_inRow Pg_width Fl_entries Fl_states Fl_columns Fl_moves Fl_stables Fl_amiss Fl_normal Pt_lessers Pt_greaters Pt_size Lc_signals Lc_kept Lc_keptFrom Lc_candidates Lc_size Sc_signals Sc_codes Sc_size Ai_codes Ai_bits Cu_seen Cu_inThrees Cu_all Lo_asked Lo_ones Lo_sum Lo_wideSize Lo_sumSize Lo_flickers Lo_ready Wa_at Wa_turns Wa_changes) → va_S A s.heap H locs → W p l e R s m args below meth c H locs 0 0 (MQ below (qWv (Z_X6_gather D q cA Fc_unkept Fc_tablesRead Pg_letters Pg_size Pg_fault Pg_rows Pg_inRow Pg_width Fl_entries Fl_states Fl_columns Fl_moves Fl_stables Fl_amiss Fl_normal Lc_signals Lc_kept Lc_keptFrom Lc_candidates Lc_size Sc_signals Sc_codes Sc_size Ai_codes Ai_bits Cu_seen Cu_inThrees Cu_all Lo_asked Lo_ones Lo_sum Lo_wideSize Lo_sumSize Lo_flickers Lo_ready Wa_at Wa_turns Wa_changes post) A) args s 0 0 A) (F0 m 18 ls []) := by
  obtain ⟨hx, hb, hml, hown, hts, hr, hlocks, hRf, hRl⟩ := id X
  intro n
  induction n with
  | zero => intro x3 Pt_lessers Pt_greaters Pt_size hw; exact (show False from hw).elim
  | succ n ih =>
    intro x3 Pt_lessers Pt_greaters Pt_size hw ls H locs hl hP hD hS
    refine lv_iload_n hx hb dX6_gather_18 rfl (lv_at hl 3 rfl) ?_
    refine lv_aload_n hx hb dX6_gather_19 rfl (lv_at hl 1 rfl) ?_
    refine gRX6_25 hx hb hown hts hK hN hP dX6_gather_20 ?_
    refine lv_icmp_ge (tgt := 69) hx hb dX6_gather_23 (by decide) (fun c_4 => ?_) (fun c_4 => ?_)
    · have hw := hw.1 c_4
      exact hE _ _ _ hw ls _ _ (lv_sub hl [0, 1, 2] rfl) hP hD hS
    · have hw := hw.2 c_4
      refine lv_aload_n hx hb dX6_gather_26 rfl (lv_at hl 0 rfl) ?_
      refine lv_iconst (v := (1 : Int32)) hx hb dX6_gather_27 (by decide) ?_
      refine lv_iload_n hx hb dX6_gather_28 rfl (lv_at hl 2 rfl) ?_
      refine lv_ishl hx hb dX6_gather_29 ?_
      refine lv_iconst (v := (1 : Int32)) hx hb dX6_gather_30 (by decide) ?_
      refine lv_iload_n hx hb dX6_gather_31 rfl (lv_at hl 3 rfl) ?_
      refine lv_ishl hx hb dX6_gather_32 ?_
      refine wr_v (va_runV (As := [.int ((1 : Int32) <<< (x2 &&& 31)), .int ((1 : Int32) <<< (x3 &&& 31))]) (rest := []) ⟨hx, hb, hml, hown, hts⟩ (c_X6_offer l hw) (kRX6_30 (h := 2) hts (Nat.le_trans (Nat.le_of_ble_eq_true rfl) hRf) (Nat.le_trans (Nat.le_of_ble_eq_true rfl) hRl)) (preX6w hK hN hP hD) rfl rfl hl.1 rfl (lv_room (Nat.le_of_ble_eq_true rfl)) dX6_gather_33 ⟨Nat.zero_le _, Nat.zero_le _⟩) hS (fun t H locs ht hw hS => ?_)
      obtain ⟨ylessers_5, ygreaters_5, ysize_5, hw, hP⟩ := hw
      rw [ht] at hP
      have hP : va_P D vwCl (wC q cA Fc_unkept Fc_tablesRead Pg_letters Pg_size Pg_fault Pg_rows Pg_inRow Pg_width Fl_entries Fl_states Fl_columns Fl_moves Fl_stables Fl_amiss Fl_normal ylessers_5 ygreaters_5 ysize_5 Lc_signals Lc_kept Lc_keptFrom Lc_candidates Lc_size Sc_signals Sc_codes Sc_size Ai_codes Ai_bits Cu_seen Cu_inThrees Cu_all Lo_asked Lo_ones Lo_sum Lo_wideSize Lo_sumSize Lo_flickers Lo_ready Wa_at Wa_turns Wa_changes) H := hP
      have hD : va_D A (wC q cA Fc_unkept Fc_tablesRead Pg_letters Pg_size Pg_fault Pg_rows Pg_inRow Pg_width Fl_entries Fl_states Fl_columns Fl_moves Fl_stables Fl_amiss Fl_normal ylessers_5 ygreaters_5 ysize_5 Lc_signals Lc_kept Lc_keptFrom Lc_candidates Lc_size Sc_signals Sc_codes Sc_size Ai_codes Ai_bits Cu_seen Cu_inThrees Cu_all Lo_asked Lo_ones Lo_sum Lo_wideSize Lo_sumSize Lo_flickers Lo_ready Wa_at Wa_turns Wa_changes) := dC hD
      refine lv_iconst (v := (0 : Int32)) hx hb dX6_gather_36 (by decide) ?_
      refine lv_istore (lv' := [(4, .int (0 : Int32)), (0, .ref (q 5)), (1, .ref (q 3)), (2, .int x2), (3, .int x3)]) hx hb dX6_gather_37 hl (by decide) rfl (fun ls hl => ?_)
      obtain ⟨n_9, hw⟩ := hw
      refine t_X6_gather_39 X hK hN (fun ylessers_9 ygreaters_9 ysize_9 hw ls H locs hl hP hD hS => ?_) n_9 _ _ _ _ hw ls _ _ (lv_sub hl [1, 2, 3, 4, 0] rfl) hP hD hS
      obtain ⟨x3_10, e_10⟩ : ∃ z : Int32, z = x3 + (1 : Int32) := ⟨_, rfl⟩
      have hw := hw x3_10 e_10
      refine lv_iinc (v := x3_10) (lv' := [(3, .int x3_10), (0, .ref (q 5)), (1, .ref (q 3)), (2, .int x2)]) hx hb dX6_gather_63 hl (k := 3) rfl (by rw [e_10]; rfl) (by decide) rfl (fun ls hl => ?_)
      refine lv_goto (tgt := 18) hx hb dX6_gather_66 (by decide) ?_
      exact ih _ _ _ _ hw ls _ _ (lv_sub hl [1, 2, 3, 0] rfl) hP hD hS
set_option maxHeartbeats 4000000 in
set_option maxRecDepth 100000 in
theorem t_X6_gather_6 {p : Program} {l : Launch} {e : Env} {R : Room} {s : State} {m : MethodId} {args : Array Value} {below : List Frame} {meth : Method} {c : Code} {A : Nat → Prop} {D : va_G} {q : Nat → Nat} {cA : Nat → ClassId} {Fc_unkept : Int32} {Fc_tablesRead : Int32} {Pg_letters : Nat → Int32} {Pg_size : Int32} {Pg_fault : Int32} {Pg_rows : Int32} {Pg_inRow : Int32} {Pg_width : Int32} {Fl_entries : Nat → Int32} {Fl_states : Int32} {Fl_columns : Int32} {Fl_moves : Int32} {Fl_stables : Int32} {Fl_amiss : Int32} {Fl_normal : Int32} {Lc_signals : Nat → Int32} {Lc_kept : Nat → Int64} {Lc_keptFrom : Nat → Int64} {Lc_candidates : Int32} {Lc_size : Int32} {Sc_signals : Nat → Int32} {Sc_codes : Nat → Int32} {Sc_size : Int32} {Ai_codes : Nat → Int32} {Ai_bits : Int32} {Cu_seen : Nat → Int32} {Cu_inThrees : Nat → Int32} {Cu_all : Int32} {Lo_asked : Nat → Nat → Int32} {Lo_ones : Nat → Nat → Int32} {Lo_sum : Nat → Nat → Int32} {Lo_wideSize : Nat → Int32} {Lo_sumSize : Nat → Int32} {Lo_flickers : Nat → Int32} {Lo_ready : Nat → Int32} {Wa_at : Int32} {Wa_turns : Int32} {Wa_changes : Int32} {post : (Nat → Int32) → (Nat → Int32) → Int32 → Prop} {KE : (Nat → Int32) → (Nat → Int32) → Int32 → Prop} (X : kC p R s m args meth c cX6_gather RX6 5 none 4) (hK : va_K D vwCl (tyC cA) s) (hN : nwC s) (hE : ∀ (Pt_lessers : Nat → Int32) (Pt_greaters : Nat → Int32) (Pt_size : Int32), KE Pt_lessers Pt_greaters Pt_size → ∀ (ls : Array Slot) (H : Heap) (locs : List Loc), lv_has ls 5 [] → va_P D vwCl (wC q cA Fc_unkept Fc_tablesRead Pg_letters Pg_size Pg_fault Pg_rows Pg_inRow Pg_width Fl_entries Fl_states Fl_columns Fl_moves Fl_stables Fl_amiss Fl_normal Pt_lessers Pt_greaters Pt_size Lc_signals Lc_kept Lc_keptFrom Lc_candidates Lc_size Sc_signals Sc_codes Sc_size Ai_codes Ai_bits Cu_seen Cu_inThrees Cu_all Lo_asked Lo_ones Lo_sum Lo_wideSize Lo_sumSize Lo_flickers Lo_ready Wa_at Wa_turns Wa_changes) H → va_D A (wC q cA Fc_unkept Fc_tablesRead Pg_letters Pg_size Pg_fault Pg_rows Pg_inRow Pg_width Fl_entries Fl_states Fl_columns Fl_moves Fl_stables Fl_amiss Fl_normal Pt_lessers Pt_greaters Pt_size Lc_signals Lc_kept Lc_keptFrom Lc_candidates Lc_size Sc_signals Sc_codes Sc_size Ai_codes Ai_bits Cu_seen Cu_inThrees Cu_all Lo_asked Lo_ones Lo_sum Lo_wideSize Lo_sumSize Lo_flickers Lo_ready Wa_at Wa_turns Wa_changes) → va_S A s.heap H locs → W p l e R s m args below meth c H locs 0 0 (MQ below (qWv (Z_X6_gather D q cA Fc_unkept Fc_tablesRead Pg_letters Pg_size Pg_fault Pg_rows Pg_inRow Pg_width Fl_entries Fl_states Fl_columns Fl_moves Fl_stables Fl_amiss Fl_normal Lc_signals Lc_kept Lc_keptFrom Lc_candidates Lc_size Sc_signals Sc_codes Sc_size Ai_codes Ai_bits Cu_seen Cu_inThrees Cu_all Lo_asked Lo_ones Lo_sum Lo_wideSize Lo_sumSize Lo_flickers Lo_ready Wa_at Wa_turns Wa_changes post) A) args s 0 0 A) (F0 m 75 ls [])) : ∀ (n : Nat) (x2 : Int32) (Pt_lessers : Nat → Int32) (Pt_greaters : Nat → Int32) (Pt_size : Int32), w_X6_gather_6 KE Fl_entries Fl_states Fl_columns n x2 Pt_lessers Pt_greaters Pt_size → ∀ (ls : Array Slot) (H : Heap) (locs : List Loc), lv_has ls 5 [(0, .ref (q 5)), (1, .ref (q 3)), (2, .int x2)] → va_P D vwCl (wC q cA Fc_unkept Fc_tablesRead Pg_letters Pg_size Pg_fault Pg_rows Pg_inRow Pg_width Fl_entries Fl_states Fl_columns Fl_moves Fl_stables Fl_amiss Fl_normal Pt_lessers Pt_greaters Pt_size Lc_signals Lc_kept Lc_keptFrom Lc_candidates Lc_size Sc_signals Sc_codes Sc_size Ai_codes Ai_bits Cu_seen Cu_inThrees Cu_all Lo_asked Lo_ones Lo_sum Lo_wideSize Lo_sumSize Lo_flickers Lo_ready Wa_at Wa_turns Wa_changes) H → va_D A (wC q cA Fc_unkept Fc_tablesRead Pg_letters Pg_size Pg_fault Pg_rows Pg_inRow Pg_width Fl_entries Fl_states Fl_columns Fl_moves Fl_stables Fl_amiss Fl_normal Pt_lessers Pt_greaters Pt_size Lc_signals Lc_kept Lc_keptFrom Lc_candidates Lc_size Sc_signals Sc_codes Sc_size Ai_codes Ai_bits Cu_seen Cu_inThrees Cu_all Lo_asked Lo_ones Lo_sum Lo_wideSize Lo_sumSize Lo_flickers Lo_ready Wa_at Wa_turns Wa_changes) → va_S A s.heap H locs → W p l e R s m args below meth c H locs 0 0 (MQ below (qWv (Z_X6_gather D q cA Fc_unkept Fc_tablesRead Pg_letters Pg_size Pg_fault Pg_rows Pg_inRow Pg_width Fl_entries Fl_states Fl_columns Fl_moves Fl_stables Fl_amiss Fl_normal Lc_signals Lc_kept Lc_keptFrom Lc_candidates Lc_size Sc_signals Sc_codes Sc_size Ai_codes Ai_bits Cu_seen Cu_inThrees Cu_all Lo_asked Lo_ones Lo_sum Lo_wideSize Lo_sumSize Lo_flickers Lo_ready Wa_at Wa_turns Wa_changes post) A) args s 0 0 A) (F0 m 6 ls []) := by
  obtain ⟨hx, hb, hml, hown, hts, hr, hlocks, hRf, hRl⟩ := id X
  intro n
  induction n with
  | zero => intro x2 Pt_lessers Pt_greaters Pt_size hw; exact (show False from hw).elim
  | succ n ih =>
    intro x2 Pt_lessers Pt_greaters Pt_size hw ls H locs hl hP hD hS
    refine lv_iload_n hx hb dX6_gather_6 rfl (lv_at hl 2 rfl) ?_
    refine lv_aload_n hx hb dX6_gather_7 rfl (lv_at hl 1 rfl) ?_
    refine gRX6_25 hx hb hown hts hK hN hP dX6_gather_8 ?_
    refine lv_icmp_ge (tgt := 75) hx hb dX6_gather_11 (by decide) (fun c_2 => ?_) (fun c_2 => ?_)
    · have hw := hw.1 c_2
      exact hE _ _ _ hw ls _ _ (lv_sub hl [] rfl) hP hD hS
    · have hw := hw.2 c_2
      refine lv_iload_n hx hb dX6_gather_14 rfl (lv_at hl 2 rfl) ?_
      refine lv_iconst (v := (1 : Int32)) hx hb dX6_gather_15 (by decide) ?_
      refine lv_iadd hx hb dX6_gather_16 ?_
      refine lv_topi (fun x3_3 e_3 => ?_)
      have hw := hw x3_3 e_3
      refine lv_istore_n (lv' := [(3, .int x3_3), (0, .ref (q 5)), (1, .ref (q 3)), (2, .int x2)]) hx hb dX6_gather_17 rfl hl (by decide) rfl (fun ls hl => ?_)
      obtain ⟨n_11, hw⟩ := hw
      refine t_X6_gather_18 X hK hN (fun ylessers_11 ygreaters_11 ysize_11 hw ls H locs hl hP hD hS => ?_) n_11 _ _ _ _ hw ls _ _ (lv_sub hl [1, 2, 3, 0] rfl) hP hD hS
      obtain ⟨x2_12, e_12⟩ : ∃ z : Int32, z = x2 + (1 : Int32) := ⟨_, rfl⟩
      have hw := hw x2_12 e_12
      refine lv_iinc (v := x2_12) (lv' := [(2, .int x2_12), (0, .ref (q 5)), (1, .ref (q 3))]) hx hb dX6_gather_69 hl (k := 2) rfl (by rw [e_12]; rfl) (by decide) rfl (fun ls hl => ?_)
      refine lv_goto (tgt := 6) hx hb dX6_gather_72 (by decide) ?_
      exact ih _ _ _ _ hw ls _ _ (lv_sub hl [1, 2, 0] rfl) hP hD hS
set_option maxHeartbeats 4000000 in
set_option maxRecDepth 100000 in
theorem c_X6_gather (l : Launch) {D : va_G} {q : Nat → Nat} {cA : Nat → ClassId} {Fc_unkept : Int32} {Fc_tablesRead : Int32} {Pg_letters : Nat → Int32} {Pg_size : Int32} {Pg_fault : Int32} {Pg_rows : Int32} {Pg_inRow : Int32} {Pg_width : Int32} {Fl_entries : Nat → Int32} {Fl_states : Int32} {Fl_columns : Int32} {Fl_moves : Int32} {Fl_stables : Int32} {Fl_amiss : Int32} {Fl_normal : Int32} {Pt_lessers : Nat → Int32} {Pt_greaters : Nat → Int32} {Pt_size : Int32} {Lc_signals : Nat → Int32} {Lc_kept : Nat → Int64} {Lc_keptFrom : Nat → Int64} {Lc_candidates : Int32} {Lc_size : Int32} {Sc_signals : Nat → Int32} {Sc_codes : Nat → Int32} {Sc_size : Int32} {Ai_codes : Nat → Int32} {Ai_bits : Int32} {Cu_seen : Nat → Int32} {Cu_inThrees : Nat → Int32} {Cu_all : Int32} {Lo_asked : Nat → Nat → Int32} {Lo_ones : Nat → Nat → Int32} {Lo_sum : Nat → Nat → Int32} {Lo_wideSize : Nat → Int32} {Lo_sumSize : Nat → Int32} {Lo_flickers : Nat → Int32} {Lo_ready : Nat → Int32} {Wa_at : Int32} {Wa_turns : Int32} {Wa_changes : Int32} {A : Nat → Prop} {post : (Nat → Int32) → (Nat → Int32) → Int32 → Prop}  (hw : wp_X6_gather post Fl_entries Fl_states Fl_columns Pt_lessers Pt_greaters Pt_size ) : Met l yX6_gather (Cond.code yX6_gather cX6_gather 5 none :: wsL_law) (rmH 4) (va_Pc [.ref (q 5), .ref (q 3)] (fun U => va_P D vwCl (wC q cA Fc_unkept Fc_tablesRead Pg_letters Pg_size Pg_fault Pg_rows Pg_inRow Pg_width Fl_entries Fl_states Fl_columns Fl_moves Fl_stables Fl_amiss Fl_normal Pt_lessers Pt_greaters Pt_size Lc_signals Lc_kept Lc_keptFrom Lc_candidates Lc_size Sc_signals Sc_codes Sc_size Ai_codes Ai_bits Cu_seen Cu_inThrees Cu_all Lo_asked Lo_ones Lo_sum Lo_wideSize Lo_sumSize Lo_flickers Lo_ready Wa_at Wa_turns Wa_changes) U.heap ∧ va_K D vwCl (tyC cA) U ∧ nwC U ∧ va_D A (wC q cA Fc_unkept Fc_tablesRead Pg_letters Pg_size Pg_fault Pg_rows Pg_inRow Pg_width Fl_entries Fl_states Fl_columns Fl_moves Fl_stables Fl_amiss Fl_normal Pt_lessers Pt_greaters Pt_size Lc_signals Lc_kept Lc_keptFrom Lc_candidates Lc_size Sc_signals Sc_codes Sc_size Ai_codes Ai_bits Cu_seen Cu_inThrees Cu_all Lo_asked Lo_ones Lo_sum Lo_wideSize Lo_sumSize Lo_flickers Lo_ready Wa_at Wa_turns Wa_changes))) (qWv (Z_X6_gather D q cA Fc_unkept Fc_tablesRead Pg_letters Pg_size Pg_fault Pg_rows Pg_inRow Pg_width Fl_entries Fl_states Fl_columns Fl_moves Fl_stables Fl_amiss Fl_normal Lc_signals Lc_kept Lc_keptFrom Lc_candidates Lc_size Sc_signals Sc_codes Sc_size Ai_codes Ai_bits Cu_seen Cu_inThrees Cu_all Lo_asked Lo_ones Lo_sum Lo_wideSize Lo_sumSize Lo_flickers Lo_ready Wa_at Wa_turns Wa_changes post) A) 0 0 A := by
  refine Met.ofW (cc := cX6_gather) (maxL := 5) (ret := none) (by decide) rfl ?_
  intro p e s m args below meth c s₁ B hml hv
  obtain ⟨rfl, hP, hK, hN, hD⟩ := hv
  have X : kC p (headSpec (Cond.code yX6_gather cX6_gather 5 none :: wsL_law) (rmH 4)).room s m _ meth c cX6_gather RX6 5 none 4 := ⟨B.exec, B.bytes, hml, findClass_of_methodNamed B.named, fun w h => atoms_spec (ws := Cond.code yX6_gather cX6_gather 5 none :: wsL_law) B.pre w (List.mem_cons_of_mem _ h), B.returns, B.notSynchronized, Nat.le_refl _, Nat.le_refl _⟩
  obtain ⟨hx, hb, hml, hown, hts, hr, hlocks, hRf, hRl⟩ := id X
  have hS : va_S A s.heap s.heap [] := va_S.rf
  have hl := lv_entry ([.ref (q 5), .ref (q 3)]) (n := 5) (Nat.le_of_ble_eq_true rfl)
  rw [lg_entry_eq]
  generalize (lg_sl ([.ref (q 5), .ref (q 3)]) ++ List.replicate (5 - (lg_sl ([.ref (q 5), .ref (q 3)])).length) Slot.unset).toArray = ls at hl ⊢
  have hl : lv_has ls 5 [(0, .ref (q 5)), (1, .ref (q 3))] := hl
  refine lv_aload_n hx hb dX6_gather_0 rfl (lv_at hl 0 rfl) ?_
  refine wr_v (va_runV (As := []) (rest := []) ⟨hx, hb, hml, hown, hts⟩ (c_X6_empty l hw) (kRX6_22 (h := 0) hts (Nat.le_trans (Nat.le_of_ble_eq_true rfl) hRf) (Nat.le_trans (Nat.le_of_ble_eq_true rfl) hRl)) (preX6w hK hN hP hD) rfl rfl hl.1 rfl (lv_room (Nat.le_of_ble_eq_true rfl)) dX6_gather_1 ⟨Nat.zero_le _, Nat.zero_le _⟩) hS (fun t H locs ht hw hS => ?_)
  obtain ⟨ysize_1, hw, hP⟩ := hw
  rw [ht] at hP
  have hP : va_P D vwCl (wC q cA Fc_unkept Fc_tablesRead Pg_letters Pg_size Pg_fault Pg_rows Pg_inRow Pg_width Fl_entries Fl_states Fl_columns Fl_moves Fl_stables Fl_amiss Fl_normal Pt_lessers Pt_greaters ysize_1 Lc_signals Lc_kept Lc_keptFrom Lc_candidates Lc_size Sc_signals Sc_codes Sc_size Ai_codes Ai_bits Cu_seen Cu_inThrees Cu_all Lo_asked Lo_ones Lo_sum Lo_wideSize Lo_sumSize Lo_flickers Lo_ready Wa_at Wa_turns Wa_changes) H := hP
  have hD : va_D A (wC q cA Fc_unkept Fc_tablesRead Pg_letters Pg_size Pg_fault Pg_rows Pg_inRow Pg_width Fl_entries Fl_states Fl_columns Fl_moves Fl_stables Fl_amiss Fl_normal Pt_lessers Pt_greaters ysize_1 Lc_signals Lc_kept Lc_keptFrom Lc_candidates Lc_size Sc_signals Sc_codes Sc_size Ai_codes Ai_bits Cu_seen Cu_inThrees Cu_all Lo_asked Lo_ones Lo_sum Lo_wideSize Lo_sumSize Lo_flickers Lo_ready Wa_at Wa_turns Wa_changes) := dC hD
  refine lv_iconst (v := (0 : Int32)) hx hb dX6_gather_4 (by decide) ?_
  refine lv_istore_n (lv' := [(2, .int (0 : Int32)), (0, .ref (q 5)), (1, .ref (q 3))]) hx hb dX6_gather_5 rfl hl (by decide) rfl (fun ls hl => ?_)
  obtain ⟨n_13, hw⟩ := hw
  refine t_X6_gather_6 X hK hN (fun ylessers_13 ygreaters_13 ysize_13 hw ls H locs hl hP hD hS => ?_) n_13 _ _ _ _ hw ls _ _ (lv_sub hl [1, 2, 0] rfl) hP hD hS
  exact rw_v hx hb hr hlocks (fun t ht => ⟨ylessers_13, ygreaters_13, ysize_13, hw, by rw [ht]; exact hP⟩) hS dX6_gather_75
