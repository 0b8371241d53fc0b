abbrev Z_X3_forget (D : va_G) (q : Nat → Nat) (cA : Nat → ClassId) (Fc_unkept : Int32) (Fc_tablesRead : Int32) (Pg_letters : Nat → Int32) (Pg_size : Int32) (Pg_fault : Int32) (Pg_rows : Int32) (Pg_inRow : Int32) (Pg_width : Int32) (Fl_entries : Nat → Int32) (Fl_states : Int32) (Fl_columns : Int32) (Fl_moves : Int32) (Fl_stables : Int32) (Fl_amiss : Int32) (Fl_normal : Int32) (Pt_lessers : Nat → Int32) (Pt_greaters : Nat → Int32) (Pt_size : Int32) (Lc_signals : Nat → Int32) (Lc_kept : Nat → Int64) (Lc_keptFrom : Nat → Int64) (Lc_candidates : Int32) (Sc_signals : Nat → Int32) (Sc_codes : Nat → Int32) (Sc_size : Int32) (Ai_codes : Nat → Int32) (Ai_bits : Int32) (Cu_seen : Nat → Int32) (Cu_inThrees : Nat → Int32) (Cu_all : Int32) (Lo_asked : Nat → Nat → Int32) (Lo_ones : Nat → Nat → Int32) (Lo_sum : Nat → Nat → Int32) (Lo_wideSize : Nat → Int32) (Lo_sumSize : Nat → Int32) (Lo_flickers : Nat → Int32) (Lo_ready : Nat → Int32) (Wa_at : Int32) (Wa_turns : Int32) (Wa_changes : Int32) (post : Int32 → Prop) : State → Prop := fun t => ∃ (y_Lc_size : Int32), post y_Lc_size ∧ va_P D vwCl (wC q cA Fc_unkept Fc_tablesRead Pg_letters Pg_size Pg_fault Pg_rows Pg_inRow Pg_width Fl_entries Fl_states Fl_columns Fl_moves Fl_stables Fl_amiss Fl_normal Pt_lessers Pt_greaters Pt_size Lc_signals Lc_kept Lc_keptFrom Lc_candidates y_Lc_size Sc_signals Sc_codes Sc_size Ai_codes Ai_bits Cu_seen Cu_inThrees Cu_all Lo_asked Lo_ones Lo_sum Lo_wideSize Lo_sumSize Lo_flickers Lo_ready Wa_at Wa_turns Wa_changes) t.heap
set_option maxHeartbeats 4000000 in
set_option maxRecDepth 100000 in
theorem c_X3_forget (l : Launch) {D : va_G} {q : Nat → Nat} {cA : Nat → ClassId} {Fc_unkept : Int32} {Fc_tablesRead : Int32} {Pg_letters : Nat → Int32} {Pg_size : Int32} {Pg_fault : Int32} {Pg_rows : Int32} {Pg_inRow : Int32} {Pg_width : Int32} {Fl_entries : Nat → Int32} {Fl_states : Int32} {Fl_columns : Int32} {Fl_moves : Int32} {Fl_stables : Int32} {Fl_amiss : Int32} {Fl_normal : Int32} {Pt_lessers : Nat → Int32} {Pt_greaters : Nat → Int32} {Pt_size : Int32} {Lc_signals : Nat → Int32} {Lc_kept : Nat → Int64} {Lc_keptFrom : Nat → Int64} {Lc_candidates : Int32} {Lc_size : Int32} {Sc_signals : Nat → Int32} {Sc_codes : Nat → Int32} {Sc_size : Int32} {Ai_codes : Nat → Int32} {Ai_bits : Int32} {Cu_seen : Nat → Int32} {Cu_inThrees : Nat → Int32} {Cu_all : Int32} {Lo_asked : Nat → Nat → Int32} {Lo_ones : Nat → Nat → Int32} {Lo_sum : Nat → Nat → Int32} {Lo_wideSize : Nat → Int32} {Lo_sumSize : Nat → Int32} {Lo_flickers : Nat → Int32} {Lo_ready : Nat → Int32} {Wa_at : Int32} {Wa_turns : Int32} {Wa_changes : Int32} {A : Nat → Prop} {post : Int32 → Prop}  (hw : wp_X3_forget post Lc_size ) : Met l yX3_forget (Cond.code yX3_forget cX3_forget 1 none :: wsL_law) (rmH 0) (va_Pc [.ref (q 8)] (fun U => va_P D vwCl (wC q cA Fc_unkept Fc_tablesRead Pg_letters Pg_size Pg_fault Pg_rows Pg_inRow Pg_width Fl_entries Fl_states Fl_columns Fl_moves Fl_stables Fl_amiss Fl_normal Pt_lessers Pt_greaters Pt_size Lc_signals Lc_kept Lc_keptFrom Lc_candidates Lc_size Sc_signals Sc_codes Sc_size Ai_codes Ai_bits Cu_seen Cu_inThrees Cu_all Lo_asked Lo_ones Lo_sum Lo_wideSize Lo_sumSize Lo_flickers Lo_ready Wa_at Wa_turns Wa_changes) U.heap ∧ va_K D vwCl (tyC cA) U ∧ nwC U ∧ va_D A (wC q cA Fc_unkept Fc_tablesRead Pg_letters Pg_size Pg_fault Pg_rows Pg_inRow Pg_width Fl_entries Fl_states Fl_columns Fl_moves Fl_stables Fl_amiss Fl_normal Pt_lessers Pt_greaters Pt_size Lc_signals Lc_kept Lc_keptFrom Lc_candidates Lc_size Sc_signals Sc_codes Sc_size Ai_codes Ai_bits Cu_seen Cu_inThrees Cu_all Lo_asked Lo_ones Lo_sum Lo_wideSize Lo_sumSize Lo_flickers Lo_ready Wa_at Wa_turns Wa_changes))) (qWv (Z_X3_forget D q cA Fc_unkept Fc_tablesRead Pg_letters Pg_size Pg_fault Pg_rows Pg_inRow Pg_width Fl_entries Fl_states Fl_columns Fl_moves Fl_stables Fl_amiss Fl_normal Pt_lessers Pt_greaters Pt_size Lc_signals Lc_kept Lc_keptFrom Lc_candidates Sc_signals Sc_codes Sc_size Ai_codes Ai_bits Cu_seen Cu_inThrees Cu_all Lo_asked Lo_ones Lo_sum Lo_wideSize Lo_sumSize Lo_flickers Lo_ready Wa_at Wa_turns Wa_changes post) A) 0 0 A := by
  refine Met.ofW (cc := cX3_forget) (maxL := 1) (ret := none) (by decide) rfl ?_
  intro p e s m args below meth c s₁ B hml hv
  obtain ⟨rfl, hP, hK, hN, hD⟩ := hv
  have X : kC p (headSpec (Cond.code yX3_forget cX3_forget 1 none :: wsL_law) (rmH 0)).room s m _ meth c cX3_forget RX3 1 none 0 := ⟨B.exec, B.bytes, hml, findClass_of_methodNamed B.named, fun w h => atoms_spec (ws := Cond.code yX3_forget cX3_forget 1 none :: wsL_law) B.pre w (List.mem_cons_of_mem _ h), B.returns, B.notSynchronized, Nat.le_refl _, Nat.le_refl _⟩
  obtain ⟨hx, hb, hml, hown, hts, hr, hlocks, hRf, hRl⟩ := id X
  have hS : va_S A s.heap s.heap [] := va_S.rf
  have hl := lv_entry ([.ref (q 8)]) (n := 1) (Nat.le_of_ble_eq_true rfl)
  rw [lg_entry_eq]
  generalize (lg_sl ([.ref (q 8)]) ++ List.replicate (1 - (lg_sl ([.ref (q 8)])).length) Slot.unset).toArray = ls at hl ⊢
  have hl : lv_has ls 1 [(0, .ref (q 8))] := hl
  refine lv_aload_n hx hb dX3_forget_0 rfl (lv_at hl 0 rfl) ?_
  refine lv_iconst (v := (0 : Int32)) hx hb dX3_forget_1 (by decide) ?_
  refine pRX3_22 hx hb hown hts hK hP hD hS dX3_forget_2 (fun H locs hP hD hS => ?_)
  exact rw_v hx hb hr hlocks (fun t ht => ⟨(0 : Int32), hw, by rw [ht]; exact hP⟩) hS dX3_forget_5
abbrev Z_X7_empty (D : va_G) (q : Nat → Nat) (cA : Nat → ClassId) (Fc_unkept : Int32) (Fc_tablesRead : Int32) (Pg_letters : Nat → Int32) (Pg_size : Int32) (Pg_fault : Int32) (Pg_rows : Int32) (Pg_inRow : Int32) (Pg_width : Int32) (Fl_entries : Nat → Int32) (Fl_states : Int32) (Fl_columns : Int32) (Fl_moves : Int32) (Fl_stables : Int32) (Fl_amiss : Int32) (Fl_normal : Int32) (Pt_lessers : Nat → Int32) (Pt_greaters : Nat → Int32) (Pt_size : Int32) (Lc_signals : Nat → Int32) (Lc_kept : Nat → Int64) (Lc_keptFrom : Nat → Int64) (Lc_candidates : Int32) (Lc_size : Int32) (Sc_signals : Nat → Int32) (Ai_codes : Nat → Int32) (Ai_bits : Int32) (Cu_seen : Nat → Int32) (Cu_inThrees : Nat → Int32) (Cu_all : Int32) (Lo_asked : Nat → Nat → Int32) (Lo_ones : Nat → Nat → Int32) (Lo_sum : Nat → Nat → Int32) (Lo_wideSize : Nat → Int32) (Lo_sumSize : Nat → Int32) (Lo_flickers : Nat → Int32) (Lo_ready : Nat → Int32) (Wa_at : Int32) (Wa_turns : Int32) (Wa_changes : Int32) (post : (Nat → Int32) → Int32 → Prop) : State → Prop := fun t => ∃ (y_Sc_codes : Nat → Int32) (y_Sc_size : Int32), post y_Sc_codes y_Sc_size ∧ va_P D vwCl (wC q cA Fc_unkept Fc_tablesRead Pg_letters Pg_size Pg_fault Pg_rows Pg_inRow Pg_width Fl_entries Fl_states Fl_columns Fl_moves Fl_stables Fl_amiss Fl_normal Pt_lessers Pt_greaters Pt_size Lc_signals Lc_kept Lc_keptFrom Lc_candidates Lc_size Sc_signals y_Sc_codes y_Sc_size Ai_codes Ai_bits Cu_seen Cu_inThrees Cu_all Lo_asked Lo_ones Lo_sum Lo_wideSize Lo_sumSize Lo_flickers Lo_ready Wa_at Wa_turns Wa_changes) t.heap
set_option maxHeartbeats 4000000 in
set_option maxRecDepth 100000 in
theorem t_X7_empty_7 {p : Program} {l : Launch} {e : Env} {R : Room} {s : State} {m : MethodId} {args : Array Value} {below : List Frame} {meth : Method} {c : Code} {A : Nat → Prop} {D : va_G} {q : Nat → Nat} {cA : Nat → ClassId} {Fc_unkept : Int32} {Fc_tablesRead : Int32} {Pg_letters : Nat → Int32} {Pg_size : Int32} {Pg_fault : Int32} {Pg_rows : Int32} {Pg_inRow : Int32} {Pg_width : Int32} {Fl_entries : Nat → Int32} {Fl_states : Int32} {Fl_columns : Int32} {Fl_moves : Int32} {Fl_stables : Int32} {Fl_amiss : Int32} {Fl_normal : Int32} {Pt_lessers : Nat → Int32} {Pt_greaters : Nat → Int32} {Pt_size : Int32} {Lc_signals : Nat → Int32} {Lc_kept : Nat → Int64} {Lc_keptFrom : Nat → Int64} {Lc_candidates : Int32} {Lc_size : Int32} {Sc_signals : Nat → Int32} {Sc_size : Int32} {Ai_codes : Nat → Int32} {Ai_bits : Int32} {Cu_seen : Nat → Int32} {Cu_inThrees : Nat → Int32} {Cu_all : Int32} {Lo_asked : Nat → Nat → Int32} {Lo_ones : Nat → Nat → Int32} {Lo_sum : Nat → Nat → Int32} {Lo_wideSize : Nat → Int32} {Lo_sumSize : Nat → Int32} {Lo_flickers : Nat → Int32} {Lo_ready : Nat → Int32} {Wa_at : Int32} {Wa_turns : Int32} {Wa_changes : Int32} {post : (Nat → Int32) → Int32 → Prop} {KE : (Nat → Int32) → Prop} (X : kC p R s m args meth c cX7_empty RX7 2 none 0) (hK : va_K D vwCl (tyC cA) s) (hN : nwC s) (hE : ∀ (Sc_codes : Nat → Int32), KE Sc_codes → ∀ (ls : Array Slot) (H : Heap) (locs : List Loc), lv_has ls 2 [] → va_P D vwCl (wC q cA Fc_unkept Fc_tablesRead Pg_letters Pg_size Pg_fault Pg_rows Pg_inRow Pg_width Fl_entries Fl_states Fl_columns Fl_moves Fl_stables Fl_amiss Fl_normal Pt_lessers Pt_greaters Pt_size Lc_signals Lc_kept Lc_keptFrom Lc_candidates Lc_size Sc_signals Sc_codes Sc_size Ai_codes Ai_bits Cu_seen Cu_inThrees Cu_all Lo_asked Lo_ones Lo_sum Lo_wideSize Lo_sumSize Lo_flickers Lo_ready Wa_at Wa_turns Wa_changes) H → va_D A (wC q cA Fc_unkept Fc_tablesRead Pg_letters Pg_size Pg_fault Pg_rows Pg_inRow Pg_width Fl_entries Fl_states Fl_columns Fl_moves Fl_stables Fl_amiss Fl_normal Pt_lessers Pt_greaters Pt_size Lc_signals Lc_kept Lc_keptFrom Lc_candidates Lc_size Sc_signals Sc_codes Sc_size Ai_codes Ai_bits Cu_seen Cu_inThrees Cu_all Lo_asked Lo_ones Lo_sum Lo_wideSize Lo_sumSize Lo_flickers Lo_ready Wa_at Wa_turns Wa_changes) → va_S A s.heap H locs → W p l e R s m args below meth c H locs 0 0 (MQ below (qWv (Z_X7_empty D q cA Fc_unkept Fc_tablesRead Pg_letters Pg_size Pg_fault Pg_rows Pg_inRow Pg_width Fl_entries Fl_states Fl_columns Fl_moves Fl_stables Fl_amiss Fl_normal Pt_lessers Pt_greaters Pt_size Lc_signals Lc_kept Lc_keptFrom Lc_candidates Lc_size Sc_signals Ai_codes Ai_bits Cu_seen Cu_inThrees Cu_all Lo_asked Lo_ones Lo_sum Lo_wideSize Lo_sumSize Lo_flickers Lo_ready Wa_at Wa_turns Wa_changes post) A) args s 0 0 A) (F0 m 26 ls [])) : ∀ (n : Nat) (x1 : Int32) (Sc_codes : Nat → Int32), w_X7_empty_7 KE n x1 Sc_codes → ∀ (ls : Array Slot) (H : Heap) (locs : List Loc), lv_has ls 2 [(0, .ref (q 12)), (1, .int x1)] → va_P D vwCl (wC q cA Fc_unkept Fc_tablesRead Pg_letters Pg_size Pg_fault Pg_rows Pg_inRow Pg_width Fl_entries Fl_states Fl_columns Fl_moves Fl_stables Fl_amiss Fl_normal Pt_lessers Pt_greaters Pt_size Lc_signals Lc_kept Lc_keptFrom Lc_candidates Lc_size Sc_signals Sc_codes Sc_size Ai_codes Ai_bits Cu_seen Cu_inThrees Cu_all Lo_asked Lo_ones Lo_sum Lo_wideSize Lo_sumSize Lo_flickers Lo_ready Wa_at Wa_turns Wa_changes) H → va_D A (wC q cA Fc_unkept Fc_tablesRead Pg_letters Pg_size Pg_fault Pg_rows Pg_inRow Pg_width Fl_entries Fl_states Fl_columns Fl_moves Fl_stables Fl_amiss Fl_normal Pt_lessers Pt_greaters Pt_size Lc_signals Lc_kept Lc_keptFrom Lc_candidates Lc_size Sc_signals Sc_codes Sc_size Ai_codes Ai_bits Cu_seen Cu_inThrees Cu_all Lo_asked Lo_ones Lo_sum Lo_wideSize Lo_sumSize Lo_flickers Lo_ready Wa_at Wa_turns Wa_changes) → va_S A s.heap H locs → W p l e R s m args below meth c H locs 0 0 (MQ below (qWv (Z_X7_empty D q cA Fc_unkept Fc_tablesRead Pg_letters Pg_size Pg_fault Pg_rows Pg_inRow Pg_width Fl_entries Fl_states Fl_columns Fl_moves Fl_stables Fl_amiss Fl_normal Pt_lessers Pt_greaters Pt_size Lc_signals Lc_kept Lc_keptFrom Lc_candidates Lc_size Sc_signals Ai_codes Ai_bits Cu_seen Cu_inThrees Cu_all Lo_asked Lo_ones Lo_sum Lo_wideSize Lo_sumSize Lo_flickers Lo_ready Wa_at Wa_turns Wa_changes post) A) args s 0 0 A) (F0 m 7 ls []) := by
  obtain ⟨hx, hb, hml, hown, hts, hr, hlocks, hRf, hRl⟩ := id X
  intro n
  induction n with
  | zero => intro x1 Sc_codes hw; exact (show False from hw).elim
  | succ n ih =>
    intro x1 Sc_codes hw ls H locs hl hP hD hS
    refine lv_iload_n hx hb dX7_empty_7 rfl (lv_at hl 1 rfl) ?_
    refine lv_bipush (v := (6 : Int32)) hx hb dX7_empty_8 (by decide +kernel) ?_
    refine lv_icmp_ge (tgt := 26) hx hb dX7_empty_10 (by decide) (fun c_1 => ?_) (fun c_1 => ?_)
    · have hw := hw.1 c_1
      exact hE _ hw ls _ _ (lv_sub hl [] rfl) hP hD hS
    · have hw := hw.2 c_1
      refine lv_aload_n hx hb dX7_empty_13 rfl (lv_at hl 0 rfl) ?_
      refine gRX7_15 hx hb hown hts hK hP dX7_empty_14 ?_
      refine lv_iload_n hx hb dX7_empty_17 rfl (lv_at hl 1 rfl) ?_
      refine lv_iconst (v := (0 : Int32)) hx hb dX7_empty_18 (by decide) ?_
      have h_2 := hw.1
      have hw := hw.2
      refine st_Sc_codes hx hb hK hP hD hS h_2 dX7_empty_19 (fun H locs a_2 e_2 hP hD hS => ?_)
      have hw := hw a_2 e_2
      obtain ⟨x1_3, e_3⟩ : ∃ z : Int32, z = x1 + (1 : Int32) := ⟨_, rfl⟩
      have hw := hw x1_3 e_3
      refine lv_iinc (v := x1_3) (lv' := [(1, .int x1_3), (0, .ref (q 12))]) hx hb dX7_empty_20 hl (k := 1) rfl (by rw [e_3]; rfl) (by decide) rfl (fun ls hl => ?_)
      refine lv_goto (tgt := 7) hx hb dX7_empty_23 (by decide) ?_
      exact ih _ _ hw ls _ _ (lv_sub hl [1, 0] rfl) hP hD hS
set_option maxHeartbeats 4000000 in
set_option maxRecDepth 100000 in
theorem c_X7_empty (l : Launch) {D : va_G} {q : Nat → Nat} {cA : Nat → ClassId} {Fc_unkept : Int32} {Fc_tablesRead : Int32} {Pg_letters : Nat → Int32} {Pg_size : Int32} {Pg_fault : Int32} {Pg_rows : Int32} {Pg_inRow : Int32} {Pg_width : Int32} {Fl_entries : Nat → Int32} {Fl_states : Int32} {Fl_columns : Int32} {Fl_moves : Int32} {Fl_stables : Int32} {Fl_amiss : Int32} {Fl_normal : Int32} {Pt_lessers : Nat → Int32} {Pt_greaters : Nat → Int32} {Pt_size : Int32} {Lc_signals : Nat → Int32} {Lc_kept : Nat → Int64} {Lc_keptFrom : Nat → Int64} {Lc_candidates : Int32} {Lc_size : Int32} {Sc_signals : Nat → Int32} {Sc_codes : Nat → Int32} {Sc_size : Int32} {Ai_codes : Nat → Int32} {Ai_bits : Int32} {Cu_seen : Nat → Int32} {Cu_inThrees : Nat → Int32} {Cu_all : Int32} {Lo_asked : Nat → Nat → Int32} {Lo_ones : Nat → Nat → Int32} {Lo_sum : Nat → Nat → Int32} {Lo_wideSize : Nat → Int32} {Lo_sumSize : Nat → Int32} {Lo_flickers : Nat → Int32} {Lo_ready : Nat → Int32} {Wa_at : Int32} {Wa_turns : Int32} {Wa_changes : Int32} {A : Nat → Prop} {post : (Nat → Int32) → Int32 → Prop}  (hw : wp_X7_empty post Sc_codes Sc_size ) : Met l yX7_empty (Cond.code yX7_empty cX7_empty 2 none :: wsL_law) (rmH 0) (va_Pc [.ref (q 12)] (fun U => va_P D vwCl (wC q cA Fc_unkept Fc_tablesRead Pg_letters Pg_size Pg_fault Pg_rows Pg_inRow Pg_width Fl_entries Fl_states Fl_columns Fl_moves Fl_stables Fl_amiss Fl_normal Pt_lessers Pt_greaters Pt_size Lc_signals Lc_kept Lc_keptFrom Lc_candidates Lc_size Sc_signals Sc_codes Sc_size Ai_codes Ai_bits Cu_seen Cu_inThrees Cu_all Lo_asked Lo_ones Lo_sum Lo_wideSize Lo_sumSize Lo_flickers Lo_ready Wa_at Wa_turns Wa_changes) U.heap ∧ va_K D vwCl (tyC cA) U ∧ nwC U ∧ va_D A (wC q cA Fc_unkept Fc_tablesRead Pg_letters Pg_size Pg_fault Pg_rows Pg_inRow Pg_width Fl_entries Fl_states Fl_columns Fl_moves Fl_stables Fl_amiss Fl_normal Pt_lessers Pt_greaters Pt_size Lc_signals Lc_kept Lc_keptFrom Lc_candidates Lc_size Sc_signals Sc_codes Sc_size Ai_codes Ai_bits Cu_seen Cu_inThrees Cu_all Lo_asked Lo_ones Lo_sum Lo_wideSize Lo_sumSize Lo_flickers Lo_ready Wa_at Wa_turns Wa_changes))) (qWv (Z_X7_empty D q cA Fc_unkept Fc_tablesRead Pg_letters Pg_size Pg_fault Pg_rows Pg_inRow Pg_width Fl_entries Fl_states Fl_columns Fl_moves Fl_stables Fl_amiss Fl_normal Pt_lessers Pt_greaters Pt_size Lc_signals Lc_kept Lc_keptFrom Lc_candidates Lc_size Sc_signals Ai_codes Ai_bits Cu_seen Cu_inThrees Cu_all Lo_asked Lo_ones Lo_sum Lo_wideSize Lo_sumSize Lo_flickers Lo_ready Wa_at Wa_turns Wa_changes post) A) 0 0 A := by
  refine Met.ofW (cc := cX7_empty) (maxL := 2) (ret := none) (by decide) rfl ?_
  intro p e s m args below meth c s₁ B hml hv
  obtain ⟨rfl, hP, hK, hN, hD⟩ := hv
  have X : kC p (headSpec (Cond.code yX7_empty cX7_empty 2 none :: wsL_law) (rmH 0)).room s m _ meth c cX7_empty RX7 2 none 0 := ⟨B.exec, B.bytes, hml, findClass_of_methodNamed B.named, fun w h => atoms_spec (ws := Cond.code yX7_empty cX7_empty 2 none :: wsL_law) B.pre w (List.mem_cons_of_mem _ h), B.returns, B.notSynchronized, Nat.le_refl _, Nat.le_refl _⟩
  obtain ⟨hx, hb, hml, hown, hts, hr, hlocks, hRf, hRl⟩ := id X
  have hS : va_S A s.heap s.heap [] := va_S.rf
  have hl := lv_entry ([.ref (q 12)]) (n := 2) (Nat.le_of_ble_eq_true rfl)
  rw [lg_entry_eq]
  generalize (lg_sl ([.ref (q 12)]) ++ List.replicate (2 - (lg_sl ([.ref (q 12)])).length) Slot.unset).toArray = ls at hl ⊢
  have hl : lv_has ls 2 [(0, .ref (q 12))] := hl
  refine lv_aload_n hx hb dX7_empty_0 rfl (lv_at hl 0 rfl) ?_
  refine lv_iconst (v := (0 : Int32)) hx hb dX7_empty_1 (by decide) ?_
  refine pRX7_18 hx hb hown hts hK hP hD hS dX7_empty_2 (fun H locs hP hD hS => ?_)
  refine lv_iconst (v := (0 : Int32)) hx hb dX7_empty_5 (by decide) ?_
  refine lv_istore_n (lv' := [(1, .int (0 : Int32)), (0, .ref (q 12))]) hx hb dX7_empty_6 rfl hl (by decide) rfl (fun ls hl => ?_)
  obtain ⟨n_4, hw⟩ := hw
  refine t_X7_empty_7 X hK hN (fun ycodes_4 hw ls H locs hl hP hD hS => ?_) n_4 _ _ hw ls _ _ (lv_sub hl [1, 0] rfl) hP hD hS
  exact rw_v hx hb hr hlocks (fun t ht => ⟨ycodes_4, (0 : Int32), hw, by rw [ht]; exact hP⟩) hS dX7_empty_26
abbrev Z_X7_add (D : va_G) (q : Nat → Nat) (cA : Nat → ClassId) (Fc_unkept : Int32) (Fc_tablesRead : Int32) (Pg_letters : Nat → Int32) (Pg_size : Int32) (Pg_fault : Int32) (Pg_rows : Int32) (Pg_inRow : Int32) (Pg_width : Int32) (Fl_entries : Nat → Int32) (Fl_states : Int32) (Fl_columns : Int32) (Fl_moves : Int32) (Fl_stables : Int32) (Fl_amiss : Int32) (Fl_normal : Int32) (Pt_lessers : Nat → Int32) (Pt_greaters : Nat → Int32) (Pt_size : Int32) (Lc_signals : Nat → Int32) (Lc_kept : Nat → Int64) (Lc_keptFrom : Nat → Int64) (Lc_candidates : Int32) (Lc_size : Int32) (Ai_codes : Nat → Int32) (Ai_bits : Int32) (Cu_seen : Nat → Int32) (Cu_inThrees : Nat → Int32) (Cu_all : Int32) (Lo_asked : Nat → Nat → Int32) (Lo_ones : Nat → Nat → Int32) (Lo_sum : Nat → Nat → Int32) (Lo_wideSize : Nat → Int32) (Lo_sumSize : Nat → Int32) (Lo_flickers : Nat → Int32) (Lo_ready : Nat → Int32) (Wa_at : Int32) (Wa_turns : Int32) (Wa_changes : Int32) (post : Int32 → (Nat → Int32) → (Nat → Int32) → Int32 → Prop) : Int32 → State → Prop := fun r t => ∃ (y_Sc_signals : Nat → Int32) (y_Sc_codes : Nat → Int32) (y_Sc_size : Int32), post r y_Sc_signals y_Sc_codes y_Sc_size ∧ va_P D vwCl (wC q cA Fc_unkept Fc_tablesRead Pg_letters Pg_size Pg_fault Pg_rows Pg_inRow Pg_width Fl_entries Fl_states Fl_columns Fl_moves Fl_stables Fl_amiss Fl_normal Pt_lessers Pt_greaters Pt_size Lc_signals Lc_kept Lc_keptFrom Lc_candidates Lc_size y_Sc_signals y_Sc_codes y_Sc_size Ai_codes Ai_bits Cu_seen Cu_inThrees Cu_all Lo_asked Lo_ones Lo_sum Lo_wideSize Lo_sumSize Lo_flickers Lo_ready Wa_at Wa_turns Wa_changes) t.heap
set_option maxHeartbeats 4000000 in
set_option maxRecDepth 100000 in
theorem t_X7_add_22 {p : Program} {l : Launch} {e : Env} {R : Room} {s : State} {m : MethodId} {args : Array Value} {below : List Frame} {meth : Method} {c : Code} {A : Nat → Prop} {D : va_G} {q : Nat → Nat} {cA : Nat → ClassId} {Fc_unkept : Int32} {Fc_tablesRead : Int32} {Pg_letters : Nat → Int32} {Pg_size : Int32} {Pg_fault : Int32} {Pg_rows : Int32} {Pg_inRow : Int32} {Pg_width : Int32} {Fl_entries : Nat → Int32} {Fl_states : Int32} {Fl_columns : Int32} {Fl_moves : Int32} {Fl_stables : Int32} {Fl_amiss : Int32} {Fl_normal : Int32} {Pt_lessers : Nat → Int32} {Pt_greaters : Nat → Int32} {Pt_size : Int32} {Lc_signals : Nat → Int32} {Lc_kept : Nat → Int64} {Lc_keptFrom : Nat → Int64} {Lc_candidates : Int32} {Lc_size : Int32} {Sc_signals : Nat → Int32} {Sc_size : Int32} {Ai_codes : Nat → Int32} {Ai_bits : Int32} {Cu_seen : Nat → Int32} {Cu_inThrees : Nat → Int32} {Cu_all : Int32} {Lo_asked : Nat → Nat → Int32} {Lo_ones : Nat → Nat → Int32} {Lo_sum : Nat → Nat → Int32} {Lo_wideSize : Nat → Int32} {Lo_sumSize : Nat → Int32} {Lo_flickers : Nat → Int32} {Lo_ready : Nat → Int32} {Wa_at : Int32} {Wa_turns : Int32} {Wa_changes : Int32} {post : Int32 → (Nat → Int32) → (Nat → Int32) → Int32 → Prop} {KE : (Nat → Int32) → Prop} {x1 : Int32} (X : kC p R s m args meth c cX7_add RX7 3 (some .boolean) 0) (hK : va_K D vwCl (tyC cA) s) (hN : nwC s) (hE : ∀ (Sc_codes : Nat → Int32), KE Sc_codes → ∀ (ls : Array Slot) (H : Heap) (locs : List Loc), lv_has ls 3 [(0, .ref (q 12))] → va_P D vwCl (wC q cA Fc_unkept Fc_tablesRead Pg_letters Pg_size Pg_fault Pg_rows Pg_inRow Pg_width Fl_entries Fl_states Fl_columns Fl_moves Fl_stables Fl_amiss Fl_normal Pt_lessers Pt_greaters Pt_size Lc_signals Lc_kept Lc_keptFrom Lc_candidates Lc_size Sc_signals Sc_codes Sc_size Ai_codes Ai_bits Cu_seen Cu_inThrees Cu_all Lo_asked Lo_ones Lo_sum Lo_wideSize Lo_sumSize Lo_flickers Lo_ready Wa_at Wa_turns Wa_changes) H → va_D A (wC q cA Fc_unkept Fc_tablesRead Pg_letters Pg_size Pg_fault Pg_rows Pg_inRow Pg_width Fl_entries Fl_states Fl_columns Fl_moves Fl_stables Fl_amiss Fl_normal Pt_lessers Pt_greaters Pt_size Lc_signals Lc_kept Lc_keptFrom Lc_candidates Lc_size Sc_signals Sc_codes Sc_size Ai_codes Ai_bits Cu_seen Cu_inThrees Cu_all Lo_asked Lo_ones Lo_sum Lo_wideSize Lo_sumSize Lo_flickers Lo_ready Wa_at Wa_turns Wa_changes) → va_S A s.heap H locs → W p l e R s m args below meth c H locs 0 0 (MQ below (qWi (Z_X7_add D q cA Fc_unkept Fc_tablesRead Pg_letters Pg_size Pg_fault Pg_rows Pg_inRow Pg_width Fl_entries Fl_states Fl_columns Fl_moves Fl_stables Fl_amiss Fl_normal Pt_lessers Pt_greaters Pt_size Lc_signals Lc_kept Lc_keptFrom Lc_candidates Lc_size Ai_codes Ai_bits Cu_seen Cu_inThrees Cu_all Lo_asked Lo_ones Lo_sum Lo_wideSize Lo_sumSize Lo_flickers Lo_ready Wa_at Wa_turns Wa_changes post) A) args s 0 0 A) (F0 m 53 ls [])) : ∀ (n : Nat) (x2 : Int32) (Sc_codes : Nat → Int32), w_X7_add_22 KE Sc_size x1 n x2 Sc_codes → ∀ (ls : Array Slot) (H : Heap) (locs : List Loc), lv_has ls 3 [(0, .ref (q 12)), (1, .int x1), (2, .int x2)] → va_P D vwCl (wC q cA Fc_unkept Fc_tablesRead Pg_letters Pg_size Pg_fault Pg_rows Pg_inRow Pg_width Fl_entries Fl_states Fl_columns Fl_moves Fl_stables Fl_amiss Fl_normal Pt_lessers Pt_greaters Pt_size Lc_signals Lc_kept Lc_keptFrom Lc_candidates Lc_size Sc_signals Sc_codes Sc_size Ai_codes Ai_bits Cu_seen Cu_inThrees Cu_all Lo_asked Lo_ones Lo_sum Lo_wideSize Lo_sumSize Lo_flickers Lo_ready Wa_at Wa_turns Wa_changes) H → va_D A (wC q cA Fc_unkept Fc_tablesRead Pg_letters Pg_size Pg_fault Pg_rows Pg_inRow Pg_width Fl_entries Fl_states Fl_columns Fl_moves Fl_stables Fl_amiss Fl_normal Pt_lessers Pt_greaters Pt_size Lc_signals Lc_kept Lc_keptFrom Lc_candidates Lc_size Sc_signals Sc_codes Sc_size Ai_codes Ai_bits Cu_seen Cu_inThrees Cu_all Lo_asked Lo_ones Lo_sum Lo_wideSize Lo_sumSize Lo_flickers Lo_ready Wa_at Wa_turns Wa_changes) → va_S A s.heap H locs → W p l e R s m args below meth c H locs 0 0 (MQ below (qWi (Z_X7_add D q cA Fc_unkept Fc_tablesRead Pg_letters Pg_size Pg_fault Pg_rows Pg_inRow Pg_width Fl_entries Fl_states Fl_columns Fl_moves Fl_stables Fl_amiss Fl_normal Pt_lessers Pt_greaters Pt_size Lc_signals Lc_kept Lc_keptFrom Lc_candidates Lc_size Ai_codes Ai_bits Cu_seen Cu_inThrees Cu_all Lo_asked Lo_ones Lo_sum Lo_wideSize Lo_sumSize Lo_flickers Lo_ready Wa_at Wa_turns Wa_changes post) A) args s 0 0 A) (F0 m 22 ls []) := by
  obtain ⟨hx, hb, hml, hown, hts, hr, hlocks, hRf, hRl⟩ := id X
  intro n
  induction n with
  | zero => intro x2 Sc_codes hw; exact (show False from hw).elim
  | succ n ih =>
    intro x2 Sc_codes hw ls H locs hl hP hD hS
    refine lv_iload_n hx hb dX7_add_22 rfl (lv_at hl 2 rfl) ?_
    refine lv_bipush (v := (6 : Int32)) hx hb dX7_add_23 (by decide +kernel) ?_
    refine lv_icmp_ge (tgt := 53) hx hb dX7_add_25 (by decide) (fun c_3 => ?_) (fun c_3 => ?_)
    · have hw := hw.1 c_3
      exact hE _ hw ls _ _ (lv_sub hl [0] rfl) hP hD hS
    · have hw := hw.2 c_3
      refine lv_aload_n hx hb dX7_add_28 rfl (lv_at hl 0 rfl) ?_
      refine gRX7_15 hx hb hown hts hK hP dX7_add_29 ?_
      refine lv_iload_n hx hb dX7_add_32 rfl (lv_at hl 2 rfl) ?_
      refine lv_dup2_11 hx hb dX7_add_33 rfl rfl ?_
      have h_4 := hw.1
      have hw := hw.2
      refine ld_Sc_codes hx hb hK hP h_4 dX7_add_34 ?_
      refine lv_iload_n hx hb dX7_add_35 rfl (lv_at hl 1 rfl) ?_
      refine lv_iload_n hx hb dX7_add_36 rfl (lv_at hl 2 rfl) ?_
      refine lv_ishr hx hb dX7_add_37 ?_
      refine lv_iconst (v := (1 : Int32)) hx hb dX7_add_38 (by decide) ?_
      refine lv_iand hx hb dX7_add_39 ?_
      refine lv_aload_n hx hb dX7_add_40 rfl (lv_at hl 0 rfl) ?_
      refine gRX7_18 hx hb hown hts hK hP dX7_add_41 ?_
      refine lv_ishl hx hb dX7_add_44 ?_
      refine lv_ior hx hb dX7_add_45 ?_
      have h_5 := hw.1
      have hw := hw.2
      refine st_Sc_codes hx hb hK hP hD hS h_5 dX7_add_46 (fun H locs a_5 e_5 hP hD hS => ?_)
      have hw := hw a_5 e_5
      obtain ⟨x2_6, e_6⟩ : ∃ z : Int32, z = x2 + (1 : Int32) := ⟨_, rfl⟩
      have hw := hw x2_6 e_6
      refine lv_iinc (v := x2_6) (lv' := [(2, .int x2_6), (0, .ref (q 12)), (1, .int x1)]) hx hb dX7_add_47 hl (k := 2) rfl (by rw [e_6]; rfl) (by decide) rfl (fun ls hl => ?_)
      refine lv_goto (tgt := 22) hx hb dX7_add_50 (by decide) ?_
      exact ih _ _ hw ls _ _ (lv_sub hl [1, 2, 0] rfl) hP hD hS
set_option maxHeartbeats 4000000 in
set_option maxRecDepth 100000 in
theorem c_X7_add (l : Launch) {D : va_G} {q : Nat → Nat} {cA : Nat → ClassId} {Fc_unkept : Int32} {Fc_tablesRead : Int32} {Pg_letters : Nat → Int32} {Pg_size : Int32} {Pg_fault : Int32} {Pg_rows : Int32} {Pg_inRow : Int32} {Pg_width : Int32} {Fl_entries : Nat → Int32} {Fl_states : Int32} {Fl_columns : Int32} {Fl_moves : Int32} {Fl_stables : Int32} {Fl_amiss : Int32} {Fl_normal : Int32} {Pt_lessers : Nat → Int32} {Pt_greaters : Nat → Int32} {Pt_size : Int32} {Lc_signals : Nat → Int32} {Lc_kept : Nat → Int64} {Lc_keptFrom : Nat → Int64} {Lc_candidates : Int32} {Lc_size : Int32} {Sc_signals : Nat → Int32} {Sc_codes : Nat → Int32} {Sc_size : Int32} {Ai_codes : Nat → Int32} {Ai_bits : Int32} {Cu_seen : Nat → Int32} {Cu_inThrees : Nat → Int32} {Cu_all : Int32} {Lo_asked : Nat → Nat → Int32} {Lo_ones : Nat → Nat → Int32} {Lo_sum : Nat → Nat → Int32} {Lo_wideSize : Nat → Int32} {Lo_sumSize : Nat → Int32} {Lo_flickers : Nat → Int32} {Lo_ready : Nat → Int32} {Wa_at : Int32} {Wa_turns : Int32} {Wa_changes : Int32} {A : Nat → Prop} {post : Int32 → (Nat → Int32) → (Nat → Int32) → Int32 → Prop} {x1 : Int32} (hw : wp_X7_add post Sc_signals Sc_codes Sc_size x1) : Met l yX7_add (Cond.code yX7_add cX7_add 3 (some .boolean) :: wsL_law) (rmH 0) (va_Pc [.ref (q 12), .int x1] (fun U => va_P D vwCl (wC q cA Fc_unkept Fc_tablesRead Pg_letters Pg_size Pg_fault Pg_rows Pg_inRow Pg_width Fl_entries Fl_states Fl_columns Fl_moves Fl_stables Fl_amiss Fl_normal Pt_lessers Pt_greaters Pt_size Lc_signals Lc_kept Lc_keptFrom Lc_candidates Lc_size Sc_signals Sc_codes Sc_size Ai_codes Ai_bits Cu_seen Cu_inThrees Cu_all Lo_asked Lo_ones Lo_sum Lo_wideSize Lo_sumSize Lo_flickers Lo_ready Wa_at Wa_turns Wa_changes) U.heap ∧ va_K D vwCl (tyC cA) U ∧ nwC U ∧ va_D A (wC q cA Fc_unkept Fc_tablesRead Pg_letters Pg_size Pg_fault Pg_rows Pg_inRow Pg_width Fl_entries Fl_states Fl_columns Fl_moves Fl_stables Fl_amiss Fl_normal Pt_lessers Pt_greaters Pt_size Lc_signals Lc_kept Lc_keptFrom Lc_candidates Lc_size Sc_signals Sc_codes Sc_size Ai_codes Ai_bits Cu_seen Cu_inThrees Cu_all Lo_asked Lo_ones Lo_sum Lo_wideSize Lo_sumSize Lo_flickers Lo_ready Wa_at Wa_turns Wa_changes))) (qWi (Z_X7_add D q cA Fc_unkept Fc_tablesRead Pg_letters Pg_size Pg_fault Pg_rows Pg_inRow Pg_width Fl_entries Fl_states Fl_columns Fl_moves Fl_stables Fl_amiss Fl_normal Pt_lessers Pt_greaters Pt_size Lc_signals Lc_kept Lc_keptFrom Lc_candidates Lc_size Ai_codes Ai_bits Cu_seen Cu_inThrees Cu_all Lo_asked Lo_ones Lo_sum Lo_wideSize Lo_sumSize Lo_flickers Lo_ready Wa_at Wa_turns Wa_changes post) A) 0 0 A := by
  refine Met.ofW (cc := cX7_add) (maxL := 3) (ret := (some .boolean)) (by decide) rfl ?_
  intro p e s m args below meth c s₁ B hml hv
  obtain ⟨rfl, hP, hK, hN, hD⟩ := hv
  have X : kC p (headSpec (Cond.code yX7_add cX7_add 3 (some .boolean) :: wsL_law) (rmH 0)).room s m _ meth c cX7_add RX7 3 (some .boolean) 0 := ⟨B.exec, B.bytes, hml, findClass_of_methodNamed B.named, fun w h => atoms_spec (ws := Cond.code yX7_add cX7_add 3 (some .boolean) :: wsL_law) B.pre w (List.mem_cons_of_mem _ h), B.returns, B.notSynchronized, Nat.le_refl _, Nat.le_refl _⟩
  obtain ⟨hx, hb, hml, hown, hts, hr, hlocks, hRf, hRl⟩ := id X
  have hS : va_S A s.heap s.heap [] := va_S.rf
  have hl := lv_entry ([.ref (q 12), .int x1]) (n := 3) (Nat.le_of_ble_eq_true rfl)
  rw [lg_entry_eq]
  generalize (lg_sl ([.ref (q 12), .int x1]) ++ List.replicate (3 - (lg_sl ([.ref (q 12), .int x1])).length) Slot.unset).toArray = ls at hl ⊢
  have hl : lv_has ls 3 [(0, .ref (q 12)), (1, .int x1)] := hl
  refine lv_aload_n hx hb dX7_add_0 rfl (lv_at hl 0 rfl) ?_
  refine gRX7_18 hx hb hown hts hK hP dX7_add_1 ?_
  refine lv_iconst (v := (5 : Int32)) hx hb dX7_add_4 (by decide) ?_
  refine lv_icmp_lt (tgt := 10) hx hb dX7_add_5 (by decide) (fun c_1 => ?_) (fun c_1 => ?_)
  · have hw := hw.1 c_1
    refine lv_aload_n hx hb dX7_add_10 rfl (lv_at hl 0 rfl) ?_
    refine gRX7_9 hx hb hown hts hK hP dX7_add_11 ?_
    refine lv_aload_n hx hb dX7_add_14 rfl (lv_at hl 0 rfl) ?_
    refine gRX7_18 hx hb hown hts hK hP dX7_add_15 ?_
    refine lv_iload_n hx hb dX7_add_18 rfl (lv_at hl 1 rfl) ?_
    have h_2 := hw.1
    have hw := hw.2
    refine st_Sc_signals hx hb hK hP hD hS h_2 dX7_add_19 (fun H locs a_2 e_2 hP hD hS => ?_)
    have hw := hw a_2 e_2
    refine lv_iconst (v := (0 : Int32)) hx hb dX7_add_20 (by decide) ?_
    refine lv_istore_n (lv' := [(2, .int (0 : Int32)), (0, .ref (q 12)), (1, .int x1)]) hx hb dX7_add_21 rfl hl (by decide) rfl (fun ls hl => ?_)
    obtain ⟨n_7, hw⟩ := hw
    refine t_X7_add_22 X hK hN (fun ycodes_7 hw ls H locs hl hP hD hS => ?_) n_7 _ _ hw ls _ _ (lv_sub hl [1, 2, 0] rfl) hP hD hS
    refine lv_aload_n hx hb dX7_add_53 rfl (lv_at hl 0 rfl) ?_
    refine lv_dup hx hb dX7_add_54 rfl ?_
    refine gRX7_18 hx hb hown hts hK hP dX7_add_55 ?_
    refine lv_iconst (v := (1 : Int32)) hx hb dX7_add_58 (by decide) ?_
    refine lv_iadd hx hb dX7_add_59 ?_
    refine lv_topi (fun f_8 e_8 => ?_)
    have hw := hw f_8 e_8
    refine pRX7_18 hx hb hown hts hK hP hD hS dX7_add_60 (fun H locs hP hD hS => ?_)
    refine lv_iconst (v := (1 : Int32)) hx hb dX7_add_63 (by decide) ?_
    exact rw_z hx hb hr hlocks rfl (fun t ht => ⟨a_2, ycodes_7, f_8, hw, by rw [ht]; exact hP⟩) hS dX7_add_64
  · have hw := hw.2 c_1
    refine lv_iconst (v := (0 : Int32)) hx hb dX7_add_8 (by decide) ?_
    exact rw_z hx hb hr hlocks rfl (fun t ht => ⟨Sc_signals, Sc_codes, Sc_size, hw, by rw [ht]; exact hP⟩) hS dX7_add_9
abbrev Z_X7_take (D : va_G) (q : Nat → Nat) (cA : Nat → ClassId) (Fc_unkept : Int32) (Fc_tablesRead : Int32) (Pg_letters : Nat → Int32) (Pg_size : Int32) (Pg_fault : Int32) (Pg_rows : Int32) (Pg_inRow : Int32) (Pg_width : Int32) (Fl_entries : Nat → Int32) (Fl_states : Int32) (Fl_columns : Int32) (Fl_moves : Int32) (Fl_stables : Int32) (Fl_amiss : Int32) (Fl_normal : Int32) (Pt_lessers : Nat → Int32) (Pt_greaters : Nat → Int32) (Pt_size : Int32) (Lc_signals : Nat → Int32) (Lc_kept : Nat → Int64) (Lc_keptFrom : Nat → Int64) (Lc_candidates : Int32) (Lc_size : Int32) (Ai_codes : Nat → Int32) (Ai_bits : Int32) (Cu_seen : Nat → Int32) (Cu_inThrees : Nat → Int32) (Cu_all : Int32) (Lo_asked : Nat → Nat → Int32) (Lo_ones : Nat → Nat → Int32) (Lo_sum : Nat → Nat → Int32) (Lo_wideSize : Nat → Int32) (Lo_sumSize : Nat → Int32) (Lo_flickers : Nat → Int32) (Lo_ready : Nat → Int32) (Wa_at : Int32) (Wa_turns : Int32) (Wa_changes : Int32) (post : (Nat → Int32) → (Nat → Int32) → Int32 → Prop) : State → Prop := fun t => ∃ (y_Sc_signals : Nat → Int32) (y_Sc_codes : Nat → Int32) (y_Sc_size : Int32), post y_Sc_signals y_Sc_codes y_Sc_size ∧ va_P D vwCl (wC q cA Fc_unkept Fc_tablesRead Pg_letters Pg_size Pg_fault Pg_rows Pg_inRow Pg_width Fl_entries Fl_states Fl_columns Fl_moves Fl_stables Fl_amiss Fl_normal Pt_lessers Pt_greaters Pt_size Lc_signals Lc_kept Lc_keptFrom Lc_candidates Lc_size y_Sc_signals y_Sc_codes y_Sc_size Ai_codes Ai_bits Cu_seen Cu_inThrees Cu_all Lo_asked Lo_ones Lo_sum Lo_wideSize Lo_sumSize Lo_flickers Lo_ready Wa_at Wa_turns Wa_changes) t.heap
set_option maxHeartbeats 4000000 in
set_option maxRecDepth 100000 in
theorem t_X7_take_6 {p : Program} {l : Launch} {e : Env} {R : Room} {s : State} {m : MethodId} {args : Array Value} {below : List Frame} {meth : Method} {c : Code} {A : Nat → Prop} {D : va_G} {q : Nat → Nat} {cA : Nat → ClassId} {Fc_unkept : Int32} {Fc_tablesRead : Int32} {Pg_letters : Nat → Int32} {Pg_size : Int32} {Pg_fault : Int32} {Pg_rows : Int32} {Pg_inRow : Int32} {Pg_width : Int32} {Fl_entries : Nat → Int32} {Fl_states : Int32} {Fl_columns : Int32} {Fl_moves : Int32} {Fl_stables : Int32} {Fl_amiss : Int32} {Fl_normal : Int32} {Pt_lessers : Nat → Int32} {Pt_greaters : Nat → Int32} {Pt_size : Int32} {Lc_signals : Nat → Int32} {Lc_kept : Nat → Int64} {Lc_keptFrom : Nat → Int64} {Lc_candidates : Int32} {Lc_size : Int32} {Ai_codes : Nat → Int32} {Ai_bits : Int32} {Cu_seen : Nat → Int32} {Cu_inThrees : Nat → Int32} {Cu_all : Int32} {Lo_asked : Nat → Nat → Int32} {Lo_ones : Nat → Nat → Int32} {Lo_sum : Nat → Nat → Int32} {Lo_wideSize : Nat → Int32} {Lo_sumSize : Nat → Int32} {Lo_flickers : Nat → Int32} {Lo_ready : Nat → Int32} {Wa_at : Int32} {Wa_turns : Int32} {Wa_changes : Int32} {post : (Nat → Int32) → (Nat → Int32) → Int32 → Prop} {KE : (Nat → Int32) → (Nat → Int32) → Int32 → Prop} (X : kC p R s m args meth c cX7_take RX7 3 none 1) (hK : va_K D vwCl (tyC cA) s) (hN : nwC s) (hE : ∀ (Sc_signals : Nat → Int32) (Sc_codes : Nat → Int32) (Sc_size : Int32), KE Sc_signals Sc_codes Sc_size → ∀ (ls : Array Slot) (H : Heap) (locs : List Loc), lv_has ls 3 [] → va_P D vwCl (wC q cA Fc_unkept Fc_tablesRead Pg_letters Pg_size Pg_fault Pg_rows Pg_inRow Pg_width Fl_entries Fl_states Fl_columns Fl_moves Fl_stables Fl_amiss Fl_normal Pt_lessers Pt_greaters Pt_size Lc_signals Lc_kept Lc_keptFrom Lc_candidates Lc_size Sc_signals Sc_codes Sc_size Ai_codes Ai_bits Cu_seen Cu_inThrees Cu_all Lo_asked Lo_ones Lo_sum Lo_wideSize Lo_sumSize Lo_flickers Lo_ready Wa_at Wa_turns Wa_changes) H → va_D A (wC q cA Fc_unkept Fc_tablesRead Pg_letters Pg_size Pg_fault Pg_rows Pg_inRow Pg_width Fl_entries Fl_states Fl_columns Fl_moves Fl_stables Fl_amiss Fl_normal Pt_lessers Pt_greaters Pt_size Lc_signals Lc_kept Lc_keptFrom Lc_candidates Lc_size Sc_signals Sc_codes Sc_size Ai_codes Ai_bits Cu_seen Cu_inThrees Cu_all Lo_asked Lo_ones Lo_sum Lo_wideSize Lo_sumSize Lo_flickers Lo_ready Wa_at Wa_turns Wa_changes) → va_S A s.heap H locs → W p l e R s m args below meth c H locs 0 0 (MQ below (qWv (Z_X7_take D q cA Fc_unkept Fc_tablesRead Pg_letters Pg_size Pg_fault Pg_rows Pg_inRow Pg_width Fl_entries Fl_states Fl_columns Fl_moves Fl_stables Fl_amiss Fl_normal Pt_lessers Pt_greaters Pt_size Lc_signals Lc_kept Lc_keptFrom Lc_candidates Lc_size Ai_codes Ai_bits Cu_seen Cu_inThrees Cu_all Lo_asked Lo_ones Lo_sum Lo_wideSize Lo_sumSize Lo_flickers Lo_ready Wa_at Wa_turns Wa_changes post) A) args s 0 0 A) (F0 m 31 ls [])) : ∀ (n : Nat) (x2 : Int32) (Sc_signals : Nat → Int32) (Sc_codes : Nat → Int32) (Sc_size : Int32), w_X7_take_6 KE Lc_signals Lc_size n x2 Sc_signals Sc_codes Sc_size → ∀ (ls : Array Slot) (H : Heap) (locs : List Loc), lv_has ls 3 [(0, .ref (q 12)), (1, .ref (q 8)), (2, .int x2)] → va_P D vwCl (wC q cA Fc_unkept Fc_tablesRead Pg_letters Pg_size Pg_fault Pg_rows Pg_inRow Pg_width Fl_entries Fl_states Fl_columns Fl_moves Fl_stables Fl_amiss Fl_normal Pt_lessers Pt_greaters Pt_size Lc_signals Lc_kept Lc_keptFrom Lc_candidates Lc_size Sc_signals Sc_codes Sc_size Ai_codes Ai_bits Cu_seen Cu_inThrees Cu_all Lo_asked Lo_ones Lo_sum Lo_wideSize Lo_sumSize Lo_flickers Lo_ready Wa_at Wa_turns Wa_changes) H → va_D A (wC q cA Fc_unkept Fc_tablesRead Pg_letters Pg_size Pg_fault Pg_rows Pg_inRow Pg_width Fl_entries Fl_states Fl_columns Fl_moves Fl_stables Fl_amiss Fl_normal Pt_lessers Pt_greaters Pt_size Lc_signals Lc_kept Lc_keptFrom Lc_candidates Lc_size Sc_signals Sc_codes Sc_size Ai_codes Ai_bits Cu_seen Cu_inThrees Cu_all Lo_asked Lo_ones Lo_sum Lo_wideSize Lo_sumSize Lo_flickers Lo_ready Wa_at Wa_turns Wa_changes) → va_S A s.heap H locs → W p l e R s m args below meth c H locs 0 0 (MQ below (qWv (Z_X7_take D q cA Fc_unkept Fc_tablesRead Pg_letters Pg_size Pg_fault Pg_rows Pg_inRow Pg_width Fl_entries Fl_states Fl_columns Fl_moves Fl_stables Fl_amiss Fl_normal Pt_lessers Pt_greaters Pt_size Lc_signals Lc_kept Lc_keptFrom Lc_candidates Lc_size Ai_codes Ai_bits Cu_seen Cu_inThrees Cu_all Lo_asked Lo_ones Lo_sum Lo_wideSize Lo_sumSize Lo_flickers Lo_ready Wa_at Wa_turns Wa_changes post) A) args s 0 0 A) (F0 m 6 ls []) := by
  obtain ⟨hx, hb, hml, hown, hts, hr, hlocks, hRf, hRl⟩ := id X
  intro n
  induction n with
  | zero => intro x2 Sc_signals Sc_codes Sc_size hw; exact (show False from hw).elim
  | succ n ih =>
    intro x2 Sc_signals Sc_codes Sc_size hw ls H locs hl hP hD hS
    refine lv_iload_n hx hb dX7_take_6 rfl (lv_at hl 2 rfl) ?_
    refine lv_aload_n hx hb dX7_take_7 rfl (lv_at hl 1 rfl) ?_
    refine gRX7_25 hx hb hown hts hK hN hP dX7_take_8 ?_
    refine lv_icmp_ge (tgt := 31) hx hb dX7_take_11 (by decide) (fun c_2 => ?_) (fun c_2 => ?_)
    · have hw := hw.1 c_2
      exact hE _ _ _ hw ls _ _ (lv_sub hl [] rfl) hP hD hS
    · have hw := hw.2 c_2
      refine lv_aload_n hx hb dX7_take_14 rfl (lv_at hl 0 rfl) ?_
      refine lv_aload_n hx hb dX7_take_15 rfl (lv_at hl 1 rfl) ?_
      refine gRX7_28 hx hb hown hts hK hN hP dX7_take_16 ?_
      refine lv_iload_n hx hb dX7_take_19 rfl (lv_at hl 2 rfl) ?_
      have h_3 := hw.1
      have hw := hw.2
      refine ld_Lc_signals hx hb hK hP h_3 dX7_take_20 ?_
      refine wr_i (va_runV (As := [.int (Lc_signals x2.toNatClampNeg)]) (rest := []) ⟨hx, hb, hml, hown, hts⟩ (c_X7_add l hw) (kRX7_29 (h := 0) hts (Nat.le_trans (Nat.le_of_ble_eq_true rfl) hRf) (Nat.le_trans (Nat.le_of_ble_eq_true rfl) hRl)) (preX7w hK hN hP hD) rfl rfl hl.1 rfl (lv_room (Nat.le_of_ble_eq_true rfl)) dX7_take_21 ⟨Nat.zero_le _, Nat.zero_le _⟩) hS (fun r_4 t H locs ht hw hS => ?_)
      obtain ⟨ysignals_4, ycodes_4, ysize_4, hw, hP⟩ := hw
      rw [ht] at hP
      have hP : va_P D vwCl (wC q cA Fc_unkept Fc_tablesRead Pg_letters Pg_size Pg_fault Pg_rows Pg_inRow Pg_width Fl_entries Fl_states Fl_columns Fl_moves Fl_stables Fl_amiss Fl_normal Pt_lessers Pt_greaters Pt_size Lc_signals Lc_kept Lc_keptFrom Lc_candidates Lc_size ysignals_4 ycodes_4 ysize_4 Ai_codes Ai_bits Cu_seen Cu_inThrees Cu_all Lo_asked Lo_ones Lo_sum Lo_wideSize Lo_sumSize Lo_flickers Lo_ready Wa_at Wa_turns Wa_changes) H := hP
      have hD : va_D A (wC q cA Fc_unkept Fc_tablesRead Pg_letters Pg_size Pg_fault Pg_rows Pg_inRow Pg_width Fl_entries Fl_states Fl_columns Fl_moves Fl_stables Fl_amiss Fl_normal Pt_lessers Pt_greaters Pt_size Lc_signals Lc_kept Lc_keptFrom Lc_candidates Lc_size ysignals_4 ycodes_4 ysize_4 Ai_codes Ai_bits Cu_seen Cu_inThrees Cu_all Lo_asked Lo_ones Lo_sum Lo_wideSize Lo_sumSize Lo_flickers Lo_ready Wa_at Wa_turns Wa_changes) := dC hD
      refine lv_pop hx hb dX7_take_24 rfl ?_
      obtain ⟨x2_5, e_5⟩ : ∃ z : Int32, z = x2 + (1 : Int32) := ⟨_, rfl⟩
      have hw := hw x2_5 e_5
      refine lv_iinc (v := x2_5) (lv' := [(2, .int x2_5), (0, .ref (q 12)), (1, .ref (q 8))]) hx hb dX7_take_25 hl (k := 2) rfl (by rw [e_5]; rfl) (by decide) rfl (fun ls hl => ?_)
      refine lv_goto (tgt := 6) hx hb dX7_take_28 (by decide) ?_
      exact ih _ _ _ _ hw ls _ _ (lv_sub hl [1, 2, 0] rfl) hP hD hS
set_option maxHeartbeats 4000000 in
set_option maxRecDepth 100000 in
theorem c_X7_take (l : Launch) {D : va_G} {q : Nat → Nat} {cA : Nat → ClassId} {Fc_unkept : Int32} {Fc_tablesRead : Int32} {Pg_letters : Nat → Int32} {Pg_size : Int32} {Pg_fault : Int32} {Pg_rows : Int32} {Pg_inRow : Int32} {Pg_width : Int32} {Fl_entries : Nat → Int32} {Fl_states : Int32} {Fl_columns : Int32} {Fl_moves : Int32} {Fl_stables : Int32} {Fl_amiss : Int32} {Fl_normal : Int32} {Pt_lessers : Nat → Int32} {Pt_greaters : Nat → Int32} {Pt_size : Int32} {Lc_signals : Nat → Int32} {Lc_kept : Nat → Int64} {Lc_keptFrom : Nat → Int64} {Lc_candidates : Int32} {Lc_size : Int32} {Sc_signals : Nat → Int32} {Sc_codes : Nat → Int32} {Sc_size : Int32} {Ai_codes : Nat → Int32} {Ai_bits : Int32} {Cu_seen : Nat → Int32} {Cu_inThrees : Nat → Int32} {Cu_all : Int32} {Lo_asked : Nat → Nat → Int32} {Lo_ones : Nat → Nat → Int32} {Lo_sum : Nat → Nat → Int32} {Lo_wideSize : Nat → Int32} {Lo_sumSize : Nat → Int32} {Lo_flickers : Nat → Int32} {Lo_ready : Nat → Int32} {Wa_at : Int32} {Wa_turns : Int32} {Wa_changes : Int32} {A : Nat → Prop} {post : (Nat → Int32) → (Nat → Int32) → Int32 → Prop}  (hw : wp_X7_take post Lc_signals Lc_size Sc_signals Sc_codes Sc_size ) : Met l yX7_take (Cond.code yX7_take cX7_take 3 none :: wsL_law) (rmH 1) (va_Pc [.ref (q 12), .ref (q 8)] (fun U => va_P D vwCl (wC q cA Fc_unkept Fc_tablesRead Pg_letters Pg_size Pg_fault Pg_rows Pg_inRow Pg_width Fl_entries Fl_states Fl_columns Fl_moves Fl_stables Fl_amiss Fl_normal Pt_lessers Pt_greaters Pt_size Lc_signals Lc_kept Lc_keptFrom Lc_candidates Lc_size Sc_signals Sc_codes Sc_size Ai_codes Ai_bits Cu_seen Cu_inThrees Cu_all Lo_asked Lo_ones Lo_sum Lo_wideSize Lo_sumSize Lo_flickers Lo_ready Wa_at Wa_turns Wa_changes) U.heap ∧ va_K D vwCl (tyC cA) U ∧ nwC U ∧ va_D A (wC q cA Fc_unkept Fc_tablesRead Pg_letters Pg_size Pg_fault Pg_rows Pg_inRow Pg_width Fl_entries Fl_states Fl_columns Fl_moves Fl_stables Fl_amiss Fl_normal Pt_lessers Pt_greaters Pt_size Lc_signals Lc_kept Lc_keptFrom Lc_candidates Lc_size Sc_signals Sc_codes Sc_size Ai_codes Ai_bits Cu_seen Cu_inThrees Cu_all Lo_asked Lo_ones Lo_sum Lo_wideSize Lo_sumSize Lo_flickers Lo_ready Wa_at Wa_turns Wa_changes))) (qWv (Z_X7_take D q cA Fc_unkept Fc_tablesRead Pg_letters Pg_size Pg_fault Pg_rows Pg_inRow Pg_width Fl_entries Fl_states Fl_columns Fl_moves Fl_stables Fl_amiss Fl_normal Pt_lessers Pt_greaters Pt_size Lc_signals Lc_kept Lc_keptFrom Lc_candidates Lc_size Ai_codes Ai_bits Cu_seen Cu_inThrees Cu_all Lo_asked Lo_ones Lo_sum Lo_wideSize Lo_sumSize Lo_flickers Lo_ready Wa_at Wa_turns Wa_changes post) A) 0 0 A := by
  refine Met.ofW (cc := cX7_take) (maxL := 3) (ret := none) (by decide) rfl ?_
  intro p e s m args below meth c s₁ B hml hv
  obtain ⟨rfl, hP, hK, hN, hD⟩ := hv
  have X : kC p (headSpec (Cond.code yX7_take cX7_take 3 none :: wsL_law) (rmH 1)).room s m _ meth c cX7_take RX7 3 none 1 := ⟨B.exec, B.bytes, hml, findClass_of_methodNamed B.named, fun w h => atoms_spec (ws := Cond.code yX7_take cX7_take 3 none :: wsL_law) B.pre w (List.mem_cons_of_mem _ h), B.returns, B.notSynchronized, Nat.le_refl _, Nat.le_refl _⟩
  obtain ⟨hx, hb, hml, hown, hts, hr, hlocks, hRf, hRl⟩ := id X
  have hS : va_S A s.heap s.heap [] := va_S.rf
  have hl := lv_entry ([.ref (q 12), .ref (q 8)]) (n := 3) (Nat.le_of_ble_eq_true rfl)
  rw [lg_entry_eq]
  generalize (lg_sl ([.ref (q 12), .ref (q 8)]) ++ List.replicate (3 - (lg_sl ([.ref (q 12), .ref (q 8)])).length) Slot.unset).toArray = ls at hl ⊢
  have hl : lv_has ls 3 [(0, .ref (q 12)), (1, .ref (q 8))] := hl
  refine lv_aload_n hx hb dX7_take_0 rfl (lv_at hl 0 rfl) ?_
  refine wr_v (va_runV (As := []) (rest := []) ⟨hx, hb, hml, hown, hts⟩ (c_X7_empty l hw) (kRX7_22 (h := 0) hts (Nat.le_trans (Nat.le_of_ble_eq_true rfl) hRf) (Nat.le_trans (Nat.le_of_ble_eq_true rfl) hRl)) (preX7w hK hN hP hD) rfl rfl hl.1 rfl (lv_room (Nat.le_of_ble_eq_true rfl)) dX7_take_1 ⟨Nat.zero_le _, Nat.zero_le _⟩) hS (fun t H locs ht hw hS => ?_)
  obtain ⟨ycodes_1, ysize_1, hw, hP⟩ := hw
  rw [ht] at hP
  have hP : va_P D vwCl (wC q cA Fc_unkept Fc_tablesRead Pg_letters Pg_size Pg_fault Pg_rows Pg_inRow Pg_width Fl_entries Fl_states Fl_columns Fl_moves Fl_stables Fl_amiss Fl_normal Pt_lessers Pt_greaters Pt_size Lc_signals Lc_kept Lc_keptFrom Lc_candidates Lc_size Sc_signals ycodes_1 ysize_1 Ai_codes Ai_bits Cu_seen Cu_inThrees Cu_all Lo_asked Lo_ones Lo_sum Lo_wideSize Lo_sumSize Lo_flickers Lo_ready Wa_at Wa_turns Wa_changes) H := hP
  have hD : va_D A (wC q cA Fc_unkept Fc_tablesRead Pg_letters Pg_size Pg_fault Pg_rows Pg_inRow Pg_width Fl_entries Fl_states Fl_columns Fl_moves Fl_stables Fl_amiss Fl_normal Pt_lessers Pt_greaters Pt_size Lc_signals Lc_kept Lc_keptFrom Lc_candidates Lc_size Sc_signals ycodes_1 ysize_1 Ai_codes Ai_bits Cu_seen Cu_inThrees Cu_all Lo_asked Lo_ones Lo_sum Lo_wideSize Lo_sumSize Lo_flickers Lo_ready Wa_at Wa_turns Wa_changes) := dC hD
  refine lv_iconst (v := (0 : Int32)) hx hb dX7_take_4 (by decide) ?_
  refine lv_istore_n (lv' := [(2, .int (0 : Int32)), (0, .ref (q 12)), (1, .ref (q 8))]) hx hb dX7_take_5 rfl hl (by decide) rfl (fun ls hl => ?_)
  obtain ⟨n_6, hw⟩ := hw
  refine t_X7_take_6 X hK hN (fun ysignals_6 ycodes_6 ysize_6 hw ls H locs hl hP hD hS => ?_) n_6 _ _ _ _ hw ls _ _ (lv_sub hl [1, 2, 0] rfl) hP hD hS
  exact rw_v hx hb hr hlocks (fun t ht => ⟨ysignals_6, ycodes_6, ysize_6, hw, by rw [ht]; exact hP⟩) hS dX7_take_31
set_option maxHeartbeats 4000000 in
set_option maxRecDepth 100000 in
theorem c_X6_lesser (l : Launch) {D : va_G} {q : Nat → Nat} {cA : Nat → ClassId} {Fc_unkept : Int32} {Fc_tablesRead : Int32} {Pg_letters : Nat → Int32} {Pg_size : Int32} {Pg_fault : Int32} {Pg_rows : Int32} {Pg_inRow : Int32} {Pg_width : Int32} {Fl_entries : Nat → Int32} {Fl_states : Int32} {Fl_columns : Int32} {Fl_moves : Int32} {Fl_stables : Int32} {Fl_amiss : Int32} {Fl_normal : Int32} {Pt_lessers : Nat → Int32} {Pt_greaters : Nat → Int32} {Pt_size : Int32} {Lc_signals : Nat → Int32} {Lc_kept : Nat → Int64} {Lc_keptFrom : Nat → Int64} {Lc_candidates : Int32} {Lc_size : Int32} {Sc_signals : Nat → Int32} {Sc_codes : Nat → Int32} {Sc_size : Int32} {Ai_codes : Nat → Int32} {Ai_bits : Int32} {Cu_seen : Nat → Int32} {Cu_inThrees : Nat → Int32} {Cu_all : Int32} {Lo_asked : Nat → Nat → Int32} {Lo_ones : Nat → Nat → Int32} {Lo_sum : Nat → Nat → Int32} {Lo_wideSize : Nat → Int32} {Lo_sumSize : Nat → Int32} {Lo_flickers : Nat → Int32} {Lo_ready : Nat → Int32} {Wa_at : Int32} {Wa_turns : Int32} {Wa_changes : Int32} {post : Int32 → Prop} {x1 : Int32} (hw : wp_X6_lesser post Pt_lessers Pt_size x1) : Met l yX6_lesser (Cond.code yX6_lesser cX6_lesser 2 (some .int) :: wsL_law) (rmH 0) (va_Pc [.ref (q 5), .int x1] (fun U => va_P D vwCl (wC q cA Fc_unkept Fc_tablesRead Pg_letters Pg_size Pg_fault Pg_rows Pg_inRow Pg_width Fl_entries Fl_states Fl_columns Fl_moves Fl_stables Fl_amiss Fl_normal Pt_lessers Pt_greaters Pt_size Lc_signals Lc_kept Lc_keptFrom Lc_candidates Lc_size Sc_signals Sc_codes Sc_size Ai_codes Ai_bits Cu_seen Cu_inThrees Cu_all Lo_asked Lo_ones Lo_sum Lo_wideSize Lo_sumSize Lo_flickers Lo_ready Wa_at Wa_turns Wa_changes) U.heap ∧ va_K D vwCl (tyC cA) U ∧ nwC U)) (qRi post) 0 0 (fun _ => False) := by
  refine Met.ofW (cc := cX6_lesser) (maxL := 2) (ret := (some .int)) (by decide) rfl ?_
  intro p e s m args below meth c s₁ B hml hv
  obtain ⟨rfl, hP, hK, hN⟩ := hv
  have X : kC p (headSpec (Cond.code yX6_lesser cX6_lesser 2 (some .int) :: wsL_law) (rmH 0)).room s m _ meth c cX6_lesser RX6 2 (some .int) 0 := ⟨B.exec, B.bytes, hml, findClass_of_methodNamed B.named, fun w h => atoms_spec (ws := Cond.code yX6_lesser cX6_lesser 2 (some .int) :: wsL_law) B.pre w (List.mem_cons_of_mem _ h), B.returns, B.notSynchronized, Nat.le_refl _, Nat.le_refl _⟩
  obtain ⟨hx, hb, hml, hown, hts, hr, hlocks, hRf, hRl⟩ := id X
  have hl := lv_entry ([.ref (q 5), .int x1]) (n := 2) (Nat.le_of_ble_eq_true rfl)
  rw [lg_entry_eq]
  generalize (lg_sl ([.ref (q 5), .int x1]) ++ List.replicate (2 - (lg_sl ([.ref (q 5), .int x1])).length) Slot.unset).toArray = ls at hl ⊢
  have hl : lv_has ls 2 [(0, .ref (q 5)), (1, .int x1)] := hl
  refine lv_iload_n hx hb dX6_lesser_0 rfl (lv_at hl 1 rfl) ?_
  refine lv_if_lt (tgt := 21) hx hb dX6_lesser_1 (by decide) (fun c_1 => ?_) (fun c_1 => ?_)
  · have hw := hw.1 c_1
    refine lv_iconst (v := (0 : Int32)) hx hb dX6_lesser_21 (by decide) ?_
    exact rt_i hx hb hr hlocks hw dX6_lesser_22
  · have hw := hw.2 c_1
    refine lv_iload_n hx hb dX6_lesser_4 rfl (lv_at hl 1 rfl) ?_
    refine lv_aload_n hx hb dX6_lesser_5 rfl (lv_at hl 0 rfl) ?_
    refine gRX6_18 hx hb hown hts hK hP dX6_lesser_6 ?_
    refine lv_icmp_ge (tgt := 21) hx hb dX6_lesser_9 (by decide) (fun c_2 => ?_) (fun c_2 => ?_)
    · have hw := hw.1 c_2
      refine lv_iconst (v := (0 : Int32)) hx hb dX6_lesser_21 (by decide) ?_
      exact rt_i hx hb hr hlocks hw dX6_lesser_22
    · have hw := hw.2 c_2
      refine lv_aload_n hx hb dX6_lesser_12 rfl (lv_at hl 0 rfl) ?_
      refine gRX6_11 hx hb hown hts hK hP dX6_lesser_13 ?_
      refine lv_iload_n hx hb dX6_lesser_16 rfl (lv_at hl 1 rfl) ?_
      have h_3 := hw.1
      have hw := hw.2
      refine ld_Pt_lessers hx hb hK hP h_3 dX6_lesser_17 ?_
      refine lv_goto (tgt := 22) hx hb dX6_lesser_18 (by decide) ?_
      exact rt_i hx hb hr hlocks hw dX6_lesser_22
set_option maxHeartbeats 4000000 in
set_option maxRecDepth 100000 in
theorem c_X6_greater (l : Launch) {D : va_G} {q : Nat → Nat} {cA : Nat → ClassId} {Fc_unkept : Int32} {Fc_tablesRead : Int32} {Pg_letters : Nat → Int32} {Pg_size : Int32} {Pg_fault : Int32} {Pg_rows : Int32} {Pg_inRow : Int32} {Pg_width : Int32} {Fl_entries : Nat → Int32} {Fl_states : Int32} {Fl_columns : Int32} {Fl_moves : Int32} {Fl_stables : Int32} {Fl_amiss : Int32} {Fl_normal : Int32} {Pt_lessers : Nat → Int32} {Pt_greaters : Nat → Int32} {Pt_size : Int32} {Lc_signals : Nat → Int32} {Lc_kept : Nat → Int64} {Lc_keptFrom : Nat → Int64} {Lc_candidates : Int32} {Lc_size : Int32} {Sc_signals : Nat → Int32} {Sc_codes : Nat → Int32} {Sc_size : Int32} {Ai_codes : Nat → Int32} {Ai_bits : Int32} {Cu_seen : Nat → Int32} {Cu_inThrees : Nat → Int32} {Cu_all : Int32} {Lo_asked : Nat → Nat → Int32} {Lo_ones : Nat → Nat → Int32} {Lo_sum : Nat → Nat → Int32} {Lo_wideSize : Nat → Int32} {Lo_sumSize : Nat → Int32} {Lo_flickers : Nat → Int32} {Lo_ready : Nat → Int32} {Wa_at : Int32} {Wa_turns : Int32} {Wa_changes : Int32} {post : Int32 → Prop} {x1 : Int32} (hw : wp_X6_greater post Pt_greaters Pt_size x1) : Met l yX6_greater (Cond.code yX6_greater cX6_greater 2 (some .int) :: wsL_law) (rmH 0) (va_Pc [.ref (q 5), .int x1] (fun U => va_P D vwCl (wC q cA Fc_unkept Fc_tablesRead Pg_letters Pg_size Pg_fault Pg_rows Pg_inRow Pg_width Fl_entries Fl_states Fl_columns Fl_moves Fl_stables Fl_amiss Fl_normal Pt_lessers Pt_greaters Pt_size Lc_signals Lc_kept Lc_keptFrom Lc_candidates Lc_size Sc_signals Sc_codes Sc_size Ai_codes Ai_bits Cu_seen Cu_inThrees Cu_all Lo_asked Lo_ones Lo_sum Lo_wideSize Lo_sumSize Lo_flickers Lo_ready Wa_at Wa_turns Wa_changes) U.heap ∧ va_K D vwCl (tyC cA) U ∧ nwC U)) (qRi post) 0 0 (fun _ => False) := by
  refine Met.ofW (cc := cX6_greater) (maxL := 2) (ret := (some .int)) (by decide) rfl ?_
  intro p e s m args below meth c s₁ B hml hv
  obtain ⟨rfl, hP, hK, hN⟩ := hv
  have X : kC p (headSpec (Cond.code yX6_greater cX6_greater 2 (some .int) :: wsL_law) (rmH 0)).room s m _ meth c cX6_greater RX6 2 (some .int) 0 := ⟨B.exec, B.bytes, hml, findClass_of_methodNamed B.named, fun w h => atoms_spec (ws := Cond.code yX6_greater cX6_greater 2 (some .int) :: wsL_law) B.pre w (List.mem_cons_of_mem _ h), B.returns, B.notSynchronized, Nat.le_refl _, Nat.le_refl _⟩
  obtain ⟨hx, hb, hml, hown, hts, hr, hlocks, hRf, hRl⟩ := id X
  have hl := lv_entry ([.ref (q 5), .int x1]) (n := 2) (Nat.le_of_ble_eq_true rfl)
  rw [lg_entry_eq]
  generalize (lg_sl ([.ref (q 5), .int x1]) ++ List.replicate (2 - (lg_sl ([.ref (q 5), .int x1])).length) Slot.unset).toArray = ls at hl ⊢
  have hl : lv_has ls 2 [(0, .ref (q 5)), (1, .int x1)] := hl
  refine lv_iload_n hx hb dX6_greater_0 rfl (lv_at hl 1 rfl) ?_
  refine lv_if_lt (tgt := 21) hx hb dX6_greater_1 (by decide) (fun c_1 => ?_) (fun c_1 => ?_)
  · have hw := hw.1 c_1
    refine lv_iconst (v := (0 : Int32)) hx hb dX6_greater_21 (by decide) ?_
    exact rt_i hx hb hr hlocks hw dX6_greater_22
  · have hw := hw.2 c_1
    refine lv_iload_n hx hb dX6_greater_4 rfl (lv_at hl 1 rfl) ?_
    refine lv_aload_n hx hb dX6_greater_5 rfl (lv_at hl 0 rfl) ?_
    refine gRX6_18 hx hb hown hts hK hP dX6_greater_6 ?_
    refine lv_icmp_ge (tgt := 21) hx hb dX6_greater_9 (by decide) (fun c_2 => ?_) (fun c_2 => ?_)
    · have hw := hw.1 c_2
      refine lv_iconst (v := (0 : Int32)) hx hb dX6_greater_21 (by decide) ?_
      exact rt_i hx hb hr hlocks hw dX6_greater_22
    · have hw := hw.2 c_2
      refine lv_aload_n hx hb dX6_greater_12 rfl (lv_at hl 0 rfl) ?_
      refine gRX6_15 hx hb hown hts hK hP dX6_greater_13 ?_
      refine lv_iload_n hx hb dX6_greater_16 rfl (lv_at hl 1 rfl) ?_
      have h_3 := hw.1
      have hw := hw.2
      refine ld_Pt_greaters hx hb hK hP h_3 dX6_greater_17 ?_
      refine lv_goto (tgt := 22) hx hb dX6_greater_18 (by decide) ?_
      exact rt_i hx hb hr hlocks hw dX6_greater_22
set_option maxHeartbeats 4000000 in
set_option maxRecDepth 100000 in
theorem c_X6_isKeptBy (l : Launch) {D : va_G} {q : Nat → Nat} {cA : Nat → ClassId} {Fc_unkept : Int32} {Fc_tablesRead : Int32} {Pg_letters : Nat → Int32} {Pg_size : Int32} {Pg_fault : Int32} {Pg_rows : Int32} {Pg_inRow : Int32} {Pg_width : Int32} {Fl_entries : Nat → Int32} {Fl_states : Int32} {Fl_columns : Int32} {Fl_moves : Int32} {Fl_stables : Int32} {Fl_amiss : Int32} {Fl_normal : Int32} {Pt_lessers : Nat → Int32} {Pt_greaters : Nat → Int32} {Pt_size : Int32} {Lc_signals : Nat → Int32} {Lc_kept : Nat → Int64} {Lc_keptFrom : Nat → Int64} {Lc_candidates : Int32} {Lc_size : Int32} {Sc_signals : Nat → Int32} {Sc_codes : Nat → Int32} {Sc_size : Int32} {Ai_codes : Nat → Int32} {Ai_bits : Int32} {Cu_seen : Nat → Int32} {Cu_inThrees : Nat → Int32} {Cu_all : Int32} {Lo_asked : Nat → Nat → Int32} {Lo_ones : Nat → Nat → Int32} {Lo_sum : Nat → Nat → Int32} {Lo_wideSize : Nat → Int32} {Lo_sumSize : Nat → Int32} {Lo_flickers : Nat → Int32} {Lo_ready : Nat → Int32} {Wa_at : Int32} {Wa_turns : Int32} {Wa_changes : Int32} {post : Int32 → Prop} {x1 : Int32} {x2 : Int32} (hw : wp_X6_isKeptBy post Pt_lessers Pt_greaters Pt_size x1 x2) : Met l yX6_isKeptBy (Cond.code yX6_isKeptBy cX6_isKeptBy 5 (some .boolean) :: wsL_law) (rmH 1) (va_Pc [.ref (q 5), .int x1, .int x2] (fun U => va_P D vwCl (wC q cA Fc_unkept Fc_tablesRead Pg_letters Pg_size Pg_fault Pg_rows Pg_inRow Pg_width Fl_entries Fl_states Fl_columns Fl_moves Fl_stables Fl_amiss Fl_normal Pt_lessers Pt_greaters Pt_size Lc_signals Lc_kept Lc_keptFrom Lc_candidates Lc_size Sc_signals Sc_codes Sc_size Ai_codes Ai_bits Cu_seen Cu_inThrees Cu_all Lo_asked Lo_ones Lo_sum Lo_wideSize Lo_sumSize Lo_flickers Lo_ready Wa_at Wa_turns Wa_changes) U.heap ∧ va_K D vwCl (tyC cA) U ∧ nwC U)) (qRi post) 0 0 (fun _ => False) := by
  refine Met.ofW (cc := cX6_isKeptBy) (maxL := 5) (ret := (some .boolean)) (by decide) rfl ?_
  intro p e s m args below meth c s₁ B hml hv
  obtain ⟨rfl, hP, hK, hN⟩ := hv
  have X : kC p (headSpec (Cond.code yX6_isKeptBy cX6_isKeptBy 5 (some .boolean) :: wsL_law) (rmH 1)).room s m _ meth c cX6_isKeptBy RX6 5 (some .boolean) 1 := ⟨B.exec, B.bytes, hml, findClass_of_methodNamed B.named, fun w h => atoms_spec (ws := Cond.code yX6_isKeptBy cX6_isKeptBy 5 (some .boolean) :: wsL_law) B.pre w (List.mem_cons_of_mem _ h), B.returns, B.notSynchronized, Nat.le_refl _, Nat.le_refl _⟩
  obtain ⟨hx, hb, hml, hown, hts, hr, hlocks, hRf, hRl⟩ := id X
  have hl := lv_entry ([.ref (q 5), .int x1, .int x2]) (n := 5) (Nat.le_of_ble_eq_true rfl)
  rw [lg_entry_eq]
  generalize (lg_sl ([.ref (q 5), .int x1, .int x2]) ++ List.replicate (5 - (lg_sl ([.ref (q 5), .int x1, .int x2])).length) Slot.unset).toArray = ls at hl ⊢
  have hl : lv_has ls 5 [(0, .ref (q 5)), (1, .int x1), (2, .int x2)] := hl
  refine lv_iload_n hx hb dX6_isKeptBy_0 rfl (lv_at hl 2 rfl) ?_
  refine lv_aload_n hx hb dX6_isKeptBy_1 rfl (lv_at hl 0 rfl) ?_
  refine lv_iload_n hx hb dX6_isKeptBy_2 rfl (lv_at hl 1 rfl) ?_
  refine ro_i (va_runV (As := [.int x1]) (rest := [.int x2]) ⟨hx, hb, hml, hown, hts⟩ (c_X6_lesser l hw) (kRX6_67 (h := 0) hts (Nat.le_trans (Nat.le_of_ble_eq_true rfl) hRf) (Nat.le_trans (Nat.le_of_ble_eq_true rfl) hRl)) (preX6 hK hN hP) rfl rfl hl.1 rfl (lv_room (Nat.le_of_ble_eq_true rfl)) dX6_isKeptBy_3 ⟨Nat.zero_le _, Nat.zero_le _⟩) (fun r_1 hw => ?_)
  refine lv_iand hx hb dX6_isKeptBy_6 ?_
  refine lv_topi (fun x3_2 e_2 => ?_)
  have hw := hw x3_2 e_2
  refine lv_istore_n (lv' := [(3, .int x3_2), (0, .ref (q 5)), (1, .int x1), (2, .int x2)]) hx hb dX6_isKeptBy_7 rfl hl (by decide) rfl (fun ls hl => ?_)
  refine lv_iload_n hx hb dX6_isKeptBy_8 rfl (lv_at hl 3 rfl) ?_
  refine lv_aload_n hx hb dX6_isKeptBy_9 rfl (lv_at hl 1 rfl) ?_
  refine lv_iload_n hx hb dX6_isKeptBy_10 rfl (lv_at hl 2 rfl) ?_
  refine ro_i (va_runV (As := [.int x1]) (rest := [.int x2]) ⟨hx, hb, hml, hown, hts⟩ (c_X6_greater l hw) (kRX6_71 (h := 0) hts (Nat.le_trans (Nat.le_of_ble_eq_true rfl) hRf) (Nat.le_trans (Nat.le_of_ble_eq_true rfl) hRl)) (preX6 hK hN hP) rfl rfl hl.1 rfl (lv_room (Nat.le_of_ble_eq_true rfl)) dX6_isKeptBy_11 ⟨Nat.zero_le _, Nat.zero_le _⟩) (fun r_3 hw => ?_)
  refine lv_iand hx hb dX6_isKeptBy_14 ?_
  refine lv_topi (fun x4_4 e_4 => ?_)
  have hw := hw x4_4 e_4
  refine lv_istore (lv' := [(4, .int x4_4), (3, .int x3_2), (0, .ref (q 5)), (1, .int x1), (2, .int x2)]) hx hb dX6_isKeptBy_15 hl (by decide) rfl (fun ls hl => ?_)
  refine lv_iload_n hx hb dX6_isKeptBy_17 rfl (lv_at hl 1 rfl) ?_
  refine lv_if_ne (tgt := 31) hx hb dX6_isKeptBy_18 (by decide) (fun c_5 => ?_) (fun c_5 => ?_)
  · have hw := hw.2 c_5
    refine lv_iload hx hb dX6_isKeptBy_31 (lv_at hl 0 rfl) ?_
    refine lv_if_ne (tgt := 49) hx hb dX6_isKeptBy_33 (by decide) (fun c_6 => ?_) (fun c_6 => ?_)
    · have hw := hw.2 c_6
      refine lv_iconst (v := (0 : Int32)) hx hb dX6_isKeptBy_49 (by decide) ?_
      exact rt_z hx hb hr hlocks rfl hw dX6_isKeptBy_50
    · have hw := hw.1 c_6
      refine lv_iload_n hx hb dX6_isKeptBy_36 rfl (lv_at hl 1 rfl) ?_
      refine lv_aload_n hx hb dX6_isKeptBy_37 rfl (lv_at hl 2 rfl) ?_
      refine lv_iload_n hx hb dX6_isKeptBy_38 rfl (lv_at hl 3 rfl) ?_
      refine ro_i (va_runV (As := [.int x1]) (rest := [.int x3_2]) ⟨hx, hb, hml, hown, hts⟩ (c_X6_lesser l hw) (kRX6_67 (h := 0) hts (Nat.le_trans (Nat.le_of_ble_eq_true rfl) hRf) (Nat.le_trans (Nat.le_of_ble_eq_true rfl) hRl)) (preX6 hK hN hP) rfl rfl hl.1 rfl (lv_room (Nat.le_of_ble_eq_true rfl)) dX6_isKeptBy_39 ⟨Nat.zero_le _, Nat.zero_le _⟩) (fun r_7 hw => ?_)
      refine lv_icmp_ne (tgt := 49) hx hb dX6_isKeptBy_42 (by decide) (fun c_8 => ?_) (fun c_8 => ?_)
      · have hw := hw.2 c_8
        refine lv_iconst (v := (0 : Int32)) hx hb dX6_isKeptBy_49 (by decide) ?_
        exact rt_z hx hb hr hlocks rfl hw dX6_isKeptBy_50
      · have hw := hw.1 c_8
        refine lv_iconst (v := (1 : Int32)) hx hb dX6_isKeptBy_45 (by decide) ?_
        refine lv_goto (tgt := 50) hx hb dX6_isKeptBy_46 (by decide) ?_
        exact rt_z hx hb hr hlocks rfl hw dX6_isKeptBy_50
  · have hw := hw.1 c_5
    refine lv_iload hx hb dX6_isKeptBy_21 (lv_at hl 0 rfl) ?_
    refine lv_aload_n hx hb dX6_isKeptBy_23 rfl (lv_at hl 2 rfl) ?_
    refine lv_iload_n hx hb dX6_isKeptBy_24 rfl (lv_at hl 3 rfl) ?_
    refine ro_i (va_runV (As := [.int x1]) (rest := [.int x4_4]) ⟨hx, hb, hml, hown, hts⟩ (c_X6_greater l hw) (kRX6_71 (h := 0) hts (Nat.le_trans (Nat.le_of_ble_eq_true rfl) hRf) (Nat.le_trans (Nat.le_of_ble_eq_true rfl) hRl)) (preX6 hK hN hP) rfl rfl hl.1 rfl (lv_room (Nat.le_of_ble_eq_true rfl)) dX6_isKeptBy_25 ⟨Nat.zero_le _, Nat.zero_le _⟩) (fun r_9 hw => ?_)
    refine lv_icmp_eq (tgt := 45) hx hb dX6_isKeptBy_28 (by decide) (fun c_10 => ?_) (fun c_10 => ?_)
    · have hw := hw.1 c_10
      refine lv_iconst (v := (1 : Int32)) hx hb dX6_isKeptBy_45 (by decide) ?_
      refine lv_goto (tgt := 50) hx hb dX6_isKeptBy_46 (by decide) ?_
      exact rt_z hx hb hr hlocks rfl hw dX6_isKeptBy_50
    · have hw := hw.2 c_10
      refine lv_iload hx hb dX6_isKeptBy_31 (lv_at hl 0 rfl) ?_
      refine lv_if_ne (tgt := 49) hx hb dX6_isKeptBy_33 (by decide) (fun c_11 => ?_) (fun c_11 => ?_)
      · have hw := hw.2 c_11
        refine lv_iconst (v := (0 : Int32)) hx hb dX6_isKeptBy_49 (by decide) ?_
        exact rt_z hx hb hr hlocks rfl hw dX6_isKeptBy_50
      · have hw := hw.1 c_11
        refine lv_iload_n hx hb dX6_isKeptBy_36 rfl (lv_at hl 1 rfl) ?_
        refine lv_aload_n hx hb dX6_isKeptBy_37 rfl (lv_at hl 2 rfl) ?_
        refine lv_iload_n hx hb dX6_isKeptBy_38 rfl (lv_at hl 3 rfl) ?_
        refine ro_i (va_runV (As := [.int x1]) (rest := [.int x3_2]) ⟨hx, hb, hml, hown, hts⟩ (c_X6_lesser l hw) (kRX6_67 (h := 0) hts (Nat.le_trans (Nat.le_of_ble_eq_true rfl) hRf) (Nat.le_trans (Nat.le_of_ble_eq_true rfl) hRl)) (preX6 hK hN hP) rfl rfl hl.1 rfl (lv_room (Nat.le_of_ble_eq_true rfl)) dX6_isKeptBy_39 ⟨Nat.zero_le _, Nat.zero_le _⟩) (fun r_12 hw => ?_)
        refine lv_icmp_ne (tgt := 49) hx hb dX6_isKeptBy_42 (by decide) (fun c_13 => ?_) (fun c_13 => ?_)
        · have hw := hw.2 c_13
          refine lv_iconst (v := (0 : Int32)) hx hb dX6_isKeptBy_49 (by decide) ?_
          exact rt_z hx hb hr hlocks rfl hw dX6_isKeptBy_50
        · have hw := hw.1 c_13
          refine lv_iconst (v := (1 : Int32)) hx hb dX6_isKeptBy_45 (by decide) ?_
          refine lv_goto (tgt := 50) hx hb dX6_isKeptBy_46 (by decide) ?_
          exact rt_z hx hb hr hlocks rfl hw dX6_isKeptBy_50
set_option maxHeartbeats 4000000 in
set_option maxRecDepth 100000 in
theorem t_X7_keepersOf_5 {p : Program} {l : Launch} {e : Env} {R : Room} {s : State} {m : MethodId} {args : Array Value} {below : List Frame} {meth : Method} {c : Code} {D : va_G} {q : Nat → Nat} {cA : Nat → ClassId} {Fc_unkept : Int32} {Fc_tablesRead : Int32} {Pg_letters : Nat → Int32} {Pg_size : Int32} {Pg_fault : Int32} {Pg_rows : Int32} {Pg_inRow : Int32} {Pg_width : Int32} {Fl_entries : Nat → Int32} {Fl_states : Int32} {Fl_columns : Int32} {Fl_moves : Int32} {Fl_stables : Int32} {Fl_amiss : Int32} {Fl_normal : Int32} {Pt_lessers : Nat → Int32} {Pt_greaters : Nat → Int32} {Pt_size : Int32} {Lc_signals : Nat → Int32} {Lc_kept : Nat → Int64} {Lc_keptFrom : Nat → Int64} {Lc_candidates : Int32} {Lc_size : Int32} {Sc_signals : Nat → Int32} {Sc_codes : Nat → Int32} {Sc_size : Int32} {Ai_codes : Nat → Int32} {Ai_bits : Int32} {Cu_seen : Nat → Int32} {Cu_inThrees : Nat → Int32} {Cu_all : Int32} {Lo_asked : Nat → Nat → Int32} {Lo_ones : Nat → Nat → Int32} {Lo_sum : Nat → Nat → Int32} {Lo_wideSize : Nat → Int32} {Lo_sumSize : Nat → Int32} {Lo_flickers : Nat → Int32} {Lo_ready : Nat → Int32} {Wa_at : Int32} {Wa_turns : Int32} {Wa_changes : Int32} {post : Int32 → Prop} {KE : Int32 → Prop} {x2 : Int32} (X : kC p R s m args meth c cX7_keepersOf RX7 5 (some .int) 2) (hK : va_K D vwCl (tyC cA) s) (hN : nwC s) (hP : va_P D vwCl (wC q cA Fc_unkept Fc_tablesRead Pg_letters Pg_size Pg_fault Pg_rows Pg_inRow Pg_width Fl_entries Fl_states Fl_columns Fl_moves Fl_stables Fl_amiss Fl_normal Pt_lessers Pt_greaters Pt_size Lc_signals Lc_kept Lc_keptFrom Lc_candidates Lc_size Sc_signals Sc_codes Sc_size Ai_codes Ai_bits Cu_seen Cu_inThrees Cu_all Lo_asked Lo_ones Lo_sum Lo_wideSize Lo_sumSize Lo_flickers Lo_ready Wa_at Wa_turns Wa_changes) s.heap) (hE : ∀ (x3 : Int32), KE x3 → ∀ (ls : Array Slot), lv_has ls 5 [(3, .int x3)] → W p l e R s m args below meth c s.heap [] 0 0 (MQ below (qRi post) args s 0 0 (fun _ => False)) (F0 m 38 ls [])) : ∀ (n : Nat) (x3 : Int32) (x4 : Int32), w_X7_keepersOf_5 KE Pt_lessers Pt_greaters Pt_size Sc_signals Sc_size x2 n x3 x4 → ∀ (ls : Array Slot), lv_has ls 5 [(0, .ref (q 12)), (1, .ref (q 5)), (2, .int x2), (3, .int x3), (4, .int x4)] → W p l e R s m args below meth c s.heap [] 0 0 (MQ below (qRi post) args s 0 0 (fun _ => False)) (F0 m 5 ls []) := by
  obtain ⟨hx, hb, hml, hown, hts, hr, hlocks, hRf, hRl⟩ := id X
  intro n
  induction n with
  | zero => intro x3 x4 hw; exact (show False from hw).elim
  | succ n ih =>
    intro x3 x4 hw ls hl
    refine lv_iload hx hb dX7_keepersOf_5 (lv_at hl 4 rfl) ?_
    refine lv_aload_n hx hb dX7_keepersOf_7 rfl (lv_at hl 0 rfl) ?_
    refine gRX7_18 hx hb hown hts hK hP dX7_keepersOf_8 ?_
    refine lv_icmp_ge (tgt := 38) hx hb dX7_keepersOf_11 (by decide) (fun c_1 => ?_) (fun c_1 => ?_)
    · have hw := hw.1 c_1
      exact hE _ hw ls (lv_sub hl [3] rfl)
    · have hw := hw.2 c_1
      refine lv_aload_n hx hb dX7_keepersOf_14 rfl (lv_at hl 1 rfl) ?_
      refine lv_iload_n hx hb dX7_keepersOf_15 rfl (lv_at hl 2 rfl) ?_
      refine lv_aload_n hx hb dX7_keepersOf_16 rfl (lv_at hl 0 rfl) ?_
      refine gRX7_9 hx hb hown hts hK hP dX7_keepersOf_17 ?_
      refine lv_iload hx hb dX7_keepersOf_20 (lv_at hl 4 rfl) ?_
      have h_2 := hw.1
      have hw := hw.2
      refine ld_Sc_signals hx hb hK hP h_2 dX7_keepersOf_22 ?_
      refine ro_i (va_runV (As := [.int x2, .int (Sc_signals x4.toNatClampNeg)]) (rest := []) ⟨hx, hb, hml, hown, hts⟩ (c_X6_isKeptBy l hw) (kRX7_42 (h := 1) hts (Nat.le_trans (Nat.le_of_ble_eq_true rfl) hRf) (Nat.le_trans (Nat.le_of_ble_eq_true rfl) hRl)) (preX6 hK hN hP) rfl rfl hl.1 rfl (lv_room (Nat.le_of_ble_eq_true rfl)) dX7_keepersOf_23 ⟨Nat.zero_le _, Nat.zero_le _⟩) (fun r_3 hw => ?_)
      refine lv_if_eq (tgt := 32) hx hb dX7_keepersOf_26 (by decide) (fun c_4 => ?_) (fun c_4 => ?_)
      · have hw := hw.1 c_4
        obtain ⟨x4_5, e_5⟩ : ∃ z : Int32, z = x4 + (1 : Int32) := ⟨_, rfl⟩
        have hw := hw x4_5 e_5
        refine lv_iinc (v := x4_5) (lv' := [(4, .int x4_5), (0, .ref (q 12)), (1, .ref (q 5)), (2, .int x2), (3, .int x3)]) hx hb dX7_keepersOf_32 hl (k := 4) rfl (by rw [e_5]; rfl) (by decide) rfl (fun ls hl => ?_)
        refine lv_goto (tgt := 5) hx hb dX7_keepersOf_35 (by decide) ?_
        exact ih _ _ hw ls (lv_sub hl [1, 2, 3, 4, 0] rfl)
      · have hw := hw.2 c_4
        obtain ⟨x3_6, e_6⟩ : ∃ z : Int32, z = x3 + (1 : Int32) := ⟨_, rfl⟩
        have hw := hw x3_6 e_6
        refine lv_iinc (v := x3_6) (lv' := [(3, .int x3_6), (0, .ref (q 12)), (1, .ref (q 5)), (2, .int x2), (4, .int x4)]) hx hb dX7_keepersOf_29 hl (k := 3) rfl (by rw [e_6]; rfl) (by decide) rfl (fun ls hl => ?_)
        obtain ⟨x4_7, e_7⟩ : ∃ z : Int32, z = x4 + (1 : Int32) := ⟨_, rfl⟩
        have hw := hw x4_7 e_7
        refine lv_iinc (v := x4_7) (lv' := [(4, .int x4_7), (3, .int x3_6), (0, .ref (q 12)), (1, .ref (q 5)), (2, .int x2)]) hx hb dX7_keepersOf_32 hl (k := 4) rfl (by rw [e_7]; rfl) (by decide) rfl (fun ls hl => ?_)
        refine lv_goto (tgt := 5) hx hb dX7_keepersOf_35 (by decide) ?_
        exact ih _ _ hw ls (lv_sub hl [2, 3, 4, 1, 0] rfl)
set_option maxHeartbeats 4000000 in
set_option maxRecDepth 100000 in
theorem c_X7_keepersOf (l : Launch) {D : va_G} {q : Nat → Nat} {cA : Nat → ClassId} {Fc_unkept : Int32} {Fc_tablesRead : Int32} {Pg_letters : Nat → Int32} {Pg_size : Int32} {Pg_fault : Int32} {Pg_rows : Int32} {Pg_inRow : Int32} {Pg_width : Int32} {Fl_entries : Nat → Int32} {Fl_states : Int32} {Fl_columns : Int32} {Fl_moves : Int32} {Fl_stables : Int32} {Fl_amiss : Int32} {Fl_normal : Int32} {Pt_lessers : Nat → Int32} {Pt_greaters : Nat → Int32} {Pt_size : Int32} {Lc_signals : Nat → Int32} {Lc_kept : Nat → Int64} {Lc_keptFrom : Nat → Int64} {Lc_candidates : Int32} {Lc_size : Int32} {Sc_signals : Nat → Int32} {Sc_codes : Nat → Int32} {Sc_size : Int32} {Ai_codes : Nat → Int32} {Ai_bits : Int32} {Cu_seen : Nat → Int32} {Cu_inThrees : Nat → Int32} {Cu_all : Int32} {Lo_asked : Nat → Nat → Int32} {Lo_ones : Nat → Nat → Int32} {Lo_sum : Nat → Nat → Int32} {Lo_wideSize : Nat → Int32} {Lo_sumSize : Nat → Int32} {Lo_flickers : Nat → Int32} {Lo_ready : Nat → Int32} {Wa_at : Int32} {Wa_turns : Int32} {Wa_changes : Int32} {post : Int32 → Prop} {x2 : Int32} (hw : wp_X7_keepersOf post Pt_lessers Pt_greaters Pt_size Sc_signals Sc_size x2) : Met l yX7_keepersOf (Cond.code yX7_keepersOf cX7_keepersOf 5 (some .int) :: wsL_law) (rmH 2) (va_Pc [.ref (q 12), .ref (q 5), .int x2] (fun U => va_P D vwCl (wC q cA Fc_unkept Fc_tablesRead Pg_letters Pg_size Pg_fault Pg_rows Pg_inRow Pg_width Fl_entries Fl_states Fl_columns Fl_moves Fl_stables Fl_amiss Fl_normal Pt_lessers Pt_greaters Pt_size Lc_signals Lc_kept Lc_keptFrom Lc_candidates Lc_size Sc_signals Sc_codes Sc_size Ai_codes Ai_bits Cu_seen Cu_inThrees Cu_all Lo_asked Lo_ones Lo_sum Lo_wideSize Lo_sumSize Lo_flickers Lo_ready Wa_at Wa_turns Wa_changes) U.heap ∧ va_K D vwCl (tyC cA) U ∧ nwC U)) (qRi post) 0 0 (fun _ => False) := by
  refine Met.ofW (cc := cX7_keepersOf) (maxL := 5) (ret := (some .int)) (by decide) rfl ?_
  intro p e s m args below meth c s₁ B hml hv
  obtain ⟨rfl, hP, hK, hN⟩ := hv
  have X : kC p (headSpec (Cond.code yX7_keepersOf cX7_keepersOf 5 (some .int) :: wsL_law) (rmH 2)).room s m _ meth c cX7_keepersOf RX7 5 (some .int) 2 := ⟨B.exec, B.bytes, hml, findClass_of_methodNamed B.named, fun w h => atoms_spec (ws := Cond.code yX7_keepersOf cX7_keepersOf 5 (some .int) :: wsL_law) B.pre w (List.mem_cons_of_mem _ h), B.returns, B.notSynchronized, Nat.le_refl _, Nat.le_refl _⟩
  obtain ⟨hx, hb, hml, hown, hts, hr, hlocks, hRf, hRl⟩ := id X
  have hl := lv_entry ([.ref (q 12), .ref (q 5), .int x2]) (n := 5) (Nat.le_of_ble_eq_true rfl)
  rw [lg_entry_eq]
  generalize (lg_sl ([.ref (q 12), .ref (q 5), .int x2]) ++ List.replicate (5 - (lg_sl ([.ref (q 12), .ref (q 5), .int x2])).length) Slot.unset).toArray = ls at hl ⊢
  have hl : lv_has ls 5 [(0, .ref (q 12)), (1, .ref (q 5)), (2, .int x2)] := hl
  refine lv_iconst (v := (0 : Int32)) hx hb dX7_keepersOf_0 (by decide) ?_
  refine lv_istore_n (lv' := [(3, .int (0 : Int32)), (0, .ref (q 12)), (1, .ref (q 5)), (2, .int x2)]) hx hb dX7_keepersOf_1 rfl hl (by decide) rfl (fun ls hl => ?_)
  refine lv_iconst (v := (0 : Int32)) hx hb dX7_keepersOf_2 (by decide) ?_
  refine lv_istore (lv' := [(4, .int (0 : Int32)), (3, .int (0 : Int32)), (0, .ref (q 12)), (1, .ref (q 5)), (2, .int x2)]) hx hb dX7_keepersOf_3 hl (by decide) rfl (fun ls hl => ?_)
  obtain ⟨n_8, hw⟩ := hw
  refine t_X7_keepersOf_5 X hK hN hP (fun x3_8 hw ls hl => ?_) n_8 _ _ hw ls (lv_sub hl [2, 3, 4, 1, 0] rfl)
  refine lv_iload_n hx hb dX7_keepersOf_38 rfl (lv_at hl 0 rfl) ?_
  exact rt_i hx hb hr hlocks hw dX7_keepersOf_39
set_option maxHeartbeats 4000000 in
set_option maxRecDepth 100000 in
theorem t_X7_countUnkept_4 {p : Program} {l : Launch} {e : Env} {R : Room} {s : State} {m : MethodId} {args : Array Value} {below : List Frame} {meth : Method} {c : Code} {D : va_G} {q : Nat → Nat} {cA : Nat → ClassId} {Fc_unkept : Int32} {Fc_tablesRead : Int32} {Pg_letters : Nat → Int32} {Pg_size : Int32} {Pg_fault : Int32} {Pg_rows : Int32} {Pg_inRow : Int32} {Pg_width : Int32} {Fl_entries : Nat → Int32} {Fl_states : Int32} {Fl_columns : Int32} {Fl_moves : Int32} {Fl_stables : Int32} {Fl_amiss : Int32} {Fl_normal : Int32} {Pt_lessers : Nat → Int32} {Pt_greaters : Nat → Int32} {Pt_size : Int32} {Lc_signals : Nat → Int32} {Lc_kept : Nat → Int64} {Lc_keptFrom : Nat → Int64} {Lc_candidates : Int32} {Lc_size : Int32} {Sc_signals : Nat → Int32} {Sc_codes : Nat → Int32} {Sc_size : Int32} {Ai_codes : Nat → Int32} {Ai_bits : Int32} {Cu_seen : Nat → Int32} {Cu_inThrees : Nat → Int32} {Cu_all : Int32} {Lo_asked : Nat → Nat → Int32} {Lo_ones : Nat → Nat → Int32} {Lo_sum : Nat → Nat → Int32} {Lo_wideSize : Nat → Int32} {Lo_sumSize : Nat → Int32} {Lo_flickers : Nat → Int32} {Lo_ready : Nat → Int32} {Wa_at : Int32} {Wa_turns : Int32} {Wa_changes : Int32} {post : Int32 → Prop} {KE : Int32 → Prop} (X : kC p R s m args meth c cX7_countUnkept RX7 4 (some .int) 3) (hK : va_K D vwCl (tyC cA) s) (hN : nwC s) (hP : va_P D vwCl (wC q cA Fc_unkept Fc_tablesRead Pg_letters Pg_size Pg_fault Pg_rows Pg_inRow Pg_width Fl_entries Fl_states Fl_columns Fl_moves Fl_stables Fl_amiss Fl_normal Pt_lessers Pt_greaters Pt_size Lc_signals Lc_kept Lc_keptFrom Lc_candidates Lc_size Sc_signals Sc_codes Sc_size Ai_codes Ai_bits Cu_seen Cu_inThrees Cu_all Lo_asked Lo_ones Lo_sum Lo_wideSize Lo_sumSize Lo_flickers Lo_ready Wa_at Wa_turns Wa_changes) s.heap) (hE : ∀ (x2 : Int32), KE x2 → ∀ (ls : Array Slot), lv_has ls 4 [(2, .int x2)] → W p l e R s m args below meth c s.heap [] 0 0 (MQ below (qRi post) args s 0 0 (fun _ => False)) (F0 m 30 ls [])) : ∀ (n : Nat) (x2 : Int32) (x3 : Int32), w_X7_countUnkept_4 KE Pt_lessers Pt_greaters Pt_size Sc_signals Sc_size n x2 x3 → ∀ (ls : Array Slot), lv_has ls 4 [(0, .ref (q 12)), (1, .ref (q 5)), (2, .int x2), (3, .int x3)] → W p l e R s m args below meth c s.heap [] 0 0 (MQ below (qRi post) args s 0 0 (fun _ => False)) (F0 m 4 ls []) := by
  obtain ⟨hx, hb, hml, hown, hts, hr, hlocks, hRf, hRl⟩ := id X
  intro n
  induction n with
  | zero => intro x2 x3 hw; exact (show False from hw).elim
  | succ n ih =>
    intro x2 x3 hw ls hl
    refine lv_iload_n hx hb dX7_countUnkept_4 rfl (lv_at hl 3 rfl) ?_
    refine lv_aload_n hx hb dX7_countUnkept_5 rfl (lv_at hl 1 rfl) ?_
    refine gRX7_48 hx hb hown hts hK hN hP dX7_countUnkept_6 ?_
    refine lv_icmp_ge (tgt := 30) hx hb dX7_countUnkept_9 (by decide) (fun c_1 => ?_) (fun c_1 => ?_)
    · have hw := hw.1 c_1
      exact hE _ hw ls (lv_sub hl [2] rfl)
    · have hw := hw.2 c_1
      refine lv_aload_n hx hb dX7_countUnkept_12 rfl (lv_at hl 0 rfl) ?_
      refine lv_aload_n hx hb dX7_countUnkept_13 rfl (lv_at hl 1 rfl) ?_
      refine lv_iload_n hx hb dX7_countUnkept_14 rfl (lv_at hl 3 rfl) ?_
      refine ro_i (va_runV (As := [.ref (q 5), .int x3]) (rest := []) ⟨hx, hb, hml, hown, hts⟩ (c_X7_keepersOf l hw) (kRX7_49 (h := 2) hts (Nat.le_trans (Nat.le_of_ble_eq_true rfl) hRf) (Nat.le_trans (Nat.le_of_ble_eq_true rfl) hRl)) (preX7 hK hN hP) rfl rfl hl.1 rfl (lv_room (Nat.le_of_ble_eq_true rfl)) dX7_countUnkept_15 ⟨Nat.zero_le _, Nat.zero_le _⟩) (fun r_2 hw => ?_)
      refine lv_if_ne (tgt := 24) hx hb dX7_countUnkept_18 (by decide) (fun c_3 => ?_) (fun c_3 => ?_)
      · have hw := hw.2 c_3
        obtain ⟨x3_4, e_4⟩ : ∃ z : Int32, z = x3 + (1 : Int32) := ⟨_, rfl⟩
        have hw := hw x3_4 e_4
        refine lv_iinc (v := x3_4) (lv' := [(3, .int x3_4), (0, .ref (q 12)), (1, .ref (q 5)), (2, .int x2)]) hx hb dX7_countUnkept_24 hl (k := 3) rfl (by rw [e_4]; rfl) (by decide) rfl (fun ls hl => ?_)
        refine lv_goto (tgt := 4) hx hb dX7_countUnkept_27 (by decide) ?_
        exact ih _ _ hw ls (lv_sub hl [1, 2, 3, 0] rfl)
      · have hw := hw.1 c_3
        obtain ⟨x2_5, e_5⟩ : ∃ z : Int32, z = x2 + (1 : Int32) := ⟨_, rfl⟩
        have hw := hw x2_5 e_5
        refine lv_iinc (v := x2_5) (lv' := [(2, .int x2_5), (0, .ref (q 12)), (1, .ref (q 5)), (3, .int x3)]) hx hb dX7_countUnkept_21 hl (k := 2) rfl (by rw [e_5]; rfl) (by decide) rfl (fun ls hl => ?_)
        obtain ⟨x3_6, e_6⟩ : ∃ z : Int32, z = x3 + (1 : Int32) := ⟨_, rfl⟩
        have hw := hw x3_6 e_6
        refine lv_iinc (v := x3_6) (lv' := [(3, .int x3_6), (2, .int x2_5), (0, .ref (q 12)), (1, .ref (q 5))]) hx hb dX7_countUnkept_24 hl (k := 3) rfl (by rw [e_6]; rfl) (by decide) rfl (fun ls hl => ?_)
        refine lv_goto (tgt := 4) hx hb dX7_countUnkept_27 (by decide) ?_
        exact ih _ _ hw ls (lv_sub hl [2, 3, 1, 0] rfl)
set_option maxHeartbeats 4000000 in
set_option maxRecDepth 100000 in
theorem c_X7_countUnkept (l : Launch) {D : va_G} {q : Nat → Nat} {cA : Nat → ClassId} {Fc_unkept : Int32} {Fc_tablesRead : Int32} {Pg_letters : Nat → Int32} {Pg_size : Int32} {Pg_fault : Int32} {Pg_rows : Int32} {Pg_inRow : Int32} {Pg_width : Int32} {Fl_entries : Nat → Int32} {Fl_states : Int32} {Fl_columns : Int32} {Fl_moves : Int32} {Fl_stables : Int32} {Fl_amiss : Int32} {Fl_normal : Int32} {Pt_lessers : Nat → Int32} {Pt_greaters : Nat → Int32} {Pt_size : Int32} {Lc_signals : Nat → Int32} {Lc_kept : Nat → Int64} {Lc_keptFrom : Nat → Int64} {Lc_candidates : Int32} {Lc_size : Int32} {Sc_signals : Nat → Int32} {Sc_codes : Nat → Int32} {Sc_size : Int32} {Ai_codes : Nat → Int32} {Ai_bits : Int32} {Cu_seen : Nat → Int32} {Cu_inThrees : Nat → Int32} {Cu_all : Int32} {Lo_asked : Nat → Nat → Int32} {Lo_ones : Nat → Nat → Int32} {Lo_sum : Nat → Nat → Int32} {Lo_wideSize : Nat → Int32} {Lo_sumSize : Nat → Int32} {Lo_flickers : Nat → Int32} {Lo_ready : Nat → Int32} {Wa_at : Int32} {Wa_turns : Int32} {Wa_changes : Int32} {post : Int32 → Prop}  (hw : wp_X7_countUnkept post Pt_lessers Pt_greaters Pt_size Sc_signals Sc_size ) : Met l yX7_countUnkept (Cond.code yX7_countUnkept cX7_countUnkept 4 (some .int) :: wsL_law) (rmH 3) (va_Pc [.ref (q 12), .ref (q 5)] (fun U => va_P D vwCl (wC q cA Fc_unkept Fc_tablesRead Pg_letters Pg_size Pg_fault Pg_rows Pg_inRow Pg_width Fl_entries Fl_states Fl_columns Fl_moves Fl_stables Fl_amiss Fl_normal Pt_lessers Pt_greaters Pt_size Lc_signals Lc_kept Lc_keptFrom Lc_candidates Lc_size Sc_signals Sc_codes Sc_size Ai_codes Ai_bits Cu_seen Cu_inThrees Cu_all Lo_asked Lo_ones Lo_sum Lo_wideSize Lo_sumSize Lo_flickers Lo_ready Wa_at Wa_turns Wa_changes) U.heap ∧ va_K D vwCl (tyC cA) U ∧ nwC U)) (qRi post) 0 0 (fun _ => False) := by
  refine Met.ofW (cc := cX7_countUnkept) (maxL := 4) (ret := (some .int)) (by decide) rfl ?_
  intro p e s m args below meth c s₁ B hml hv
  obtain ⟨rfl, hP, hK, hN⟩ := hv
  have X : kC p (headSpec (Cond.code yX7_countUnkept cX7_countUnkept 4 (some .int) :: wsL_law) (rmH 3)).room s m _ meth c cX7_countUnkept RX7 4 (some .int) 3 := ⟨B.exec, B.bytes, hml, findClass_of_methodNamed B.named, fun w h => atoms_spec (ws := Cond.code yX7_countUnkept cX7_countUnkept 4 (some .int) :: wsL_law) B.pre w (List.mem_cons_of_mem _ h), B.returns, B.notSynchronized, Nat.le_refl _, Nat.le_refl _⟩
  obtain ⟨hx, hb, hml, hown, hts, hr, hlocks, hRf, hRl⟩ := id X
  have hl := lv_entry ([.ref (q 12), .ref (q 5)]) (n := 4) (Nat.le_of_ble_eq_true rfl)
  rw [lg_entry_eq]
  generalize (lg_sl ([.ref (q 12), .ref (q 5)]) ++ List.replicate (4 - (lg_sl ([.ref (q 12), .ref (q 5)])).length) Slot.unset).toArray = ls at hl ⊢
  have hl : lv_has ls 4 [(0, .ref (q 12)), (1, .ref (q 5))] := hl
  refine lv_iconst (v := (0 : Int32)) hx hb dX7_countUnkept_0 (by decide) ?_
  refine lv_istore_n (lv' := [(2, .int (0 : Int32)), (0, .ref (q 12)), (1, .ref (q 5))]) hx hb dX7_countUnkept_1 rfl hl (by decide) rfl (fun ls hl => ?_)
  refine lv_iconst (v := (0 : Int32)) hx hb dX7_countUnkept_2 (by decide) ?_
  refine lv_istore_n (lv' := [(3, .int (0 : Int32)), (2, .int (0 : Int32)), (0, .ref (q 12)), (1, .ref (q 5))]) hx hb dX7_countUnkept_3 rfl hl (by decide) rfl (fun ls hl => ?_)
  obtain ⟨n_7, hw⟩ := hw
  refine t_X7_countUnkept_4 X hK hN hP (fun x2_7 hw ls hl => ?_) n_7 _ _ hw ls (lv_sub hl [2, 3, 1, 0] rfl)
  refine lv_iload_n hx hb dX7_countUnkept_30 rfl (lv_at hl 0 rfl) ?_
  exact rt_i hx hb hr hlocks hw dX7_countUnkept_31
set_option maxHeartbeats 4000000 in
set_option maxRecDepth 100000 in
theorem c_X9_isGood (l : Launch) {D : va_G} {q : Nat → Nat} {cA : Nat → ClassId} {Fc_unkept : Int32} {Fc_tablesRead : Int32} {Pg_letters : Nat → Int32} {Pg_size : Int32} {Pg_fault : Int32} {Pg_rows : Int32} {Pg_inRow : Int32} {Pg_width : Int32} {Fl_entries : Nat → Int32} {Fl_states : Int32} {Fl_columns : Int32} {Fl_moves : Int32} {Fl_stables : Int32} {Fl_amiss : Int32} {Fl_normal : Int32} {Pt_lessers : Nat → Int32} {Pt_greaters : Nat → Int32} {Pt_size : Int32} {Lc_signals : Nat → Int32} {Lc_kept : Nat → Int64} {Lc_keptFrom : Nat → Int64} {Lc_candidates : Int32} {Lc_size : Int32} {Sc_signals : Nat → Int32} {Sc_codes : Nat → Int32} {Sc_size : Int32} {Ai_codes : Nat → Int32} {Ai_bits : Int32} {Cu_seen : Nat → Int32} {Cu_inThrees : Nat → Int32} {Cu_all : Int32} {Lo_asked : Nat → Nat → Int32} {Lo_ones : Nat → Nat → Int32} {Lo_sum : Nat → Nat → Int32} {Lo_wideSize : Nat → Int32} {Lo_sumSize : Nat → Int32} {Lo_flickers : Nat → Int32} {Lo_ready : Nat → Int32} {Wa_at : Int32} {Wa_turns : Int32} {Wa_changes : Int32} {post : Int32 → Prop}  (hw : wp_X9_isGood post Fc_unkept Fl_normal ) : Met l yX9_isGood (Cond.code yX9_isGood cX9_isGood 1 (some .boolean) :: wsL_law) (rmH 0) (va_Pc [.ref (q 0)] (fun U => va_P D vwCl (wC q cA Fc_unkept Fc_tablesRead Pg_letters Pg_size Pg_fault Pg_rows Pg_inRow Pg_width Fl_entries Fl_states Fl_columns Fl_moves Fl_stables Fl_amiss Fl_normal Pt_lessers Pt_greaters Pt_size Lc_signals Lc_kept Lc_keptFrom Lc_candidates Lc_size Sc_signals Sc_codes Sc_size Ai_codes Ai_bits Cu_seen Cu_inThrees Cu_all Lo_asked Lo_ones Lo_sum Lo_wideSize Lo_sumSize Lo_flickers Lo_ready Wa_at Wa_turns Wa_changes) U.heap ∧ va_K D vwCl (tyC cA) U ∧ nwC U)) (qRi post) 0 0 (fun _ => False) := by
  refine Met.ofW (cc := cX9_isGood) (maxL := 1) (ret := (some .boolean)) (by decide) rfl ?_
  intro p e s m args below meth c s₁ B hml hv
  obtain ⟨rfl, hP, hK, hN⟩ := hv
  have X : kC p (headSpec (Cond.code yX9_isGood cX9_isGood 1 (some .boolean) :: wsL_law) (rmH 0)).room s m _ meth c cX9_isGood RX9 1 (some .boolean) 0 := ⟨B.exec, B.bytes, hml, findClass_of_methodNamed B.named, fun w h => atoms_spec (ws := Cond.code yX9_isGood cX9_isGood 1 (some .boolean) :: wsL_law) B.pre w (List.mem_cons_of_mem _ h), B.returns, B.notSynchronized, Nat.le_refl _, Nat.le_refl _⟩
  obtain ⟨hx, hb, hml, hown, hts, hr, hlocks, hRf, hRl⟩ := id X
  have hl := lv_entry ([.ref (q 0)]) (n := 1) (Nat.le_of_ble_eq_true rfl)
  rw [lg_entry_eq]
  generalize (lg_sl ([.ref (q 0)]) ++ List.replicate (1 - (lg_sl ([.ref (q 0)])).length) Slot.unset).toArray = ls at hl ⊢
  have hl : lv_has ls 1 [(0, .ref (q 0))] := hl
  refine lv_aload_n hx hb dX9_isGood_0 rfl (lv_at hl 0 rfl) ?_
  refine gRX9_19 hx hb hown hts hK hP dX9_isGood_1 ?_
  refine gRX9_110 hx hb hown hts hK hN hP dX9_isGood_4 ?_
  refine lv_if_eq (tgt := 21) hx hb dX9_isGood_7 (by decide) (fun c_1 => ?_) (fun c_1 => ?_)
  · have hw := hw.1 c_1
    refine lv_iconst (v := (0 : Int32)) hx hb dX9_isGood_21 (by decide) ?_
    exact rt_z hx hb hr hlocks rfl hw dX9_isGood_22
  · have hw := hw.2 c_1
    refine lv_aload_n hx hb dX9_isGood_10 rfl (lv_at hl 0 rfl) ?_
    refine gRX9_72 hx hb hown hts hK hP dX9_isGood_11 ?_
    refine lv_if_ne (tgt := 21) hx hb dX9_isGood_14 (by decide) (fun c_2 => ?_) (fun c_2 => ?_)
    · have hw := hw.2 c_2
      refine lv_iconst (v := (0 : Int32)) hx hb dX9_isGood_21 (by decide) ?_
      exact rt_z hx hb hr hlocks rfl hw dX9_isGood_22
    · have hw := hw.1 c_2
      refine lv_iconst (v := (1 : Int32)) hx hb dX9_isGood_17 (by decide) ?_
      refine lv_goto (tgt := 22) hx hb dX9_isGood_18 (by decide) ?_
      exact rt_z hx hb hr hlocks rfl hw dX9_isGood_22
set_option maxHeartbeats 4000000 in
set_option maxRecDepth 100000 in
theorem c_X7_codeOf (l : Launch) {D : va_G} {q : Nat → Nat} {cA : Nat → ClassId} {Fc_unkept : Int32} {Fc_tablesRead : Int32} {Pg_letters : Nat → Int32} {Pg_size : Int32} {Pg_fault : Int32} {Pg_rows : Int32} {Pg_inRow : Int32} {Pg_width : Int32} {Fl_entries : Nat → Int32} {Fl_states : Int32} {Fl_columns : Int32} {Fl_moves : Int32} {Fl_stables : Int32} {Fl_amiss : Int32} {Fl_normal : Int32} {Pt_lessers : Nat → Int32} {Pt_greaters : Nat → Int32} {Pt_size : Int32} {Lc_signals : Nat → Int32} {Lc_kept : Nat → Int64} {Lc_keptFrom : Nat → Int64} {Lc_candidates : Int32} {Lc_size : Int32} {Sc_signals : Nat → Int32} {Sc_codes : Nat → Int32} {Sc_size : Int32} {Ai_codes : Nat → Int32} {Ai_bits : Int32} {Cu_seen : Nat → Int32} {Cu_inThrees : Nat → Int32} {Cu_all : Int32} {Lo_asked : Nat → Nat → Int32} {Lo_ones : Nat → Nat → Int32} {Lo_sum : Nat → Nat → Int32} {Lo_wideSize : Nat → Int32} {Lo_sumSize : Nat → Int32} {Lo_flickers : Nat → Int32} {Lo_ready : Nat → Int32} {Wa_at : Int32} {Wa_turns : Int32} {Wa_changes : Int32} {post : Int32 → Prop} {x1 : Int32} (hw : wp_X7_codeOf post Sc_codes x1) : Met l yX7_codeOf (Cond.code yX7_codeOf cX7_codeOf 2 (some .int) :: wsL_law) (rmH 0) (va_Pc [.ref (q 12), .int x1] (fun U => va_P D vwCl (wC q cA Fc_unkept Fc_tablesRead Pg_letters Pg_size Pg_fault Pg_rows Pg_inRow Pg_width Fl_entries Fl_states Fl_columns Fl_moves Fl_stables Fl_amiss Fl_normal Pt_lessers Pt_greaters Pt_size Lc_signals Lc_kept Lc_keptFrom Lc_candidates Lc_size Sc_signals Sc_codes Sc_size Ai_codes Ai_bits Cu_seen Cu_inThrees Cu_all Lo_asked Lo_ones Lo_sum Lo_wideSize Lo_sumSize Lo_flickers Lo_ready Wa_at Wa_turns Wa_changes) U.heap ∧ va_K D vwCl (tyC cA) U ∧ nwC U)) (qRi post) 0 0 (fun _ => False) := by
  refine Met.ofW (cc := cX7_codeOf) (maxL := 2) (ret := (some .int)) (by decide) rfl ?_
  intro p e s m args below meth c s₁ B hml hv
  obtain ⟨rfl, hP, hK, hN⟩ := hv
  have X : kC p (headSpec (Cond.code yX7_codeOf cX7_codeOf 2 (some .int) :: wsL_law) (rmH 0)).room s m _ meth c cX7_codeOf RX7 2 (some .int) 0 := ⟨B.exec, B.bytes, hml, findClass_of_methodNamed B.named, fun w h => atoms_spec (ws := Cond.code yX7_codeOf cX7_codeOf 2 (some .int) :: wsL_law) B.pre w (List.mem_cons_of_mem _ h), B.returns, B.notSynchronized, Nat.le_refl _, Nat.le_refl _⟩
  obtain ⟨hx, hb, hml, hown, hts, hr, hlocks, hRf, hRl⟩ := id X
  have hl := lv_entry ([.ref (q 12), .int x1]) (n := 2) (Nat.le_of_ble_eq_true rfl)
  rw [lg_entry_eq]
  generalize (lg_sl ([.ref (q 12), .int x1]) ++ List.replicate (2 - (lg_sl ([.ref (q 12), .int x1])).length) Slot.unset).toArray = ls at hl ⊢
  have hl : lv_has ls 2 [(0, .ref (q 12)), (1, .int x1)] := hl
  refine lv_iload_n hx hb dX7_codeOf_0 rfl (lv_at hl 1 rfl) ?_
  refine lv_if_lt (tgt := 19) hx hb dX7_codeOf_1 (by decide) (fun c_1 => ?_) (fun c_1 => ?_)
  · have hw := hw.1 c_1
    refine lv_iconst (v := (0 : Int32)) hx hb dX7_codeOf_19 (by decide) ?_
    exact rt_i hx hb hr hlocks hw dX7_codeOf_20
  · have hw := hw.2 c_1
    refine lv_iload_n hx hb dX7_codeOf_4 rfl (lv_at hl 1 rfl) ?_
    refine lv_bipush (v := (6 : Int32)) hx hb dX7_codeOf_5 (by decide +kernel) ?_
    refine lv_icmp_ge (tgt := 19) hx hb dX7_codeOf_7 (by decide) (fun c_2 => ?_) (fun c_2 => ?_)
    · have hw := hw.1 c_2
      refine lv_iconst (v := (0 : Int32)) hx hb dX7_codeOf_19 (by decide) ?_
      exact rt_i hx hb hr hlocks hw dX7_codeOf_20
    · have hw := hw.2 c_2
      refine lv_aload_n hx hb dX7_codeOf_10 rfl (lv_at hl 0 rfl) ?_
      refine gRX7_15 hx hb hown hts hK hP dX7_codeOf_11 ?_
      refine lv_iload_n hx hb dX7_codeOf_14 rfl (lv_at hl 1 rfl) ?_
      have h_3 := hw.1
      have hw := hw.2
      refine ld_Sc_codes hx hb hK hP h_3 dX7_codeOf_15 ?_
      refine lv_goto (tgt := 20) hx hb dX7_codeOf_16 (by decide) ?_
      exact rt_i hx hb hr hlocks hw dX7_codeOf_20
abbrev Z_X0_chartWay (D : va_G) (q : Nat → Nat) (cA : Nat → ClassId) (Fc_unkept : Int32) (Fc_tablesRead : Int32) (Pg_letters : Nat → Int32) (Pg_size : Int32) (Pg_fault : Int32) (Pg_rows : Int32) (Pg_inRow : Int32) (Pg_width : Int32) (Fl_entries : Nat → Int32) (Fl_states : Int32) (Fl_columns : Int32) (Fl_moves : Int32) (Fl_stables : Int32) (Fl_amiss : Int32) (Fl_normal : Int32) (Pt_lessers : Nat → Int32) (Pt_greaters : Nat → Int32) (Pt_size : Int32) (Lc_signals : Nat → Int32) (Lc_kept : Nat → Int64) (Lc_keptFrom : Nat → Int64) (Lc_candidates : Int32) (Lc_size : Int32) (Sc_signals : Nat → Int32) (Sc_codes : Nat → Int32) (Sc_size : Int32) (Ai_bits : Int32) (Cu_seen : Nat → Int32) (Cu_inThrees : Nat → Int32) (Cu_all : Int32) (Lo_asked : Nat → Nat → Int32) (Lo_ones : Nat → Nat → Int32) (Lo_sum : Nat → Nat → Int32) (Lo_wideSize : Nat → Int32) (Lo_sumSize : Nat → Int32) (Lo_flickers : Nat → Int32) (Lo_ready : Nat → Int32) (Wa_at : Int32) (Wa_turns : Int32) (Wa_changes : Int32) (post : (Nat → Int32) → Prop) : State → Prop := fun t => ∃ (y_Ai_codes : Nat → Int32), post y_Ai_codes ∧ va_P D vwCl (wC q cA Fc_unkept Fc_tablesRead Pg_letters Pg_size Pg_fault Pg_rows Pg_inRow Pg_width Fl_entries Fl_states Fl_columns Fl_moves Fl_stables Fl_amiss Fl_normal Pt_lessers Pt_greaters Pt_size Lc_signals Lc_kept Lc_keptFrom Lc_candidates Lc_size Sc_signals Sc_codes Sc_size y_Ai_codes Ai_bits Cu_seen Cu_inThrees Cu_all Lo_asked Lo_ones Lo_sum Lo_wideSize Lo_sumSize Lo_flickers Lo_ready Wa_at Wa_turns Wa_changes) t.heap
set_option maxHeartbeats 4000000 in
set_option maxRecDepth 100000 in
theorem t_X0_chartWay_8 {p : Program} {l : Launch} {e : Env} {R : Room} {s : State} {m : MethodId} {args : Array Value} {below : List Frame} {meth : Method} {c : Code} {A : Nat → Prop} {D : va_G} {q : Nat → Nat} {cA : Nat → ClassId} {Fc_unkept : Int32} {Fc_tablesRead : Int32} {Pg_letters : Nat → Int32} {Pg_size : Int32} {Pg_fault : Int32} {Pg_rows : Int32} {Pg_inRow : Int32} {Pg_width : Int32} {Fl_entries : Nat → Int32} {Fl_states : Int32} {Fl_columns : Int32} {Fl_moves : Int32} {Fl_stables : Int32} {Fl_amiss : Int32} {Fl_normal : Int32} {Pt_lessers : Nat → Int32} {Pt_greaters : Nat → Int32} {Pt_size : Int32} {Lc_signals : Nat → Int32} {Lc_kept : Nat → Int64} {Lc_keptFrom : Nat → Int64} {Lc_candidates : Int32} {Lc_size : Int32} {Sc_signals : Nat → Int32} {Sc_codes : Nat → Int32} {Sc_size : Int32} {Ai_bits : Int32} {Cu_seen : Nat → Int32} {Cu_inThrees : Nat → Int32} {Cu_all : Int32} {Lo_asked : Nat → Nat → Int32} {Lo_ones : Nat → Nat → Int32} {Lo_sum : Nat → Nat → Int32} {Lo_wideSize : Nat → Int32} {Lo_sumSize : Nat → Int32} {Lo_flickers : Nat → Int32} {Lo_ready : Nat → Int32} {Wa_at : Int32} {Wa_turns : Int32} {Wa_changes : Int32} {post : (Nat → Int32) → Prop} {KE : (Nat → Int32) → Prop} {x1 : Int32} {x2 : Int32} {x3 : Int32} {x4 : Int32} (X : kC p R s m args meth c cX0_chartWay RX0 6 none 0) (hK : va_K D vwCl (tyC cA) s) (hN : nwC s) (hE : ∀ (Ai_codes : Nat → Int32), KE Ai_codes → ∀ (ls : Array Slot) (H : Heap) (locs : List Loc), lv_has ls 6 [] → va_P D vwCl (wC q cA Fc_unkept Fc_tablesRead Pg_letters Pg_size Pg_fault Pg_rows Pg_inRow Pg_width Fl_entries Fl_states Fl_columns Fl_moves Fl_stables Fl_amiss Fl_normal Pt_lessers Pt_greaters Pt_size Lc_signals Lc_kept Lc_keptFrom Lc_candidates Lc_size Sc_signals Sc_codes Sc_size Ai_codes Ai_bits Cu_seen Cu_inThrees Cu_all Lo_asked Lo_ones Lo_sum Lo_wideSize Lo_sumSize Lo_flickers Lo_ready Wa_at Wa_turns Wa_changes) H → va_D A (wC q cA Fc_unkept Fc_tablesRead Pg_letters Pg_size Pg_fault Pg_rows Pg_inRow Pg_width Fl_entries Fl_states Fl_columns Fl_moves Fl_stables Fl_amiss Fl_normal Pt_lessers Pt_greaters Pt_size Lc_signals Lc_kept Lc_keptFrom Lc_candidates Lc_size Sc_signals Sc_codes Sc_size Ai_codes Ai_bits Cu_seen Cu_inThrees Cu_all Lo_asked Lo_ones Lo_sum Lo_wideSize Lo_sumSize Lo_flickers Lo_ready Wa_at Wa_turns Wa_changes) → va_S A s.heap H locs → W p l e R s m args below meth c H locs 0 0 (MQ below (qWv (Z_X0_chartWay D q cA Fc_unkept Fc_tablesRead Pg_letters Pg_size Pg_fault Pg_rows Pg_inRow Pg_width Fl_entries Fl_states Fl_columns Fl_moves Fl_stables Fl_amiss Fl_normal Pt_lessers Pt_greaters Pt_size Lc_signals Lc_kept Lc_keptFrom Lc_candidates Lc_size Sc_signals Sc_codes Sc_size Ai_bits Cu_seen Cu_inThrees Cu_all Lo_asked Lo_ones Lo_sum Lo_wideSize Lo_sumSize Lo_flickers Lo_ready Wa_at Wa_turns Wa_changes post) A) args s 0 0 A) (F0 m 45 ls [])) : ∀ (n : Nat) (x5 : Int32) (Ai_codes : Nat → Int32), w_X0_chartWay_8 KE x1 x2 x3 x4 n x5 Ai_codes → ∀ (ls : Array Slot) (H : Heap) (locs : List Loc), lv_has ls 6 [(0, .ref (q 15)), (1, .int x1), (2, .int x2), (3, .int x3), (4, .int x4), (5, .int x5)] → va_P D vwCl (wC q cA Fc_unkept Fc_tablesRead Pg_letters Pg_size Pg_fault Pg_rows Pg_inRow Pg_width Fl_entries Fl_states Fl_columns Fl_moves Fl_stables Fl_amiss Fl_normal Pt_lessers Pt_greaters Pt_size Lc_signals Lc_kept Lc_keptFrom Lc_candidates Lc_size Sc_signals Sc_codes Sc_size Ai_codes Ai_bits Cu_seen Cu_inThrees Cu_all Lo_asked Lo_ones Lo_sum Lo_wideSize Lo_sumSize Lo_flickers Lo_ready Wa_at Wa_turns Wa_changes) H → va_D A (wC q cA Fc_unkept Fc_tablesRead Pg_letters Pg_size Pg_fault Pg_rows Pg_inRow Pg_width Fl_entries Fl_states Fl_columns Fl_moves Fl_stables Fl_amiss Fl_normal Pt_lessers Pt_greaters Pt_size Lc_signals Lc_kept Lc_keptFrom Lc_candidates Lc_size Sc_signals Sc_codes Sc_size Ai_codes Ai_bits Cu_seen Cu_inThrees Cu_all Lo_asked Lo_ones Lo_sum Lo_wideSize Lo_sumSize Lo_flickers Lo_ready Wa_at Wa_turns Wa_changes) → va_S A s.heap H locs → W p l e R s m args below meth c H locs 0 0 (MQ below (qWv (Z_X0_chartWay D q cA Fc_unkept Fc_tablesRead Pg_letters Pg_size Pg_fault Pg_rows Pg_inRow Pg_width Fl_entries Fl_states Fl_columns Fl_moves Fl_stables Fl_amiss Fl_normal Pt_lessers Pt_greaters Pt_size Lc_signals Lc_kept Lc_keptFrom Lc_candidates Lc_size Sc_signals Sc_codes Sc_size Ai_bits Cu_seen Cu_inThrees Cu_all Lo_asked Lo_ones Lo_sum Lo_wideSize Lo_sumSize Lo_flickers Lo_ready Wa_at Wa_turns Wa_changes post) A) args s 0 0 A) (F0 m 8 ls []) := by
  obtain ⟨hx, hb, hml, hown, hts, hr, hlocks, hRf, hRl⟩ := id X
  intro n
  induction n with
  | zero => intro x5 Ai_codes hw; exact (show False from hw).elim
  | succ n ih =>
    intro x5 Ai_codes hw ls H locs hl hP hD hS
    refine lv_iload hx hb dX0_chartWay_8 (lv_at hl 5 rfl) ?_
    refine lv_bipush (v := (32 : Int32)) hx hb dX0_chartWay_10 (by decide +kernel) ?_
    refine lv_icmp_ge (tgt := 45) hx hb dX0_chartWay_12 (by decide) (fun c_2 => ?_) (fun c_2 => ?_)
    · have hw := hw.1 c_2
      exact hE _ hw ls _ _ (lv_sub hl [] rfl) hP hD hS
    · have hw := hw.2 c_2
      refine lv_iload hx hb dX0_chartWay_15 (lv_at hl 5 rfl) ?_
      refine lv_iload_n hx hb dX0_chartWay_17 rfl (lv_at hl 2 rfl) ?_
      refine lv_ixor hx hb dX0_chartWay_18 ?_
      refine lv_iload hx hb dX0_chartWay_19 (lv_at hl 4 rfl) ?_
      refine lv_iconst (v := ((-1) : Int32)) hx hb dX0_chartWay_21 (by decide) ?_
      refine lv_ixor hx hb dX0_chartWay_22 ?_
      refine lv_iand hx hb dX0_chartWay_23 ?_
      refine lv_if_ne (tgt := 39) hx hb dX0_chartWay_24 (by decide) (fun c_3 => ?_) (fun c_3 => ?_)
      · have hw := hw.2 c_3
        obtain ⟨x5_4, e_4⟩ : ∃ z : Int32, z = x5 + (1 : Int32) := ⟨_, rfl⟩
        have hw := hw x5_4 e_4
        refine lv_iinc (v := x5_4) (lv' := [(5, .int x5_4), (0, .ref (q 15)), (1, .int x1), (2, .int x2), (3, .int x3), (4, .int x4)]) hx hb dX0_chartWay_39 hl (k := 5) rfl (by rw [e_4]; rfl) (by decide) rfl (fun ls hl => ?_)
        refine lv_goto (tgt := 8) hx hb dX0_chartWay_42 (by decide) ?_
        exact ih _ _ hw ls _ _ (lv_sub hl [1, 2, 3, 4, 5, 0] rfl) hP hD hS
      · have hw := hw.1 c_3
        refine lv_aload_n hx hb dX0_chartWay_27 rfl (lv_at hl 0 rfl) ?_
        refine gRX0_9 hx hb hown hts hK hP dX0_chartWay_28 ?_
        refine lv_iload hx hb dX0_chartWay_31 (lv_at hl 5 rfl) ?_
        refine lv_iconst (v := (2 : Int32)) hx hb dX0_chartWay_33 (by decide) ?_
        refine lv_ishl hx hb dX0_chartWay_34 ?_
        refine lv_iload_n hx hb dX0_chartWay_35 rfl (lv_at hl 1 rfl) ?_
        refine lv_iadd hx hb dX0_chartWay_36 ?_
        refine lv_iload_n hx hb dX0_chartWay_37 rfl (lv_at hl 3 rfl) ?_
        have h_5 := hw.1
        have hw := hw.2
        refine st_Ai_codes hx hb hK hP hD hS h_5 dX0_chartWay_38 (fun H locs a_5 e_5 hP hD hS => ?_)
        have hw := hw a_5 e_5
        obtain ⟨x5_6, e_6⟩ : ∃ z : Int32, z = x5 + (1 : Int32) := ⟨_, rfl⟩
        have hw := hw x5_6 e_6
        refine lv_iinc (v := x5_6) (lv' := [(5, .int x5_6), (0, .ref (q 15)), (1, .int x1), (2, .int x2), (3, .int x3), (4, .int x4)]) hx hb dX0_chartWay_39 hl (k := 5) rfl (by rw [e_6]; rfl) (by decide) rfl (fun ls hl => ?_)
        refine lv_goto (tgt := 8) hx hb dX0_chartWay_42 (by decide) ?_
        exact ih _ _ hw ls _ _ (lv_sub hl [1, 2, 3, 4, 5, 0] rfl) hP hD hS
set_option maxHeartbeats 4000000 in
set_option maxRecDepth 100000 in
theorem c_X0_chartWay (l : Launch) {D : va_G} {q : Nat → Nat} {cA : Nat → ClassId} {Fc_unkept : Int32} {Fc_tablesRead : Int32} {Pg_letters : Nat → Int32} {Pg_size : Int32} {Pg_fault : Int32} {Pg_rows : Int32} {Pg_inRow : Int32} {Pg_width : Int32} {Fl_entries : Nat → Int32} {Fl_states : Int32} {Fl_columns : Int32} {Fl_moves : Int32} {Fl_stables : Int32} {Fl_amiss : Int32} {Fl_normal : Int32} {Pt_lessers : Nat → Int32} {Pt_greaters : Nat → Int32} {Pt_size : Int32} {Lc_signals : Nat → Int32} {Lc_kept : Nat → Int64} {Lc_keptFrom : Nat → Int64} {Lc_candidates : Int32} {Lc_size : Int32} {Sc_signals : Nat → Int32} {Sc_codes : Nat → Int32} {Sc_size : Int32} {Ai_codes : Nat → Int32} {Ai_bits : Int32} {Cu_seen : Nat → Int32} {Cu_inThrees : Nat → Int32} {Cu_all : Int32} {Lo_asked : Nat → Nat → Int32} {Lo_ones : Nat → Nat → Int32} {Lo_sum : Nat → Nat → Int32} {Lo_wideSize : Nat → Int32} {Lo_sumSize : Nat → Int32} {Lo_flickers : Nat → Int32} {Lo_ready : Nat → Int32} {Wa_at : Int32} {Wa_turns : Int32} {Wa_changes : Int32} {A : Nat → Prop} {post : (Nat → Int32) → Prop} {x1 : Int32} {x2 : Int32} {x3 : Int32} (hw : wp_X0_chartWay post Ai_codes x1 x2 x3) : Met l yX0_chartWay (Cond.code yX0_chartWay cX0_chartWay 6 none :: wsL_law) (rmH 0) (va_Pc [.ref (q 15), .int x1, .int x2, .int x3] (fun U => va_P D vwCl (wC q cA Fc_unkept Fc_tablesRead Pg_letters Pg_size Pg_fault Pg_rows Pg_inRow Pg_width Fl_entries Fl_states Fl_columns Fl_moves Fl_stables Fl_amiss Fl_normal Pt_lessers Pt_greaters Pt_size Lc_signals Lc_kept Lc_keptFrom Lc_candidates Lc_size Sc_signals Sc_codes Sc_size Ai_codes Ai_bits Cu_seen Cu_inThrees Cu_all Lo_asked Lo_ones Lo_sum Lo_wideSize Lo_sumSize Lo_flickers Lo_ready Wa_at Wa_turns Wa_changes) U.heap ∧ va_K D vwCl (tyC cA) U ∧ nwC U ∧ va_D A (wC q cA Fc_unkept Fc_tablesRead Pg_letters Pg_size Pg_fault Pg_rows Pg_inRow Pg_width Fl_entries Fl_states Fl_columns Fl_moves Fl_stables Fl_amiss Fl_normal Pt_lessers Pt_greaters Pt_size Lc_signals Lc_kept Lc_keptFrom Lc_candidates Lc_size Sc_signals Sc_codes Sc_size Ai_codes Ai_bits Cu_seen Cu_inThrees Cu_all Lo_asked Lo_ones Lo_sum Lo_wideSize Lo_sumSize Lo_flickers Lo_ready Wa_at Wa_turns Wa_changes))) (qWv (Z_X0_chartWay D q cA Fc_unkept Fc_tablesRead Pg_letters Pg_size Pg_fault Pg_rows Pg_inRow Pg_width Fl_entries Fl_states Fl_columns Fl_moves Fl_stables Fl_amiss Fl_normal Pt_lessers Pt_greaters Pt_size Lc_signals Lc_kept Lc_keptFrom Lc_candidates Lc_size Sc_signals Sc_codes Sc_size Ai_bits Cu_seen Cu_inThrees Cu_all Lo_asked Lo_ones Lo_sum Lo_wideSize Lo_sumSize Lo_flickers Lo_ready Wa_at Wa_turns Wa_changes post) A) 0 0 A := by
  refine Met.ofW (cc := cX0_chartWay) (maxL := 6) (ret := none) (by decide) rfl ?_
  intro p e s m args below meth c s₁ B hml hv
  obtain ⟨rfl, hP, hK, hN, hD⟩ := hv
  have X : kC p (headSpec (Cond.code yX0_chartWay cX0_chartWay 6 none :: wsL_law) (rmH 0)).room s m _ meth c cX0_chartWay RX0 6 none 0 := ⟨B.exec, B.bytes, hml, findClass_of_methodNamed B.named, fun w h => atoms_spec (ws := Cond.code yX0_chartWay cX0_chartWay 6 none :: wsL_law) B.pre w (List.mem_cons_of_mem _ h), B.returns, B.notSynchronized, Nat.le_refl _, Nat.le_refl _⟩
  obtain ⟨hx, hb, hml, hown, hts, hr, hlocks, hRf, hRl⟩ := id X
  have hS : va_S A s.heap s.heap [] := va_S.rf
  have hl := lv_entry ([.ref (q 15), .int x1, .int x2, .int x3]) (n := 6) (Nat.le_of_ble_eq_true rfl)
  rw [lg_entry_eq]
  generalize (lg_sl ([.ref (q 15), .int x1, .int x2, .int x3]) ++ List.replicate (6 - (lg_sl ([.ref (q 15), .int x1, .int x2, .int x3])).length) Slot.unset).toArray = ls at hl ⊢
  have hl : lv_has ls 6 [(0, .ref (q 15)), (1, .int x1), (2, .int x2), (3, .int x3)] := hl
  refine lv_iload_n hx hb dX0_chartWay_0 rfl (lv_at hl 2 rfl) ?_
  refine lv_iload_n hx hb dX0_chartWay_1 rfl (lv_at hl 3 rfl) ?_
  refine lv_ixor hx hb dX0_chartWay_2 ?_
  refine lv_topi (fun x4_1 e_1 => ?_)
  have hw := hw x4_1 e_1
  refine lv_istore (lv' := [(4, .int x4_1), (0, .ref (q 15)), (1, .int x1), (2, .int x2), (3, .int x3)]) hx hb dX0_chartWay_3 hl (by decide) rfl (fun ls hl => ?_)
  refine lv_iconst (v := (0 : Int32)) hx hb dX0_chartWay_5 (by decide) ?_
  refine lv_istore (lv' := [(5, .int (0 : Int32)), (4, .int x4_1), (0, .ref (q 15)), (1, .int x1), (2, .int x2), (3, .int x3)]) hx hb dX0_chartWay_6 hl (by decide) rfl (fun ls hl => ?_)
  obtain ⟨n_7, hw⟩ := hw
  refine t_X0_chartWay_8 X hK hN (fun ycodes_7 hw ls H locs hl hP hD hS => ?_) n_7 _ _ hw ls _ _ (lv_sub hl [2, 3, 4, 5, 1, 0] rfl) hP hD hS
  exact rw_v hx hb hr hlocks (fun t ht => ⟨ycodes_7, hw, by rw [ht]; exact hP⟩) hS dX0_chartWay_45
abbrev Z_X0_chart (D : va_G) (q : Nat → Nat) (cA : Nat → ClassId) (Fc_unkept : Int32) (Fc_tablesRead : Int32) (Pg_letters : Nat → Int32) (Pg_size : Int32) (Pg_fault : Int32) (Pg_rows : Int32) (Pg_inRow : Int32) (Pg_width : Int32) (Fl_entries : Nat → Int32) (Fl_states : Int32) (Fl_columns : Int32) (Fl_moves : Int32) (Fl_stables : Int32) (Fl_amiss : Int32) (Fl_normal : Int32) (Pt_lessers : Nat → Int32) (Pt_greaters : Nat → Int32) (Pt_size : Int32) (Lc_signals : Nat → Int32) (Lc_kept : Nat → Int64) (Lc_keptFrom : Nat → Int64) (Lc_candidates : Int32) (Lc_size : Int32) (Sc_signals : Nat → Int32) (Sc_codes : Nat → Int32) (Sc_size : Int32) (Cu_seen : Nat → Int32) (Cu_inThrees : Nat → Int32) (Cu_all : Int32) (Lo_asked : Nat → Nat → Int32) (Lo_ones : Nat → Nat → Int32) (Lo_sum : Nat → Nat → Int32) (Lo_wideSize : Nat → Int32) (Lo_sumSize : Nat → Int32) (Lo_flickers : Nat → Int32) (Lo_ready : Nat → Int32) (Wa_at : Int32) (Wa_turns : Int32) (Wa_changes : Int32) (post : (Nat → Int32) → Int32 → Prop) : State → Prop := fun t => ∃ (y_Ai_codes : Nat → Int32) (y_Ai_bits : Int32), post y_Ai_codes y_Ai_bits ∧ va_P D vwCl (wC q cA Fc_unkept Fc_tablesRead Pg_letters Pg_size Pg_fault Pg_rows Pg_inRow Pg_width Fl_entries Fl_states Fl_columns Fl_moves Fl_stables Fl_amiss Fl_normal Pt_lessers Pt_greaters Pt_size Lc_signals Lc_kept Lc_keptFrom Lc_candidates Lc_size Sc_signals Sc_codes Sc_size y_Ai_codes y_Ai_bits Cu_seen Cu_inThrees Cu_all Lo_asked Lo_ones Lo_sum Lo_wideSize Lo_sumSize Lo_flickers Lo_ready Wa_at Wa_turns Wa_changes) t.heap
set_option maxHeartbeats 4000000 in
set_option maxRecDepth 100000 in
theorem t_X0_chart_12 {p : Program} {l : Launch} {e : Env} {R : Room} {s : State} {m : MethodId} {args : Array Value} {below : List Frame} {meth : Method} {c : Code} {A : Nat → Prop} {D : va_G} {q : Nat → Nat} {cA : Nat → ClassId} {Fc_unkept : Int32} {Fc_tablesRead : Int32} {Pg_letters : Nat → Int32} {Pg_size : Int32} {Pg_fault : Int32} {Pg_rows : Int32} {Pg_inRow : Int32} {Pg_width : Int32} {Fl_entries : Nat → Int32} {Fl_states : Int32} {Fl_columns : Int32} {Fl_moves : Int32} {Fl_stables : Int32} {Fl_amiss : Int32} {Fl_normal : Int32} {Pt_lessers : Nat → Int32} {Pt_greaters : Nat → Int32} {Pt_size : Int32} {Lc_signals : Nat → Int32} {Lc_kept : Nat → Int64} {Lc_keptFrom : Nat → Int64} {Lc_candidates : Int32} {Lc_size : Int32} {Sc_signals : Nat → Int32} {Sc_codes : Nat → Int32} {Sc_size : Int32} {Ai_bits : Int32} {Cu_seen : Nat → Int32} {Cu_inThrees : Nat → Int32} {Cu_all : Int32} {Lo_asked : Nat → Nat → Int32} {Lo_ones : Nat → Nat → Int32} {Lo_sum : Nat → Nat → Int32} {Lo_wideSize : Nat → Int32} {Lo_sumSize : Nat → Int32} {Lo_flickers : Nat → Int32} {Lo_ready : Nat → Int32} {Wa_at : Int32} {Wa_turns : Int32} {Wa_changes : Int32} {post : (Nat → Int32) → Int32 → Prop} {KE : (Nat → Int32) → Prop} (X : kC p R s m args meth c cX0_chart RX0 6 none 2) (hK : va_K D vwCl (tyC cA) s) (hN : nwC s) (hE : ∀ (Ai_codes : Nat → Int32), KE Ai_codes → ∀ (ls : Array Slot) (H : Heap) (locs : List Loc), lv_has ls 6 [(0, .ref (q 15)), (1, .ref (q 3)), (2, .ref (q 12))] → va_P D vwCl (wC q cA Fc_unkept Fc_tablesRead Pg_letters Pg_size Pg_fault Pg_rows Pg_inRow Pg_width Fl_entries Fl_states Fl_columns Fl_moves Fl_stables Fl_amiss Fl_normal Pt_lessers Pt_greaters Pt_size Lc_signals Lc_kept Lc_keptFrom Lc_candidates Lc_size Sc_signals Sc_codes Sc_size Ai_codes Ai_bits Cu_seen Cu_inThrees Cu_all Lo_asked Lo_ones Lo_sum Lo_wideSize Lo_sumSize Lo_flickers Lo_ready Wa_at Wa_turns Wa_changes) H → va_D A (wC q cA Fc_unkept Fc_tablesRead Pg_letters Pg_size Pg_fault Pg_rows Pg_inRow Pg_width Fl_entries Fl_states Fl_columns Fl_moves Fl_stables Fl_amiss Fl_normal Pt_lessers Pt_greaters Pt_size Lc_signals Lc_kept Lc_keptFrom Lc_candidates Lc_size Sc_signals Sc_codes Sc_size Ai_codes Ai_bits Cu_seen Cu_inThrees Cu_all Lo_asked Lo_ones Lo_sum Lo_wideSize Lo_sumSize Lo_flickers Lo_ready Wa_at Wa_turns Wa_changes) → va_S A s.heap H locs → W p l e R s m args below meth c H locs 0 0 (MQ below (qWv (Z_X0_chart D q cA Fc_unkept Fc_tablesRead Pg_letters Pg_size Pg_fault Pg_rows Pg_inRow Pg_width Fl_entries Fl_states Fl_columns Fl_moves Fl_stables Fl_amiss Fl_normal Pt_lessers Pt_greaters Pt_size Lc_signals Lc_kept Lc_keptFrom Lc_candidates Lc_size Sc_signals Sc_codes Sc_size Cu_seen Cu_inThrees Cu_all Lo_asked Lo_ones Lo_sum Lo_wideSize Lo_sumSize Lo_flickers Lo_ready Wa_at Wa_turns Wa_changes post) A) args s 0 0 A) (F0 m 32 ls [])) : ∀ (n : Nat) (x3 : Int32) (Ai_codes : Nat → Int32), w_X0_chart_12 KE n x3 Ai_codes → ∀ (ls : Array Slot) (H : Heap) (locs : List Loc), lv_has ls 6 [(0, .ref (q 15)), (1, .ref (q 3)), (2, .ref (q 12)), (3, .int x3)] → va_P D vwCl (wC q cA Fc_unkept Fc_tablesRead Pg_letters Pg_size Pg_fault Pg_rows Pg_inRow Pg_width Fl_entries Fl_states Fl_columns Fl_moves Fl_stables Fl_amiss Fl_normal Pt_lessers Pt_greaters Pt_size Lc_signals Lc_kept Lc_keptFrom Lc_candidates Lc_size Sc_signals Sc_codes Sc_size Ai_codes Ai_bits Cu_seen Cu_inThrees Cu_all Lo_asked Lo_ones Lo_sum Lo_wideSize Lo_sumSize Lo_flickers Lo_ready Wa_at Wa_turns Wa_changes) H → va_D A (wC q cA Fc_unkept Fc_tablesRead Pg_letters Pg_size Pg_fault Pg_rows Pg_inRow Pg_width Fl_entries Fl_states Fl_columns Fl_moves Fl_stables Fl_amiss Fl_normal Pt_lessers Pt_greaters Pt_size Lc_signals Lc_kept Lc_keptFrom Lc_candidates Lc_size Sc_signals Sc_codes Sc_size Ai_codes Ai_bits Cu_seen Cu_inThrees Cu_all Lo_asked Lo_ones Lo_sum Lo_wideSize Lo_sumSize Lo_flickers Lo_ready Wa_at Wa_turns Wa_changes) → va_S A s.heap H locs → W p l e R s m args below meth c H locs 0 0 (MQ below (qWv (Z_X0_chart D q cA Fc_unkept Fc_tablesRead Pg_letters Pg_size Pg_fault Pg_rows Pg_inRow Pg_width Fl_entries Fl_states Fl_columns Fl_moves Fl_stables Fl_amiss Fl_normal Pt_lessers Pt_greaters Pt_size Lc_signals Lc_kept Lc_keptFrom Lc_candidates Lc_size Sc_signals Sc_codes Sc_size Cu_seen Cu_inThrees Cu_all Lo_asked Lo_ones Lo_sum Lo_wideSize Lo_sumSize Lo_flickers Lo_ready Wa_at Wa_turns Wa_changes post) A) args s 0 0 A) (F0 m 12 ls []) := by
  obtain ⟨hx, hb, hml, hown, hts, hr, hlocks, hRf, hRl⟩ := id X
  intro n
  induction n with
  | zero => intro x3 Ai_codes hw; exact (show False from hw).elim
  | succ n ih =>
    intro x3 Ai_codes hw ls H locs hl hP hD hS
    refine lv_iload_n hx hb dX0_chart_12 rfl (lv_at hl 3 rfl) ?_
    refine lv_sipush (v := (128 : Int32)) hx hb dX0_chart_13 (by decide +kernel) ?_
    refine lv_icmp_ge (tgt := 32) hx hb dX0_chart_16 (by decide) (fun c_2 => ?_) (fun c_2 => ?_)
    · have hw := hw.1 c_2
      exact hE _ hw ls _ _ (lv_sub hl [0, 1, 2] rfl) hP hD hS
    · have hw := hw.2 c_2
      refine lv_aload_n hx hb dX0_chart_19 rfl (lv_at hl 0 rfl) ?_
      refine gRX0_9 hx hb hown hts hK hP dX0_chart_20 ?_
      refine lv_iload_n hx hb dX0_chart_23 rfl (lv_at hl 3 rfl) ?_
      refine lv_iconst (v := ((-1) : Int32)) hx hb dX0_chart_24 (by decide) ?_
      have h_3 := hw.1
      have hw := hw.2
      refine st_Ai_codes hx hb hK hP hD hS h_3 dX0_chart_25 (fun H locs a_3 e_3 hP hD hS => ?_)
      have hw := hw a_3 e_3
      obtain ⟨x3_4, e_4⟩ : ∃ z : Int32, z = x3 + (1 : Int32) := ⟨_, rfl⟩
      have hw := hw x3_4 e_4
      refine lv_iinc (v := x3_4) (lv' := [(3, .int x3_4), (0, .ref (q 15)), (1, .ref (q 3)), (2, .ref (q 12))]) hx hb dX0_chart_26 hl (k := 3) rfl (by rw [e_4]; rfl) (by decide) rfl (fun ls hl => ?_)
      refine lv_goto (tgt := 12) hx hb dX0_chart_29 (by decide) ?_
      exact ih _ _ hw ls _ _ (lv_sub hl [1, 2, 3, 0] rfl) hP hD hS
set_option maxHeartbeats 4000000 in
set_option maxRecDepth 100000 in
theorem t_X0_chart_45 {p : Program} {l : Launch} {e : Env} {R : Room} {s : State} {m : MethodId} {args : Array Value} {below : List Frame} {meth : Method} {c : Code} {A : Nat → Prop} {D : va_G} {q : Nat → Nat} {cA : Nat → ClassId} {Fc_unkept : Int32} {Fc_tablesRead : Int32} {Pg_letters : Nat → Int32} {Pg_size : Int32} {Pg_fault : Int32} {Pg_rows : Int32} {Pg_inRow : Int32} {Pg_width : Int32} {Fl_entries : Nat → Int32} {Fl_states : Int32} {Fl_columns : Int32} {Fl_moves : Int32} {Fl_stables : Int32} {Fl_amiss : Int32} {Fl_normal : Int32} {Pt_lessers : Nat → Int32} {Pt_greaters : Nat → Int32} {Pt_size : Int32} {Lc_signals : Nat → Int32} {Lc_kept : Nat → Int64} {Lc_keptFrom : Nat → Int64} {Lc_candidates : Int32} {Lc_size : Int32} {Sc_signals : Nat → Int32} {Sc_codes : Nat → Int32} {Sc_size : Int32} {Ai_bits : Int32} {Cu_seen : Nat → Int32} {Cu_inThrees : Nat → Int32} {Cu_all : Int32} {Lo_asked : Nat → Nat → Int32} {Lo_ones : Nat → Nat → Int32} {Lo_sum : Nat → Nat → Int32} {Lo_wideSize : Nat → Int32} {Lo_sumSize : Nat → Int32} {Lo_flickers : Nat → Int32} {Lo_ready : Nat → Int32} {Wa_at : Int32} {Wa_turns : Int32} {Wa_changes : Int32} {post : (Nat → Int32) → Int32 → Prop} {KE : (Nat → Int32) → Prop} {x3 : Int32} (X : kC p R s m args meth c cX0_chart RX0 6 none 2) (hK : va_K D vwCl (tyC cA) s) (hN : nwC s) (hE : ∀ (Ai_codes : Nat → Int32), KE Ai_codes → ∀ (ls : Array Slot) (H : Heap) (locs : List Loc), lv_has ls 6 [(0, .ref (q 15)), (1, .ref (q 3)), (2, .ref (q 12)), (3, .int x3)] → va_P D vwCl (wC q cA Fc_unkept Fc_tablesRead Pg_letters Pg_size Pg_fault Pg_rows Pg_inRow Pg_width Fl_entries Fl_states Fl_columns Fl_moves Fl_stables Fl_amiss Fl_normal Pt_lessers Pt_greaters Pt_size Lc_signals Lc_kept Lc_keptFrom Lc_candidates Lc_size Sc_signals Sc_codes Sc_size Ai_codes Ai_bits Cu_seen Cu_inThrees Cu_all Lo_asked Lo_ones Lo_sum Lo_wideSize Lo_sumSize Lo_flickers Lo_ready Wa_at Wa_turns Wa_changes) H → va_D A (wC q cA Fc_unkept Fc_tablesRead Pg_letters Pg_size Pg_fault Pg_rows Pg_inRow Pg_width Fl_entries Fl_states Fl_columns Fl_moves Fl_stables Fl_amiss Fl_normal Pt_lessers Pt_greaters Pt_size Lc_signals Lc_kept Lc_keptFrom Lc_candidates Lc_size Sc_signals Sc_codes Sc_size Ai_codes Ai_bits Cu_seen Cu_inThrees Cu_all Lo_asked Lo_ones Lo_sum Lo_wideSize Lo_sumSize Lo_flickers Lo_ready Wa_at Wa_turns Wa_changes) → va_S A s.heap H locs → W p l e R s m args below meth c H locs 0 0 (MQ below (qWv (Z_X0_chart D q cA Fc_unkept Fc_tablesRead Pg_letters Pg_size Pg_fault Pg_rows Pg_inRow Pg_width Fl_entries Fl_states Fl_columns Fl_moves Fl_stables Fl_amiss Fl_normal Pt_lessers Pt_greaters Pt_size Lc_signals Lc_kept Lc_keptFrom Lc_candidates Lc_size Sc_signals Sc_codes Sc_size Cu_seen Cu_inThrees Cu_all Lo_asked Lo_ones Lo_sum Lo_wideSize Lo_sumSize Lo_flickers Lo_ready Wa_at Wa_turns Wa_changes post) A) args s 0 0 A) (F0 m 92 ls [])) : ∀ (n : Nat) (x4 : Int32) (Ai_codes : Nat → Int32), w_X0_chart_45 KE Fl_entries Fl_states Fl_columns Sc_codes x3 n x4 Ai_codes → ∀ (ls : Array Slot) (H : Heap) (locs : List Loc), lv_has ls 6 [(0, .ref (q 15)), (1, .ref (q 3)), (2, .ref (q 12)), (3, .int x3), (4, .int x4)] → va_P D vwCl (wC q cA Fc_unkept Fc_tablesRead Pg_letters Pg_size Pg_fault Pg_rows Pg_inRow Pg_width Fl_entries Fl_states Fl_columns Fl_moves Fl_stables Fl_amiss Fl_normal Pt_lessers Pt_greaters Pt_size Lc_signals Lc_kept Lc_keptFrom Lc_candidates Lc_size Sc_signals Sc_codes Sc_size Ai_codes Ai_bits Cu_seen Cu_inThrees Cu_all Lo_asked Lo_ones Lo_sum Lo_wideSize Lo_sumSize Lo_flickers Lo_ready Wa_at Wa_turns Wa_changes) H → va_D A (wC q cA Fc_unkept Fc_tablesRead Pg_letters Pg_size Pg_fault Pg_rows Pg_inRow Pg_width Fl_entries Fl_states Fl_columns Fl_moves Fl_stables Fl_amiss Fl_normal Pt_lessers Pt_greaters Pt_size Lc_signals Lc_kept Lc_keptFrom Lc_candidates Lc_size Sc_signals Sc_codes Sc_size Ai_codes Ai_bits Cu_seen Cu_inThrees Cu_all Lo_asked Lo_ones Lo_sum Lo_wideSize Lo_sumSize Lo_flickers Lo_ready Wa_at Wa_turns Wa_changes) → va_S A s.heap H locs → W p l e R s m args below meth c H locs 0 0 (MQ below (qWv (Z_X0_chart D q cA Fc_unkept Fc_tablesRead Pg_letters Pg_size Pg_fault Pg_rows Pg_inRow Pg_width Fl_entries Fl_states Fl_columns Fl_moves Fl_stables Fl_amiss Fl_normal Pt_lessers Pt_greaters Pt_size Lc_signals Lc_kept Lc_keptFrom Lc_candidates Lc_size Sc_signals Sc_codes Sc_size Cu_seen Cu_inThrees Cu_all Lo_asked Lo_ones Lo_sum Lo_wideSize Lo_sumSize Lo_flickers Lo_ready Wa_at Wa_turns Wa_changes post) A) args s 0 0 A) (F0 m 45 ls []) := by
  obtain ⟨hx, hb, hml, hown, hts, hr, hlocks, hRf, hRl⟩ := id X
  intro n
  induction n with
  | zero => intro x4 Ai_codes hw; exact (show False from hw).elim
  | succ n ih =>
    intro x4 Ai_codes hw ls H locs hl hP hD hS
    refine lv_iload hx hb dX0_chart_45 (lv_at hl 4 rfl) ?_
    refine lv_aload_n hx hb dX0_chart_47 rfl (lv_at hl 1 rfl) ?_
    refine gRX0_29 hx hb hown hts hK hN hP dX0_chart_48 ?_
    refine lv_icmp_ge (tgt := 92) hx hb dX0_chart_51 (by decide) (fun c_7 => ?_) (fun c_7 => ?_)
    · have hw := hw.1 c_7
      exact hE _ hw ls _ _ (lv_sub hl [0, 1, 2, 3] rfl) hP hD hS
    · have hw := hw.2 c_7
      refine lv_aload_n hx hb dX0_chart_54 rfl (lv_at hl 1 rfl) ?_
      refine lv_iload_n hx hb dX0_chart_55 rfl (lv_at hl 3 rfl) ?_
      refine lv_iload hx hb dX0_chart_56 (lv_at hl 4 rfl) ?_
      refine ro_i (va_runV (As := [.int x3, .int x4]) (rest := []) ⟨hx, hb, hml, hown, hts⟩ (c_X2_next l hw) (kRX0_32 (h := 1) hts (Nat.le_trans (Nat.le_of_ble_eq_true rfl) hRf) (Nat.le_trans (Nat.le_of_ble_eq_true rfl) hRl)) (preX2 hK hN hP) rfl rfl hl.1 rfl (lv_room (Nat.le_of_ble_eq_true rfl)) dX0_chart_58 ⟨Nat.zero_le _, Nat.zero_le _⟩) (fun r_8 hw => ?_)
      refine lv_istore (lv' := [(5, .int r_8), (0, .ref (q 15)), (1, .ref (q 3)), (2, .ref (q 12)), (3, .int x3), (4, .int x4)]) hx hb dX0_chart_61 hl (by decide) rfl (fun ls hl => ?_)
      refine lv_iload hx hb dX0_chart_63 (lv_at hl 0 rfl) ?_
      refine lv_iconst (v := ((-1) : Int32)) hx hb dX0_chart_65 (by decide) ?_
      refine lv_icmp_eq (tgt := 86) hx hb dX0_chart_66 (by decide) (fun c_9 => ?_) (fun c_9 => ?_)
      · have hw := hw.1 c_9
        obtain ⟨x4_10, e_10⟩ : ∃ z : Int32, z = x4 + (1 : Int32) := ⟨_, rfl⟩
        have hw := hw x4_10 e_10
        refine lv_iinc (v := x4_10) (lv' := [(4, .int x4_10), (5, .int r_8), (0, .ref (q 15)), (1, .ref (q 3)), (2, .ref (q 12)), (3, .int x3)]) hx hb dX0_chart_86 hl (k := 5) rfl (by rw [e_10]; rfl) (by decide) rfl (fun ls hl => ?_)
        refine lv_goto (tgt := 45) hx hb dX0_chart_89 (by decide) ?_
        exact ih _ _ hw ls _ _ (lv_sub hl [2, 3, 4, 5, 0] rfl) hP hD hS
      · have hw := hw.2 c_9
        refine lv_aload_n hx hb dX0_chart_69 rfl (lv_at hl 1 rfl) ?_
        refine lv_iload hx hb dX0_chart_70 (lv_at hl 5 rfl) ?_
        refine lv_aload_n hx hb dX0_chart_72 rfl (lv_at hl 3 rfl) ?_
        refine lv_iload_n hx hb dX0_chart_73 rfl (lv_at hl 4 rfl) ?_
        refine ro_i (va_runV (As := [.int x3]) (rest := [.int x4, .ref (q 15)]) ⟨hx, hb, hml, hown, hts⟩ (c_X7_codeOf l hw) (kRX0_36 (h := 0) hts (Nat.le_trans (Nat.le_of_ble_eq_true rfl) hRf) (Nat.le_trans (Nat.le_of_ble_eq_true rfl) hRl)) (preX7 hK hN hP) rfl rfl hl.1 rfl (lv_room (Nat.le_of_ble_eq_true rfl)) dX0_chart_74 ⟨Nat.zero_le _, Nat.zero_le _⟩) (fun r_11 hw => ?_)
        refine lv_aload_n hx hb dX0_chart_77 rfl (lv_at hl 3 rfl) ?_
        refine lv_iload hx hb dX0_chart_78 (lv_at hl 0 rfl) ?_
        refine ro_i (va_runV (As := [.int r_8]) (rest := [.int r_11, .int x4, .ref (q 15)]) ⟨hx, hb, hml, hown, hts⟩ (c_X7_codeOf l hw) (kRX0_36 (h := 0) hts (Nat.le_trans (Nat.le_of_ble_eq_true rfl) hRf) (Nat.le_trans (Nat.le_of_ble_eq_true rfl) hRl)) (preX7 hK hN hP) rfl rfl hl.1 rfl (lv_room (Nat.le_of_ble_eq_true rfl)) dX0_chart_80 ⟨Nat.zero_le _, Nat.zero_le _⟩) (fun r_12 hw => ?_)
        refine wr_v (va_runV (As := [.int x4, .int r_11, .int r_12]) (rest := []) ⟨hx, hb, hml, hown, hts⟩ (c_X0_chartWay l hw) (kRX0_40 (h := 0) hts (Nat.le_trans (Nat.le_of_ble_eq_true rfl) hRf) (Nat.le_trans (Nat.le_of_ble_eq_true rfl) hRl)) (preX0w hK hN hP hD) rfl rfl hl.1 rfl (lv_room (Nat.le_of_ble_eq_true rfl)) dX0_chart_83 ⟨Nat.zero_le _, Nat.zero_le _⟩) hS (fun t H locs ht hw hS => ?_)
        obtain ⟨ycodes_13, hw, hP⟩ := hw
        rw [ht] at hP
        have hP : va_P D vwCl (wC q cA Fc_unkept Fc_tablesRead Pg_letters Pg_size Pg_fault Pg_rows Pg_inRow Pg_width Fl_entries Fl_states Fl_columns Fl_moves Fl_stables Fl_amiss Fl_normal Pt_lessers Pt_greaters Pt_size Lc_signals Lc_kept Lc_keptFrom Lc_candidates Lc_size Sc_signals Sc_codes Sc_size ycodes_13 Ai_bits Cu_seen Cu_inThrees Cu_all Lo_asked Lo_ones Lo_sum Lo_wideSize Lo_sumSize Lo_flickers Lo_ready Wa_at Wa_turns Wa_changes) H := hP
        have hD : va_D A (wC q cA Fc_unkept Fc_tablesRead Pg_letters Pg_size Pg_fault Pg_rows Pg_inRow Pg_width Fl_entries Fl_states Fl_columns Fl_moves Fl_stables Fl_amiss Fl_normal Pt_lessers Pt_greaters Pt_size Lc_signals Lc_kept Lc_keptFrom Lc_candidates Lc_size Sc_signals Sc_codes Sc_size ycodes_13 Ai_bits Cu_seen Cu_inThrees Cu_all Lo_asked Lo_ones Lo_sum Lo_wideSize Lo_sumSize Lo_flickers Lo_ready Wa_at Wa_turns Wa_changes) := dC hD
        obtain ⟨x4_14, e_14⟩ : ∃ z : Int32, z = x4 + (1 : Int32) := ⟨_, rfl⟩
        have hw := hw x4_14 e_14
        refine lv_iinc (v := x4_14) (lv' := [(4, .int x4_14), (5, .int r_8), (0, .ref (q 15)), (1, .ref (q 3)), (2, .ref (q 12)), (3, .int x3)]) hx hb dX0_chart_86 hl (k := 5) rfl (by rw [e_14]; rfl) (by decide) rfl (fun ls hl => ?_)
        refine lv_goto (tgt := 45) hx hb dX0_chart_89 (by decide) ?_
        exact ih _ _ hw ls _ _ (lv_sub hl [2, 3, 4, 5, 0] rfl) hP hD hS
set_option maxHeartbeats 4000000 in
set_option maxRecDepth 100000 in
theorem t_X0_chart_34 {p : Program} {l : Launch} {e : Env} {R : Room} {s : State} {m : MethodId} {args : Array Value} {below : List Frame} {meth : Method} {c : Code} {A : Nat → Prop} {D : va_G} {q : Nat → Nat} {cA : Nat → ClassId} {Fc_unkept : Int32} {Fc_tablesRead : Int32} {Pg_letters : Nat → Int32} {Pg_size : Int32} {Pg_fault : Int32} {Pg_rows : Int32} {Pg_inRow : Int32} {Pg_width : Int32} {Fl_entries : Nat → Int32} {Fl_states : Int32} {Fl_columns : Int32} {Fl_moves : Int32} {Fl_stables : Int32} {Fl_amiss : Int32} {Fl_normal : Int32} {Pt_lessers : Nat → Int32} {Pt_greaters : Nat → Int32} {Pt_size : Int32} {Lc_signals : Nat → Int32} {Lc_kept : Nat → Int64} {Lc_keptFrom : Nat → Int64} {Lc_candidates : Int32} {Lc_size : Int32} {Sc_signals : Nat → Int32} {Sc_codes : Nat → Int32} {Sc_size : Int32} {Ai_bits : Int32} {Cu_seen : Nat → Int32} {Cu_inThrees : Nat → Int32} {Cu_all : Int32} {Lo_asked : Nat → Nat → Int32} {Lo_ones : Nat → Nat → Int32} {Lo_sum : Nat → Nat → Int32} {Lo_wideSize : Nat → Int32} {Lo_sumSize : Nat → Int32} {Lo_flickers : Nat → Int32} {Lo_ready : Nat → Int32} {Wa_at : Int32} {Wa_turns : Int32} {Wa_changes : Int32} {post : (Nat → Int32) → Int32 → Prop} {KE : (Nat → Int32) → Prop} (X : kC p R s m args meth c cX0_chart RX0 6 none 2) (hK : va_K D vwCl (tyC cA) s) (hN : nwC s) (hE : ∀ (Ai_codes : Nat → Int32), KE Ai_codes → ∀ (ls : Array Slot) (H : Heap) (locs : List Loc), lv_has ls 6 [] → va_P D vwCl (wC q cA Fc_unkept Fc_tablesRead Pg_letters Pg_size Pg_fault Pg_rows Pg_inRow Pg_width Fl_entries Fl_states Fl_columns Fl_moves Fl_stables Fl_amiss Fl_normal Pt_lessers Pt_greaters Pt_size Lc_signals Lc_kept Lc_keptFrom Lc_candidates Lc_size Sc_signals Sc_codes Sc_size Ai_codes Ai_bits Cu_seen Cu_inThrees Cu_all Lo_asked Lo_ones Lo_sum Lo_wideSize Lo_sumSize Lo_flickers Lo_ready Wa_at Wa_turns Wa_changes) H → va_D A (wC q cA Fc_unkept Fc_tablesRead Pg_letters Pg_size Pg_fault Pg_rows Pg_inRow Pg_width Fl_entries Fl_states Fl_columns Fl_moves Fl_stables Fl_amiss Fl_normal Pt_lessers Pt_greaters Pt_size Lc_signals Lc_kept Lc_keptFrom Lc_candidates Lc_size Sc_signals Sc_codes Sc_size Ai_codes Ai_bits Cu_seen Cu_inThrees Cu_all Lo_asked Lo_ones Lo_sum Lo_wideSize Lo_sumSize Lo_flickers Lo_ready Wa_at Wa_turns Wa_changes) → va_S A s.heap H locs → W p l e R s m args below meth c H locs 0 0 (MQ below (qWv (Z_X0_chart D q cA Fc_unkept Fc_tablesRead Pg_letters Pg_size Pg_fault Pg_rows Pg_inRow Pg_width Fl_entries Fl_states Fl_columns Fl_moves Fl_stables Fl_amiss Fl_normal Pt_lessers Pt_greaters Pt_size Lc_signals Lc_kept Lc_keptFrom Lc_candidates Lc_size Sc_signals Sc_codes Sc_size Cu_seen Cu_inThrees Cu_all Lo_asked Lo_ones Lo_sum Lo_wideSize Lo_sumSize Lo_flickers Lo_ready Wa_at Wa_turns Wa_changes post) A) args s 0 0 A) (F0 m 98 ls [])) : ∀ (n : Nat) (x3 : Int32) (Ai_codes : Nat → Int32), w_X0_chart_34 KE Fl_entries Fl_states Fl_columns Sc_codes n x3 Ai_codes → ∀ (ls : Array Slot) (H : Heap) (locs : List Loc), lv_has ls 6 [(0, .ref (q 15)), (1, .ref (q 3)), (2, .ref (q 12)), (3, .int x3)] → va_P D vwCl (wC q cA Fc_unkept Fc_tablesRead Pg_letters Pg_size Pg_fault Pg_rows Pg_inRow Pg_width Fl_entries Fl_states Fl_columns Fl_moves Fl_stables Fl_amiss Fl_normal Pt_lessers Pt_greaters Pt_size Lc_signals Lc_kept Lc_keptFrom Lc_candidates Lc_size Sc_signals Sc_codes Sc_size Ai_codes Ai_bits Cu_seen Cu_inThrees Cu_all Lo_asked Lo_ones Lo_sum Lo_wideSize Lo_sumSize Lo_flickers Lo_ready Wa_at Wa_turns Wa_changes) H → va_D A (wC q cA Fc_unkept Fc_tablesRead Pg_letters Pg_size Pg_fault Pg_rows Pg_inRow Pg_width Fl_entries Fl_states Fl_columns Fl_moves Fl_stables Fl_amiss Fl_normal Pt_lessers Pt_greaters Pt_size Lc_signals Lc_kept Lc_keptFrom Lc_candidates Lc_size Sc_signals Sc_codes Sc_size Ai_codes Ai_bits Cu_seen Cu_inThrees Cu_all Lo_asked Lo_ones Lo_sum Lo_wideSize Lo_sumSize Lo_flickers Lo_ready Wa_at Wa_turns Wa_changes) → va_S A s.heap H locs → W p l e R s m args below meth c H locs 0 0 (MQ below (qWv (Z_X0_chart D q cA Fc_unkept Fc_tablesRead Pg_letters Pg_size Pg_fault Pg_rows Pg_inRow Pg_width Fl_entries Fl_states Fl_columns Fl_moves Fl_stables Fl_amiss Fl_normal Pt_lessers Pt_greaters Pt_size Lc_signals Lc_kept Lc_keptFrom Lc_candidates Lc_size Sc_signals Sc_codes Sc_size Cu_seen Cu_inThrees Cu_all Lo_asked Lo_ones Lo_sum Lo_wideSize Lo_sumSize Lo_flickers Lo_ready Wa_at Wa_turns Wa_changes post) A) args s 0 0 A) (F0 m 34 ls []) := by
  obtain ⟨hx, hb, hml, hown, hts, hr, hlocks, hRf, hRl⟩ := id X
  intro n
  induction n with
  | zero => intro x3 Ai_codes hw; exact (show False from hw).elim
  | succ n ih =>
    intro x3 Ai_codes hw ls H locs hl hP hD hS
    refine lv_iload_n hx hb dX0_chart_34 rfl (lv_at hl 3 rfl) ?_
    refine lv_aload_n hx hb dX0_chart_35 rfl (lv_at hl 1 rfl) ?_
    refine gRX0_24 hx hb hown hts hK hN hP dX0_chart_36 ?_
    refine lv_icmp_ge (tgt := 98) hx hb dX0_chart_39 (by decide) (fun c_6 => ?_) (fun c_6 => ?_)
    · have hw := hw.1 c_6
      exact hE _ hw ls _ _ (lv_sub hl [] rfl) hP hD hS
    · have hw := hw.2 c_6
      refine lv_iconst (v := (0 : Int32)) hx hb dX0_chart_42 (by decide) ?_
      refine lv_istore (lv' := [(4, .int (0 : Int32)), (0, .ref (q 15)), (1, .ref (q 3)), (2, .ref (q 12)), (3, .int x3)]) hx hb dX0_chart_43 hl (by decide) rfl (fun ls hl => ?_)
      obtain ⟨n_15, hw⟩ := hw
      refine t_X0_chart_45 X hK hN (fun ycodes_15 hw ls H locs hl hP hD hS => ?_) n_15 _ _ hw ls _ _ (lv_sub hl [1, 2, 3, 4, 0] rfl) hP hD hS
      obtain ⟨x3_16, e_16⟩ : ∃ z : Int32, z = x3 + (1 : Int32) := ⟨_, rfl⟩
      have hw := hw x3_16 e_16
      refine lv_iinc (v := x3_16) (lv' := [(3, .int x3_16), (0, .ref (q 15)), (1, .ref (q 3)), (2, .ref (q 12))]) hx hb dX0_chart_92 hl (k := 3) rfl (by rw [e_16]; rfl) (by decide) rfl (fun ls hl => ?_)
      refine lv_goto (tgt := 34) hx hb dX0_chart_95 (by decide) ?_
      exact ih _ _ hw ls _ _ (lv_sub hl [1, 2, 3, 0] rfl) hP hD hS
set_option maxHeartbeats 4000000 in
set_option maxRecDepth 100000 in
theorem c_X0_chart (l : Launch) {D : va_G} {q : Nat → Nat} {cA : Nat → ClassId} {Fc_unkept : Int32} {Fc_tablesRead : Int32} {Pg_letters : Nat → Int32} {Pg_size : Int32} {Pg_fault : Int32} {Pg_rows : Int32} {Pg_inRow : Int32} {Pg_width : Int32} {Fl_entries : Nat → Int32} {Fl_states : Int32} {Fl_columns : Int32} {Fl_moves : Int32} {Fl_stables : Int32} {Fl_amiss : Int32} {Fl_normal : Int32} {Pt_lessers : Nat → Int32} {Pt_greaters : Nat → Int32} {Pt_size : Int32} {Lc_signals : Nat → Int32} {Lc_kept : Nat → Int64} {Lc_keptFrom : Nat → Int64} {Lc_candidates : Int32} {Lc_size : Int32} {Sc_signals : Nat → Int32} {Sc_codes : Nat → Int32} {Sc_size : Int32} {Ai_codes : Nat → Int32} {Ai_bits : Int32} {Cu_seen : Nat → Int32} {Cu_inThrees : Nat → Int32} {Cu_all : Int32} {Lo_asked : Nat → Nat → Int32} {Lo_ones : Nat → Nat → Int32} {Lo_sum : Nat → Nat → Int32} {Lo_wideSize : Nat → Int32} {Lo_sumSize : Nat → Int32} {Lo_flickers : Nat → Int32} {Lo_ready : Nat → Int32} {Wa_at : Int32} {Wa_turns : Int32} {Wa_changes : Int32} {A : Nat → Prop} {post : (Nat → Int32) → Int32 → Prop}  (hw : wp_X0_chart post Fl_entries Fl_states Fl_columns Sc_codes Sc_size Ai_codes Ai_bits ) : Met l yX0_chart (Cond.code yX0_chart cX0_chart 6 none :: wsL_law) (rmH 2) (va_Pc [.ref (q 15), .ref (q 3), .ref (q 12)] (fun U => va_P D vwCl (wC q cA Fc_unkept Fc_tablesRead Pg_letters Pg_size Pg_fault Pg_rows Pg_inRow Pg_width Fl_entries Fl_states Fl_columns Fl_moves Fl_stables Fl_amiss Fl_normal Pt_lessers Pt_greaters Pt_size Lc_signals Lc_kept Lc_keptFrom Lc_candidates Lc_size Sc_signals Sc_codes Sc_size Ai_codes Ai_bits Cu_seen Cu_inThrees Cu_all Lo_asked Lo_ones Lo_sum Lo_wideSize Lo_sumSize Lo_flickers Lo_ready Wa_at Wa_turns Wa_changes) U.heap ∧ va_K D vwCl (tyC cA) U ∧ nwC U ∧ va_D A (wC q cA Fc_unkept Fc_tablesRead Pg_letters Pg_size Pg_fault Pg_rows Pg_inRow Pg_width Fl_entries Fl_states Fl_columns Fl_moves Fl_stables Fl_amiss Fl_normal Pt_lessers Pt_greaters Pt_size Lc_signals Lc_kept Lc_keptFrom Lc_candidates Lc_size Sc_signals Sc_codes Sc_size Ai_codes Ai_bits Cu_seen Cu_inThrees Cu_all Lo_asked Lo_ones Lo_sum Lo_wideSize Lo_sumSize Lo_flickers Lo_ready Wa_at Wa_turns Wa_changes))) (qWv (Z_X0_chart D q cA Fc_unkept Fc_tablesRead Pg_letters Pg_size Pg_fault Pg_rows Pg_inRow Pg_width Fl_entries Fl_states Fl_columns Fl_moves Fl_stables Fl_amiss Fl_normal Pt_lessers Pt_greaters Pt_size Lc_signals Lc_kept Lc_keptFrom Lc_candidates Lc_size Sc_signals Sc_codes Sc_size Cu_seen Cu_inThrees Cu_all Lo_asked Lo_ones Lo_sum Lo_wideSize Lo_sumSize Lo_flickers Lo_ready Wa_at Wa_turns Wa_changes post) A) 0 0 A := by
  refine Met.ofW (cc := cX0_chart) (maxL := 6) (ret := none) (by decide) rfl ?_
  intro p e s m args below meth c s₁ B hml hv
  obtain ⟨rfl, hP, hK, hN, hD⟩ := hv
  have X : kC p (headSpec (Cond.code yX0_chart cX0_chart 6 none :: wsL_law) (rmH 2)).room s m _ meth c cX0_chart RX0 6 none 2 := ⟨B.exec, B.bytes, hml, findClass_of_methodNamed B.named, fun w h => atoms_spec (ws := Cond.code yX0_chart cX0_chart 6 none :: wsL_law) B.pre w (List.mem_cons_of_mem _ h), B.returns, B.notSynchronized, Nat.le_refl _, Nat.le_refl _⟩
  obtain ⟨hx, hb, hml, hown, hts, hr, hlocks, hRf, hRl⟩ := id X
  have hS : va_S A s.heap s.heap [] := va_S.rf
  have hl := lv_entry ([.ref (q 15), .ref (q 3), .ref (q 12)]) (n := 6) (Nat.le_of_ble_eq_true rfl)
  rw [lg_entry_eq]
  generalize (lg_sl ([.ref (q 15), .ref (q 3), .ref (q 12)]) ++ List.replicate (6 - (lg_sl ([.ref (q 15), .ref (q 3), .ref (q 12)])).length) Slot.unset).toArray = ls at hl ⊢
  have hl : lv_has ls 6 [(0, .ref (q 15)), (1, .ref (q 3)), (2, .ref (q 12))] := hl
  refine lv_aload_n hx hb dX0_chart_0 rfl (lv_at hl 0 rfl) ?_
  refine lv_iconst (v := (2 : Int32)) hx hb dX0_chart_1 (by decide) ?_
  refine lv_aload_n hx hb dX0_chart_2 rfl (lv_at hl 2 rfl) ?_
  refine gRX0_19 hx hb hown hts hK hN hP dX0_chart_3 ?_
  refine lv_iadd hx hb dX0_chart_6 ?_
  refine lv_topi (fun f_1 e_1 => ?_)
  have hw := hw f_1 e_1
  refine pRX0_15 hx hb hown hts hK hP hD hS dX0_chart_7 (fun H locs hP hD hS => ?_)
  refine lv_iconst (v := (0 : Int32)) hx hb dX0_chart_10 (by decide) ?_
  refine lv_istore_n (lv' := [(3, .int (0 : Int32)), (0, .ref (q 15)), (1, .ref (q 3)), (2, .ref (q 12))]) hx hb dX0_chart_11 rfl hl (by decide) rfl (fun ls hl => ?_)
  obtain ⟨n_5, hw⟩ := hw
  refine t_X0_chart_12 X hK hN (fun ycodes_5 hw ls H locs hl hP hD hS => ?_) n_5 _ _ hw ls _ _ (lv_sub hl [1, 2, 3, 0] rfl) hP hD hS
  refine lv_iconst (v := (0 : Int32)) hx hb dX0_chart_32 (by decide) ?_
  refine lv_istore_n (lv' := [(3, .int (0 : Int32)), (0, .ref (q 15)), (1, .ref (q 3)), (2, .ref (q 12))]) hx hb dX0_chart_33 rfl hl (by decide) rfl (fun ls hl => ?_)
  obtain ⟨n_17, hw⟩ := hw
  refine t_X0_chart_34 X hK hN (fun ycodes_17 hw ls H locs hl hP hD hS => ?_) n_17 _ _ hw ls _ _ (lv_sub hl [1, 2, 3, 0] rfl) hP hD hS
  exact rw_v hx hb hr hlocks (fun t ht => ⟨ycodes_17, f_1, hw, by rw [ht]; exact hP⟩) hS dX0_chart_98
