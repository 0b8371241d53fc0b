set_option maxHeartbeats 4000000 in
set_option maxRecDepth 100000 in
theorem t_X10_wantsMany_4 {p : Program} {l : Launch} {e : Env} {R : Room} {s : State} {m : MethodId} {args : Array Value} {below : List Frame} {meth : Method} {c : Code} {D : va_G} {q : Nat → Nat} {cA : Nat → ClassId} {i_pageLength : Int32} {a_page : Nat → Int32} {i_states : Int32} {i_columns : Int32} {a_entries : Nat → Int32} {i_signals : Int32} {a_signalAt : Nat → Int32} {i_walksAt : Int32} {i_turned : Int32} {i_changed : Int32} {i_read : Int32} {i_newRows : Int32} {i_newEntries : Int32} {i_newColumns : Int32} {i_greatest : Int32} {a_newAt : Nat → Int32} {i_partings : Int32} {a_lowSet : Nat → Int32} {a_highSet : Nat → Int32} {i_leastMany : Int32} {a_leastAt : Nat → Int32} {a_tried : Nat → Int32} {a_keptLow : Nat → Int64} {a_keptHigh : Nat → Int64} {i_laid : Int32} {a_wants : Nat → Int32} {i_wide : Int32} {a_wideAsked : Nat → Int32} {a_wideOnes : Nat → Int32} {i_sum : Int32} {i_flickers : Int32} {a_sumAt : Nat → Int32} {j_h : Int64} {post : Int32 → Prop} {KE : Int32 → Prop} {x1 : Int32} (X : kC p R s m args meth c cX10_wantsMany RX10 4 (some .int) 1) (hK : va_K D vwCl (tyM cA) s) (hP : va_P D vwCl (wM q cA i_pageLength a_page i_states i_columns a_entries i_signals a_signalAt i_walksAt i_turned i_changed i_read i_newRows i_newEntries i_newColumns i_greatest a_newAt i_partings a_lowSet a_highSet i_leastMany a_leastAt a_tried a_keptLow a_keptHigh i_laid a_wants i_wide a_wideAsked a_wideOnes i_sum i_flickers a_sumAt j_h) s.heap) (hE : ∀ (x2 : Int32), KE x2 → ∀ (ls : Array Slot), lv_has ls 4 [(2, .int x2)] → W p l e R s m args below meth c s.heap [] 0 0 (MQ below (qRi post) args s 0 0 (fun _ => False)) (F0 m 36 ls [])) : ∀ (n : Nat) (x2 : Int32) (x3 : Int32), w_X10_wantsMany_4 KE i_signals a_wants x1 n x2 x3 → ∀ (ls : Array Slot), lv_has ls 4 [(0, .ref (q 0)), (1, .int x1), (2, .int x2), (3, .int x3)] → W p l e R s m args below meth c s.heap [] 0 0 (MQ below (qRi post) args s 0 0 (fun _ => False)) (F0 m 4 ls []) := by
  obtain ⟨hx, hb, hml, hown, hts, hr, hlocks, hRf, hRl⟩ := id X
  intro n
  induction n with
  | zero => intro x2 x3 hw; exact (show False from hw).elim
  | succ n ih =>
    intro x2 x3 hw ls hl
    have hw : (wp_X10_points (fun (r_1 : Int32) => ((r_1 ≤ x3 → KE x2) ∧ (¬ r_1 ≤ x3 → (vp_in x3 128 ∧ (((a_wants x3.toNatClampNeg) = x1 → (∀ x2_7 : Int32, x2_7 = (x2 + (1 : Int32)) → (∀ x3_8 : Int32, x3_8 = x3 + (1 : Int32) → w_X10_wantsMany_4 KE i_signals a_wants x1 n x2_7 x3_8))) ∧ (¬ (a_wants x3.toNatClampNeg) = x1 → (∀ x2_5 : Int32, x2_5 = (x2 + (0 : Int32)) → (∀ x3_6 : Int32, x3_6 = x3 + (1 : Int32) → w_X10_wantsMany_4 KE i_signals a_wants x1 n x2_5 x3_6)))))))) i_signals) := hw
    refine lv_iload_n hx hb dX10_wantsMany_4 rfl (lv_at hl 3 rfl) ?_
    refine lv_aload_n hx hb dX10_wantsMany_5 rfl (lv_at hl 0 rfl) ?_
    refine ro_i (va_runV (As := []) (rest := [.int x3]) ⟨hx, hb, hml, hown, hts⟩ (c_X10_points l hw) (kRX10_211 (h := 0) hts (Nat.le_trans (Nat.le_of_ble_eq_true rfl) hRf) (Nat.le_trans (Nat.le_of_ble_eq_true rfl) hRl)) (preM hK hP) rfl rfl hl.1 rfl (lv_room (Nat.le_of_ble_eq_true rfl)) dX10_wantsMany_6 ⟨Nat.zero_le _, Nat.zero_le _⟩) (fun r_1 hw => ?_)
    refine lv_icmp_ge (tgt := 36) hx hb dX10_wantsMany_9 (by decide) (fun c_2 => ?_) (fun c_2 => ?_)
    · have hw := hw.1 c_2
      exact hE _ hw ls (lv_sub hl [2] rfl)
    · have hw := hw.2 c_2
      refine lv_iload_n hx hb dX10_wantsMany_12 rfl (lv_at hl 2 rfl) ?_
      refine lv_aload_n hx hb dX10_wantsMany_13 rfl (lv_at hl 0 rfl) ?_
      refine gRX10_48 hx hb hown hts hK hP dX10_wantsMany_14 ?_
      refine lv_iload_n hx hb dX10_wantsMany_17 rfl (lv_at hl 3 rfl) ?_
      have h_3 := hw.1
      have hw := hw.2
      refine ld_a_wants hx hb hK hP h_3 dX10_wantsMany_18 ?_
      refine lv_iload_n hx hb dX10_wantsMany_19 rfl (lv_at hl 1 rfl) ?_
      refine lv_icmp_ne (tgt := 27) hx hb dX10_wantsMany_20 (by decide) (fun c_4 => ?_) (fun c_4 => ?_)
      · have hw := hw.2 c_4
        refine lv_iconst (v := (0 : Int32)) hx hb dX10_wantsMany_27 (by decide) ?_
        refine lv_iadd hx hb dX10_wantsMany_28 ?_
        refine lv_topi (fun x2_5 e_5 => ?_)
        have hw := hw x2_5 e_5
        refine lv_istore_n (lv' := [(2, .int x2_5), (0, .ref (q 0)), (1, .int x1), (3, .int x3)]) hx hb dX10_wantsMany_29 rfl hl (by decide) rfl (fun ls hl => ?_)
        obtain ⟨x3_6, e_6⟩ : ∃ z : Int32, z = x3 + (1 : Int32) := ⟨_, rfl⟩
        have hw := hw x3_6 e_6
        refine lv_iinc (v := x3_6) (lv' := [(3, .int x3_6), (2, .int x2_5), (0, .ref (q 0)), (1, .int x1)]) hx hb dX10_wantsMany_30 hl (k := 3) rfl (by rw [e_6]; rfl) (by decide) rfl (fun ls hl => ?_)
        refine lv_goto (tgt := 4) hx hb dX10_wantsMany_33 (by decide) ?_
        exact ih _ _ hw ls (lv_sub hl [2, 3, 1, 0] rfl)
      · have hw := hw.1 c_4
        refine lv_iconst (v := (1 : Int32)) hx hb dX10_wantsMany_23 (by decide) ?_
        refine lv_goto (tgt := 28) hx hb dX10_wantsMany_24 (by decide) ?_
        refine lv_iadd hx hb dX10_wantsMany_28 ?_
        refine lv_topi (fun x2_7 e_7 => ?_)
        have hw := hw x2_7 e_7
        refine lv_istore_n (lv' := [(2, .int x2_7), (0, .ref (q 0)), (1, .int x1), (3, .int x3)]) hx hb dX10_wantsMany_29 rfl hl (by decide) rfl (fun ls hl => ?_)
        obtain ⟨x3_8, e_8⟩ : ∃ z : Int32, z = x3 + (1 : Int32) := ⟨_, rfl⟩
        have hw := hw x3_8 e_8
        refine lv_iinc (v := x3_8) (lv' := [(3, .int x3_8), (2, .int x2_7), (0, .ref (q 0)), (1, .int x1)]) hx hb dX10_wantsMany_30 hl (k := 3) rfl (by rw [e_8]; rfl) (by decide) rfl (fun ls hl => ?_)
        refine lv_goto (tgt := 4) hx hb dX10_wantsMany_33 (by decide) ?_
        exact ih _ _ hw ls (lv_sub hl [2, 3, 1, 0] rfl)
set_option maxHeartbeats 4000000 in
set_option maxRecDepth 100000 in
theorem c_X10_wantsMany (l : Launch) {D : va_G} {q : Nat → Nat} {cA : Nat → ClassId} {i_pageLength : Int32} {a_page : Nat → Int32} {i_states : Int32} {i_columns : Int32} {a_entries : Nat → Int32} {i_signals : Int32} {a_signalAt : Nat → Int32} {i_walksAt : Int32} {i_turned : Int32} {i_changed : Int32} {i_read : Int32} {i_newRows : Int32} {i_newEntries : Int32} {i_newColumns : Int32} {i_greatest : Int32} {a_newAt : Nat → Int32} {i_partings : Int32} {a_lowSet : Nat → Int32} {a_highSet : Nat → Int32} {i_leastMany : Int32} {a_leastAt : Nat → Int32} {a_tried : Nat → Int32} {a_keptLow : Nat → Int64} {a_keptHigh : Nat → Int64} {i_laid : Int32} {a_wants : Nat → Int32} {i_wide : Int32} {a_wideAsked : Nat → Int32} {a_wideOnes : Nat → Int32} {i_sum : Int32} {i_flickers : Int32} {a_sumAt : Nat → Int32} {j_h : Int64} {post : Int32 → Prop} {x1 : Int32} (hw : wp_X10_wantsMany post i_signals a_wants x1) : Met l yX10_wantsMany (Cond.code yX10_wantsMany cX10_wantsMany 4 (some .int) :: wsL_law) (rmH 1) (va_Pc [.ref (q 0), .int x1] (fun U => va_P D vwCl (wM q cA i_pageLength a_page i_states i_columns a_entries i_signals a_signalAt i_walksAt i_turned i_changed i_read i_newRows i_newEntries i_newColumns i_greatest a_newAt i_partings a_lowSet a_highSet i_leastMany a_leastAt a_tried a_keptLow a_keptHigh i_laid a_wants i_wide a_wideAsked a_wideOnes i_sum i_flickers a_sumAt j_h) U.heap ∧ va_K D vwCl (tyM cA) U)) (qRi post) 0 0 (fun _ => False) := by
  refine Met.ofW (cc := cX10_wantsMany) (maxL := 4) (ret := (some .int)) (by decide) rfl ?_
  intro p e s m args below meth c s₁ B hml hv
  obtain ⟨rfl, hP, hK⟩ := hv
  have X : kC p (headSpec (Cond.code yX10_wantsMany cX10_wantsMany 4 (some .int) :: wsL_law) (rmH 1)).room s m _ meth c cX10_wantsMany RX10 4 (some .int) 1 := ⟨B.exec, B.bytes, hml, findClass_of_methodNamed B.named, fun w h => atoms_spec (ws := Cond.code yX10_wantsMany cX10_wantsMany 4 (some .int) :: wsL_law) B.pre w (List.mem_cons_of_mem _ h), B.returns, B.notSynchronized, Nat.le_refl _, Nat.le_refl _⟩
  obtain ⟨hx, hb, hml, hown, hts, hr, hlocks, hRf, hRl⟩ := id X
  have hl := lv_entry ([.ref (q 0), .int x1]) (n := 4) (Nat.le_of_ble_eq_true rfl)
  rw [lg_entry_eq]
  generalize (lg_sl ([.ref (q 0), .int x1]) ++ List.replicate (4 - (lg_sl ([.ref (q 0), .int x1])).length) Slot.unset).toArray = ls at hl ⊢
  have hl : lv_has ls 4 [(0, .ref (q 0)), (1, .int x1)] := hl
  refine lv_iconst (v := (0 : Int32)) hx hb dX10_wantsMany_0 (by decide) ?_
  refine lv_istore_n (lv' := [(2, .int (0 : Int32)), (0, .ref (q 0)), (1, .int x1)]) hx hb dX10_wantsMany_1 rfl hl (by decide) rfl (fun ls hl => ?_)
  refine lv_iconst (v := (0 : Int32)) hx hb dX10_wantsMany_2 (by decide) ?_
  refine lv_istore_n (lv' := [(3, .int (0 : Int32)), (2, .int (0 : Int32)), (0, .ref (q 0)), (1, .int x1)]) hx hb dX10_wantsMany_3 rfl hl (by decide) rfl (fun ls hl => ?_)
  obtain ⟨n_9, hw⟩ := hw
  refine t_X10_wantsMany_4 X hK hP (fun x2_9 hw ls hl => ?_) n_9 _ _ hw ls (lv_sub hl [2, 3, 1, 0] rfl)
  refine lv_iload_n hx hb dX10_wantsMany_36 rfl (lv_at hl 0 rfl) ?_
  exact rt_i hx hb hr hlocks hw dX10_wantsMany_37
set_option maxHeartbeats 4000000 in
set_option maxRecDepth 100000 in
theorem t_X10_asksAll_4 {p : Program} {l : Launch} {e : Env} {R : Room} {s : State} {m : MethodId} {args : Array Value} {below : List Frame} {meth : Method} {c : Code} {D : va_G} {q : Nat → Nat} {cA : Nat → ClassId} {i_pageLength : Int32} {a_page : Nat → Int32} {i_states : Int32} {i_columns : Int32} {a_entries : Nat → Int32} {i_signals : Int32} {a_signalAt : Nat → Int32} {i_walksAt : Int32} {i_turned : Int32} {i_changed : Int32} {i_read : Int32} {i_newRows : Int32} {i_newEntries : Int32} {i_newColumns : Int32} {i_greatest : Int32} {a_newAt : Nat → Int32} {i_partings : Int32} {a_lowSet : Nat → Int32} {a_highSet : Nat → Int32} {i_leastMany : Int32} {a_leastAt : Nat → Int32} {a_tried : Nat → Int32} {a_keptLow : Nat → Int64} {a_keptHigh : Nat → Int64} {i_laid : Int32} {a_wants : Nat → Int32} {i_wide : Int32} {a_wideAsked : Nat → Int32} {a_wideOnes : Nat → Int32} {i_sum : Int32} {i_flickers : Int32} {a_sumAt : Nat → Int32} {j_h : Int64} {post : Int32 → Prop} {KE : Int32 → Prop} (X : kC p R s m args meth c cX10_asksAll RX10 3 (some .int) 1) (hK : va_K D vwCl (tyM cA) s) (hP : va_P D vwCl (wM q cA i_pageLength a_page i_states i_columns a_entries i_signals a_signalAt i_walksAt i_turned i_changed i_read i_newRows i_newEntries i_newColumns i_greatest a_newAt i_partings a_lowSet a_highSet i_leastMany a_leastAt a_tried a_keptLow a_keptHigh i_laid a_wants i_wide a_wideAsked a_wideOnes i_sum i_flickers a_sumAt j_h) s.heap) (hE : ∀ (x1 : Int32), KE x1 → ∀ (ls : Array Slot), lv_has ls 3 [(1, .int x1)] → W p l e R s m args below meth c s.heap [] 0 0 (MQ below (qRi post) args s 0 0 (fun _ => False)) (F0 m 35 ls [])) : ∀ (n : Nat) (x1 : Int32) (x2 : Int32), w_X10_asksAll_4 KE a_wideAsked i_sum a_sumAt n x1 x2 → ∀ (ls : Array Slot), lv_has ls 3 [(0, .ref (q 0)), (1, .int x1), (2, .int x2)] → W p l e R s m args below meth c s.heap [] 0 0 (MQ below (qRi post) args s 0 0 (fun _ => False)) (F0 m 4 ls []) := by
  obtain ⟨hx, hb, hml, hown, hts, hr, hlocks, hRf, hRl⟩ := id X
  intro n
  induction n with
  | zero => intro x1 x2 hw; exact (show False from hw).elim
  | succ n ih =>
    intro x1 x2 hw ls hl
    refine lv_iload_n hx hb dX10_asksAll_4 rfl (lv_at hl 2 rfl) ?_
    refine lv_aload_n hx hb dX10_asksAll_5 rfl (lv_at hl 0 rfl) ?_
    refine gRX10_232 hx hb hown hts hK hP dX10_asksAll_6 ?_
    refine lv_icmp_ge (tgt := 35) hx hb dX10_asksAll_9 (by decide) (fun c_1 => ?_) (fun c_1 => ?_)
    · have hw := hw.1 c_1
      exact hE _ hw ls (lv_sub hl [1] rfl)
    · have hw := hw.2 c_1
      refine lv_iload_n hx hb dX10_asksAll_12 rfl (lv_at hl 1 rfl) ?_
      refine lv_aload_n hx hb dX10_asksAll_13 rfl (lv_at hl 0 rfl) ?_
      refine gRX10_51 hx hb hown hts hK hP dX10_asksAll_14 ?_
      refine lv_aload_n hx hb dX10_asksAll_17 rfl (lv_at hl 0 rfl) ?_
      refine gRX10_57 hx hb hown hts hK hP dX10_asksAll_18 ?_
      refine lv_iload_n hx hb dX10_asksAll_21 rfl (lv_at hl 2 rfl) ?_
      have h_2 := hw.1
      have hw := hw.2
      refine ld_a_sumAt hx hb hK hP h_2 dX10_asksAll_22 ?_
      have h_3 := hw.1
      have hw := hw.2
      refine ld_a_wideAsked hx hb hK hP h_3 dX10_asksAll_23 ?_
      refine ro_i (va_runS (As := [.int (a_wideAsked (a_sumAt x2.toNatClampNeg).toNatClampNeg)]) (rest := [.int x1]) ⟨hx, hb, hml, hown, hts⟩ (c_X10_ones l hw) (kRX10_190 (h := 0) hts (Nat.le_trans (Nat.le_of_ble_eq_true rfl) hRf) (Nat.le_trans (Nat.le_of_ble_eq_true rfl) hRl)) pre_0 rfl rfl hl.1 rfl (lv_room (Nat.le_of_ble_eq_true rfl)) dX10_asksAll_24 ⟨Nat.zero_le _, Nat.zero_le _⟩) (fun r_4 hw => ?_)
      refine lv_iadd hx hb dX10_asksAll_27 ?_
      refine lv_topi (fun x1_5 e_5 => ?_)
      have hw := hw x1_5 e_5
      refine lv_istore_n (lv' := [(1, .int x1_5), (0, .ref (q 0)), (2, .int x2)]) hx hb dX10_asksAll_28 rfl hl (by decide) rfl (fun ls hl => ?_)
      obtain ⟨x2_6, e_6⟩ : ∃ z : Int32, z = x2 + (1 : Int32) := ⟨_, rfl⟩
      have hw := hw x2_6 e_6
      refine lv_iinc (v := x2_6) (lv' := [(2, .int x2_6), (1, .int x1_5), (0, .ref (q 0))]) hx hb dX10_asksAll_29 hl (k := 2) rfl (by rw [e_6]; rfl) (by decide) rfl (fun ls hl => ?_)
      refine lv_goto (tgt := 4) hx hb dX10_asksAll_32 (by decide) ?_
      exact ih _ _ hw ls (lv_sub hl [2, 1, 0] rfl)
set_option maxHeartbeats 4000000 in
set_option maxRecDepth 100000 in
theorem c_X10_asksAll (l : Launch) {D : va_G} {q : Nat → Nat} {cA : Nat → ClassId} {i_pageLength : Int32} {a_page : Nat → Int32} {i_states : Int32} {i_columns : Int32} {a_entries : Nat → Int32} {i_signals : Int32} {a_signalAt : Nat → Int32} {i_walksAt : Int32} {i_turned : Int32} {i_changed : Int32} {i_read : Int32} {i_newRows : Int32} {i_newEntries : Int32} {i_newColumns : Int32} {i_greatest : Int32} {a_newAt : Nat → Int32} {i_partings : Int32} {a_lowSet : Nat → Int32} {a_highSet : Nat → Int32} {i_leastMany : Int32} {a_leastAt : Nat → Int32} {a_tried : Nat → Int32} {a_keptLow : Nat → Int64} {a_keptHigh : Nat → Int64} {i_laid : Int32} {a_wants : Nat → Int32} {i_wide : Int32} {a_wideAsked : Nat → Int32} {a_wideOnes : Nat → Int32} {i_sum : Int32} {i_flickers : Int32} {a_sumAt : Nat → Int32} {j_h : Int64} {post : Int32 → Prop}  (hw : wp_X10_asksAll post a_wideAsked i_sum a_sumAt ) : Met l yX10_asksAll (Cond.code yX10_asksAll cX10_asksAll 3 (some .int) :: wsL_law) (rmH 1) (va_Pc [.ref (q 0)] (fun U => va_P D vwCl (wM q cA i_pageLength a_page i_states i_columns a_entries i_signals a_signalAt i_walksAt i_turned i_changed i_read i_newRows i_newEntries i_newColumns i_greatest a_newAt i_partings a_lowSet a_highSet i_leastMany a_leastAt a_tried a_keptLow a_keptHigh i_laid a_wants i_wide a_wideAsked a_wideOnes i_sum i_flickers a_sumAt j_h) U.heap ∧ va_K D vwCl (tyM cA) U)) (qRi post) 0 0 (fun _ => False) := by
  refine Met.ofW (cc := cX10_asksAll) (maxL := 3) (ret := (some .int)) (by decide) rfl ?_
  intro p e s m args below meth c s₁ B hml hv
  obtain ⟨rfl, hP, hK⟩ := hv
  have X : kC p (headSpec (Cond.code yX10_asksAll cX10_asksAll 3 (some .int) :: wsL_law) (rmH 1)).room s m _ meth c cX10_asksAll RX10 3 (some .int) 1 := ⟨B.exec, B.bytes, hml, findClass_of_methodNamed B.named, fun w h => atoms_spec (ws := Cond.code yX10_asksAll cX10_asksAll 3 (some .int) :: wsL_law) B.pre w (List.mem_cons_of_mem _ h), B.returns, B.notSynchronized, Nat.le_refl _, Nat.le_refl _⟩
  obtain ⟨hx, hb, hml, hown, hts, hr, hlocks, hRf, hRl⟩ := id X
  have hl := lv_entry ([.ref (q 0)]) (n := 3) (Nat.le_of_ble_eq_true rfl)
  rw [lg_entry_eq]
  generalize (lg_sl ([.ref (q 0)]) ++ List.replicate (3 - (lg_sl ([.ref (q 0)])).length) Slot.unset).toArray = ls at hl ⊢
  have hl : lv_has ls 3 [(0, .ref (q 0))] := hl
  refine lv_iconst (v := (0 : Int32)) hx hb dX10_asksAll_0 (by decide) ?_
  refine lv_istore_n (lv' := [(1, .int (0 : Int32)), (0, .ref (q 0))]) hx hb dX10_asksAll_1 rfl hl (by decide) rfl (fun ls hl => ?_)
  refine lv_iconst (v := (0 : Int32)) hx hb dX10_asksAll_2 (by decide) ?_
  refine lv_istore_n (lv' := [(2, .int (0 : Int32)), (1, .int (0 : Int32)), (0, .ref (q 0))]) hx hb dX10_asksAll_3 rfl hl (by decide) rfl (fun ls hl => ?_)
  obtain ⟨n_7, hw⟩ := hw
  refine t_X10_asksAll_4 X hK hP (fun x1_7 hw ls hl => ?_) n_7 _ _ hw ls (lv_sub hl [2, 1, 0] rfl)
  refine lv_iload_n hx hb dX10_asksAll_35 rfl (lv_at hl 0 rfl) ?_
  exact rt_i hx hb hr hlocks hw dX10_asksAll_36
abbrev Z_X10_logicNow (D : va_G) (q : Nat → Nat) (cA : Nat → ClassId) (i_pageLength : Int32) (a_page : Nat → Int32) (i_states : Int32) (i_columns : Int32) (a_entries : Nat → Int32) (i_signals : Int32) (a_signalAt : Nat → Int32) (i_walksAt : Int32) (i_turned : Int32) (i_changed : Int32) (i_read : Int32) (i_newRows : Int32) (i_newEntries : Int32) (i_newColumns : Int32) (i_greatest : Int32) (a_newAt : Nat → Int32) (i_partings : Int32) (a_lowSet : Nat → Int32) (a_highSet : Nat → Int32) (i_leastMany : Int32) (a_leastAt : Nat → Int32) (a_tried : Nat → Int32) (a_keptLow : Nat → Int64) (a_keptHigh : Nat → Int64) (j_h : Int64) (post : Int32 → Int32 → (Nat → Int32) → Int32 → (Nat → Int32) → (Nat → Int32) → Int32 → Int32 → (Nat → Int32) → Prop) : Int32 → State → Prop := fun r t => ∃ (y_i_laid : Int32) (y_a_wants : Nat → Int32) (y_i_wide : Int32) (y_a_wideAsked : Nat → Int32) (y_a_wideOnes : Nat → Int32) (y_i_sum : Int32) (y_i_flickers : Int32) (y_a_sumAt : Nat → Int32), post r y_i_laid y_a_wants y_i_wide y_a_wideAsked y_a_wideOnes y_i_sum y_i_flickers y_a_sumAt ∧ va_P D vwCl (wM q cA i_pageLength a_page i_states i_columns a_entries i_signals a_signalAt i_walksAt i_turned i_changed i_read i_newRows i_newEntries i_newColumns i_greatest a_newAt i_partings a_lowSet a_highSet i_leastMany a_leastAt a_tried a_keptLow a_keptHigh y_i_laid y_a_wants y_i_wide y_a_wideAsked y_a_wideOnes y_i_sum y_i_flickers y_a_sumAt j_h) t.heap
set_option maxHeartbeats 4000000 in
set_option maxRecDepth 100000 in
theorem c_X10_logicNow (l : Launch) {D : va_G} {q : Nat → Nat} {cA : Nat → ClassId} {i_pageLength : Int32} {a_page : Nat → Int32} {i_states : Int32} {i_columns : Int32} {a_entries : Nat → Int32} {i_signals : Int32} {a_signalAt : Nat → Int32} {i_walksAt : Int32} {i_turned : Int32} {i_changed : Int32} {i_read : Int32} {i_newRows : Int32} {i_newEntries : Int32} {i_newColumns : Int32} {i_greatest : Int32} {a_newAt : Nat → Int32} {i_partings : Int32} {a_lowSet : Nat → Int32} {a_highSet : Nat → Int32} {i_leastMany : Int32} {a_leastAt : Nat → Int32} {a_tried : Nat → Int32} {a_keptLow : Nat → Int64} {a_keptHigh : Nat → Int64} {i_laid : Int32} {a_wants : Nat → Int32} {i_wide : Int32} {a_wideAsked : Nat → Int32} {a_wideOnes : Nat → Int32} {i_sum : Int32} {i_flickers : Int32} {a_sumAt : Nat → Int32} {j_h : Int64} {A : Nat → Prop} {post : Int32 → Int32 → (Nat → Int32) → Int32 → (Nat → Int32) → (Nat → Int32) → Int32 → Int32 → (Nat → Int32) → Prop} {x1 : Int32} {x2 : Int32} (hw : wp_X10_logicNow post i_states i_columns a_entries i_signals a_signalAt i_laid a_wants i_wide a_wideAsked a_wideOnes i_sum i_flickers a_sumAt x1 x2) : Met l yX10_logicNow (Cond.code yX10_logicNow cX10_logicNow 3 (some .int) :: wsL_law) (rmH 5) (va_Pc [.ref (q 0), .int x1, .int x2] (fun U => va_P D vwCl (wM q cA i_pageLength a_page i_states i_columns a_entries i_signals a_signalAt i_walksAt i_turned i_changed i_read i_newRows i_newEntries i_newColumns i_greatest a_newAt i_partings a_lowSet a_highSet i_leastMany a_leastAt a_tried a_keptLow a_keptHigh i_laid a_wants i_wide a_wideAsked a_wideOnes i_sum i_flickers a_sumAt j_h) U.heap ∧ va_K D vwCl (tyM cA) U ∧ va_D A (wM q cA i_pageLength a_page i_states i_columns a_entries i_signals a_signalAt i_walksAt i_turned i_changed i_read i_newRows i_newEntries i_newColumns i_greatest a_newAt i_partings a_lowSet a_highSet i_leastMany a_leastAt a_tried a_keptLow a_keptHigh i_laid a_wants i_wide a_wideAsked a_wideOnes i_sum i_flickers a_sumAt j_h))) (qWi (Z_X10_logicNow D q cA i_pageLength a_page i_states i_columns a_entries i_signals a_signalAt i_walksAt i_turned i_changed i_read i_newRows i_newEntries i_newColumns i_greatest a_newAt i_partings a_lowSet a_highSet i_leastMany a_leastAt a_tried a_keptLow a_keptHigh j_h post) A) 0 0 A := by
  refine Met.ofW (cc := cX10_logicNow) (maxL := 3) (ret := (some .int)) (by decide) rfl ?_
  intro p e s m args below meth c s₁ B hml hv
  obtain ⟨rfl, hP, hK, hD⟩ := hv
  have X : kC p (headSpec (Cond.code yX10_logicNow cX10_logicNow 3 (some .int) :: wsL_law) (rmH 5)).room s m _ meth c cX10_logicNow RX10 3 (some .int) 5 := ⟨B.exec, B.bytes, hml, findClass_of_methodNamed B.named, fun w h => atoms_spec (ws := Cond.code yX10_logicNow cX10_logicNow 3 (some .int) :: wsL_law) B.pre w (List.mem_cons_of_mem _ h), B.returns, B.notSynchronized, Nat.le_refl _, Nat.le_refl _⟩
  obtain ⟨hx, hb, hml, hown, hts, hr, hlocks, hRf, hRl⟩ := id X
  have hS : va_S A s.heap s.heap [] := va_S.rf
  have hl := lv_entry ([.ref (q 0), .int x1, .int x2]) (n := 3) (Nat.le_of_ble_eq_true rfl)
  rw [lg_entry_eq]
  generalize (lg_sl ([.ref (q 0), .int x1, .int x2]) ++ List.replicate (3 - (lg_sl ([.ref (q 0), .int x1, .int x2])).length) Slot.unset).toArray = ls at hl ⊢
  have hl : lv_has ls 3 [(0, .ref (q 0)), (1, .int x1), (2, .int x2)] := hl
  refine lv_aload_n hx hb dX10_logicNow_0 rfl (lv_at hl 0 rfl) ?_
  refine lv_iload_n hx hb dX10_logicNow_1 rfl (lv_at hl 1 rfl) ?_
  refine wr_v (va_runV (As := [.int x1]) (rest := []) ⟨hx, hb, hml, hown, hts⟩ (c_X10_laySignal l hw) (kRX10_251 (h := 4) hts (Nat.le_trans (Nat.le_of_ble_eq_true rfl) hRf) (Nat.le_trans (Nat.le_of_ble_eq_true rfl) hRl)) (preMw hK hP hD) rfl rfl hl.1 rfl (lv_room (Nat.le_of_ble_eq_true rfl)) dX10_logicNow_2 ⟨Nat.zero_le _, Nat.zero_le _⟩) hS (fun t H locs ht hw hS => ?_)
  obtain ⟨ylaid_1, ywants_1, ywide_1, ywideAsked_1, ywideOnes_1, ysum_1, yflickers_1, ysumAt_1, hw, hP⟩ := hw
  rw [ht] at hP
  have hP : va_P D vwCl (wM q cA i_pageLength a_page i_states i_columns a_entries i_signals a_signalAt i_walksAt i_turned i_changed i_read i_newRows i_newEntries i_newColumns i_greatest a_newAt i_partings a_lowSet a_highSet i_leastMany a_leastAt a_tried a_keptLow a_keptHigh ylaid_1 ywants_1 ywide_1 ywideAsked_1 ywideOnes_1 ysum_1 yflickers_1 ysumAt_1 j_h) H := hP
  have hD : va_D A (wM q cA i_pageLength a_page i_states i_columns a_entries i_signals a_signalAt i_walksAt i_turned i_changed i_read i_newRows i_newEntries i_newColumns i_greatest a_newAt i_partings a_lowSet a_highSet i_leastMany a_leastAt a_tried a_keptLow a_keptHigh ylaid_1 ywants_1 ywide_1 ywideAsked_1 ywideOnes_1 ysum_1 yflickers_1 ysumAt_1 j_h) := dM hD
  refine lv_iload_n hx hb dX10_logicNow_5 rfl (lv_at hl 2 rfl) ?_
  by_cases c_2 : x2 = (0 : Int32)
  · have hw := hw.1 c_2
    refine sw_in (k := (0 : Int32)) (off := 34) (tgt := 40) hx hb dX10_logicNow_6 c_2 (by decide) (by decide) (by decide) (by decide) ?_
    refine lv_aload_n hx hb dX10_logicNow_40 rfl (lv_at hl 0 rfl) ?_
    refine gRX10_226 hx hb hown hts hK hP dX10_logicNow_41 ?_
    exact rw_i hx hb hr hlocks (fun t ht => ⟨ylaid_1, ywants_1, ywide_1, ywideAsked_1, ywideOnes_1, ysum_1, yflickers_1, ysumAt_1, hw, by rw [ht]; exact hP⟩) hS dX10_logicNow_44
  · have hw := hw.2 c_2
    by_cases c_3 : x2 = (1 : Int32)
    · have hw := hw.1 c_3
      refine sw_in (k := (1 : Int32)) (off := 39) (tgt := 45) hx hb dX10_logicNow_6 c_3 (by decide) (by decide) (by decide) (by decide) ?_
      refine lv_aload_n hx hb dX10_logicNow_45 rfl (lv_at hl 0 rfl) ?_
      refine gRX10_232 hx hb hown hts hK hP dX10_logicNow_46 ?_
      exact rw_i hx hb hr hlocks (fun t ht => ⟨ylaid_1, ywants_1, ywide_1, ywideAsked_1, ywideOnes_1, ysum_1, yflickers_1, ysumAt_1, hw, by rw [ht]; exact hP⟩) hS dX10_logicNow_49
    · have hw := hw.2 c_3
      by_cases c_4 : x2 = (2 : Int32)
      · have hw := hw.1 c_4
        refine sw_in (k := (2 : Int32)) (off := 44) (tgt := 50) hx hb dX10_logicNow_6 c_4 (by decide) (by decide) (by decide) (by decide) ?_
        refine lv_aload_n hx hb dX10_logicNow_50 rfl (lv_at hl 0 rfl) ?_
        refine gRX10_241 hx hb hown hts hK hP dX10_logicNow_51 ?_
        exact rw_i hx hb hr hlocks (fun t ht => ⟨ylaid_1, ywants_1, ywide_1, ywideAsked_1, ywideOnes_1, ysum_1, yflickers_1, ysumAt_1, hw, by rw [ht]; exact hP⟩) hS dX10_logicNow_54
      · have hw := hw.2 c_4
        by_cases c_5 : x2 = (3 : Int32)
        · have hw := hw.1 c_5
          refine sw_in (k := (3 : Int32)) (off := 49) (tgt := 55) hx hb dX10_logicNow_6 c_5 (by decide) (by decide) (by decide) (by decide) ?_
          refine lv_aload_n hx hb dX10_logicNow_55 rfl (lv_at hl 0 rfl) ?_
          refine ro_i (va_runV (As := []) (rest := []) ⟨hx, hb, hml, hown, hts⟩ (c_X10_asksAll l hw) (kRX10_254 (h := 1) hts (Nat.le_trans (Nat.le_of_ble_eq_true rfl) hRf) (Nat.le_trans (Nat.le_of_ble_eq_true rfl) hRl)) (preM hK hP) rfl rfl hl.1 rfl (lv_room (Nat.le_of_ble_eq_true rfl)) dX10_logicNow_56 ⟨Nat.zero_le _, Nat.zero_le _⟩) (fun r_7 hw => ?_)
          exact rw_i hx hb hr hlocks (fun t ht => ⟨ylaid_1, ywants_1, ywide_1, ywideAsked_1, ywideOnes_1, ysum_1, yflickers_1, ysumAt_1, hw, by rw [ht]; exact hP⟩) hS dX10_logicNow_59
        · have hw := hw.2 c_5
          by_cases c_6 : x2 = (4 : Int32)
          · have hw := hw.1 c_6
            refine sw_in (k := (4 : Int32)) (off := 54) (tgt := 60) hx hb dX10_logicNow_6 c_6 (by decide) (by decide) (by decide) (by decide) ?_
            refine lv_aload_n hx hb dX10_logicNow_60 rfl (lv_at hl 0 rfl) ?_
            refine lv_iconst (v := (1 : Int32)) hx hb dX10_logicNow_61 (by decide) ?_
            refine ro_i (va_runV (As := [.int (1 : Int32)]) (rest := []) ⟨hx, hb, hml, hown, hts⟩ (c_X10_wantsMany l hw) (kRX10_257 (h := 1) hts (Nat.le_trans (Nat.le_of_ble_eq_true rfl) hRf) (Nat.le_trans (Nat.le_of_ble_eq_true rfl) hRl)) (preM hK hP) rfl rfl hl.1 rfl (lv_room (Nat.le_of_ble_eq_true rfl)) dX10_logicNow_62 ⟨Nat.zero_le _, Nat.zero_le _⟩) (fun r_8 hw => ?_)
            exact rw_i hx hb hr hlocks (fun t ht => ⟨ylaid_1, ywants_1, ywide_1, ywideAsked_1, ywideOnes_1, ysum_1, yflickers_1, ysumAt_1, hw, by rw [ht]; exact hP⟩) hS dX10_logicNow_65
          · have hw := hw.2 c_6
            refine lv_tableOut (tgt := 66) hx hb dX10_logicNow_6 (by have q0 := lv_neT c_2 (a := 0) (by decide); have q1 := lv_neT c_3 (a := 1) (by decide); have q2 := lv_neT c_4 (a := 2) (by decide); have q3 := lv_neT c_5 (a := 3) (by decide); have q4 := lv_neT c_6 (a := 4) (by decide); omega) (by decide) ?_
            refine lv_aload_n hx hb dX10_logicNow_66 rfl (lv_at hl 0 rfl) ?_
            refine lv_iconst (v := (0 : Int32)) hx hb dX10_logicNow_67 (by decide) ?_
            refine ro_i (va_runV (As := [.int (0 : Int32)]) (rest := []) ⟨hx, hb, hml, hown, hts⟩ (c_X10_wantsMany l hw) (kRX10_257 (h := 1) hts (Nat.le_trans (Nat.le_of_ble_eq_true rfl) hRf) (Nat.le_trans (Nat.le_of_ble_eq_true rfl) hRl)) (preM hK hP) rfl rfl hl.1 rfl (lv_room (Nat.le_of_ble_eq_true rfl)) dX10_logicNow_68 ⟨Nat.zero_le _, Nat.zero_le _⟩) (fun r_9 hw => ?_)
            exact rw_i hx hb hr hlocks (fun t ht => ⟨ylaid_1, ywants_1, ywide_1, ywideAsked_1, ywideOnes_1, ysum_1, yflickers_1, ysumAt_1, hw, by rw [ht]; exact hP⟩) hS dX10_logicNow_71
abbrev Z_X10_logic (D : va_G) (q : Nat → Nat) (cA : Nat → ClassId) (i_pageLength : Int32) (a_page : Nat → Int32) (i_states : Int32) (i_columns : Int32) (a_entries : Nat → Int32) (i_signals : Int32) (a_signalAt : Nat → Int32) (i_walksAt : Int32) (i_turned : Int32) (i_changed : Int32) (i_read : Int32) (i_newRows : Int32) (i_newEntries : Int32) (i_newColumns : Int32) (i_greatest : Int32) (a_newAt : Nat → Int32) (i_partings : Int32) (a_lowSet : Nat → Int32) (a_highSet : Nat → Int32) (i_leastMany : Int32) (a_leastAt : Nat → Int32) (a_tried : Nat → Int32) (a_keptLow : Nat → Int64) (a_keptHigh : Nat → Int64) (j_h : Int64) (post : Int32 → Int32 → (Nat → Int32) → Int32 → (Nat → Int32) → (Nat → Int32) → Int32 → Int32 → (Nat → Int32) → Prop) : Int32 → State → Prop := fun r t => ∃ (y_i_laid : Int32) (y_a_wants : Nat → Int32) (y_i_wide : Int32) (y_a_wideAsked : Nat → Int32) (y_a_wideOnes : Nat → Int32) (y_i_sum : Int32) (y_i_flickers : Int32) (y_a_sumAt : Nat → Int32), post r y_i_laid y_a_wants y_i_wide y_a_wideAsked y_a_wideOnes y_i_sum y_i_flickers y_a_sumAt ∧ va_P D vwCl (wM q cA i_pageLength a_page i_states i_columns a_entries i_signals a_signalAt i_walksAt i_turned i_changed i_read i_newRows i_newEntries i_newColumns i_greatest a_newAt i_partings a_lowSet a_highSet i_leastMany a_leastAt a_tried a_keptLow a_keptHigh y_i_laid y_a_wants y_i_wide y_a_wideAsked y_a_wideOnes y_i_sum y_i_flickers y_a_sumAt j_h) t.heap
set_option maxHeartbeats 4000000 in
set_option maxRecDepth 100000 in
theorem c_X10_logic (l : Launch) {D : va_G} {q : Nat → Nat} {cA : Nat → ClassId} {i_pageLength : Int32} {a_page : Nat → Int32} {i_states : Int32} {i_columns : Int32} {a_entries : Nat → Int32} {i_signals : Int32} {a_signalAt : Nat → Int32} {i_walksAt : Int32} {i_turned : Int32} {i_changed : Int32} {i_read : Int32} {i_newRows : Int32} {i_newEntries : Int32} {i_newColumns : Int32} {i_greatest : Int32} {a_newAt : Nat → Int32} {i_partings : Int32} {a_lowSet : Nat → Int32} {a_highSet : Nat → Int32} {i_leastMany : Int32} {a_leastAt : Nat → Int32} {a_tried : Nat → Int32} {a_keptLow : Nat → Int64} {a_keptHigh : Nat → Int64} {i_laid : Int32} {a_wants : Nat → Int32} {i_wide : Int32} {a_wideAsked : Nat → Int32} {a_wideOnes : Nat → Int32} {i_sum : Int32} {i_flickers : Int32} {a_sumAt : Nat → Int32} {j_h : Int64} {A : Nat → Prop} {post : Int32 → Int32 → (Nat → Int32) → Int32 → (Nat → Int32) → (Nat → Int32) → Int32 → Int32 → (Nat → Int32) → Prop} {x1 : Int32} {x2 : Int32} (hw : wp_X10_logic post i_states i_columns a_entries i_signals a_signalAt i_partings a_lowSet a_highSet i_laid a_wants i_wide a_wideAsked a_wideOnes i_sum i_flickers a_sumAt x1 x2) : Met l yX10_logic (Cond.code yX10_logic cX10_logic 3 (some .int) :: wsL_law) (rmH 6) (va_Pc [.ref (q 0), .int x1, .int x2] (fun U => va_P D vwCl (wM q cA i_pageLength a_page i_states i_columns a_entries i_signals a_signalAt i_walksAt i_turned i_changed i_read i_newRows i_newEntries i_newColumns i_greatest a_newAt i_partings a_lowSet a_highSet i_leastMany a_leastAt a_tried a_keptLow a_keptHigh i_laid a_wants i_wide a_wideAsked a_wideOnes i_sum i_flickers a_sumAt j_h) U.heap ∧ va_K D vwCl (tyM cA) U ∧ va_D A (wM q cA i_pageLength a_page i_states i_columns a_entries i_signals a_signalAt i_walksAt i_turned i_changed i_read i_newRows i_newEntries i_newColumns i_greatest a_newAt i_partings a_lowSet a_highSet i_leastMany a_leastAt a_tried a_keptLow a_keptHigh i_laid a_wants i_wide a_wideAsked a_wideOnes i_sum i_flickers a_sumAt j_h))) (qWi (Z_X10_logic D q cA i_pageLength a_page i_states i_columns a_entries i_signals a_signalAt i_walksAt i_turned i_changed i_read i_newRows i_newEntries i_newColumns i_greatest a_newAt i_partings a_lowSet a_highSet i_leastMany a_leastAt a_tried a_keptLow a_keptHigh j_h post) A) 0 0 A := by
  refine Met.ofW (cc := cX10_logic) (maxL := 3) (ret := (some .int)) (by decide) rfl ?_
  intro p e s m args below meth c s₁ B hml hv
  obtain ⟨rfl, hP, hK, hD⟩ := hv
  have X : kC p (headSpec (Cond.code yX10_logic cX10_logic 3 (some .int) :: wsL_law) (rmH 6)).room s m _ meth c cX10_logic RX10 3 (some .int) 6 := ⟨B.exec, B.bytes, hml, findClass_of_methodNamed B.named, fun w h => atoms_spec (ws := Cond.code yX10_logic cX10_logic 3 (some .int) :: wsL_law) B.pre w (List.mem_cons_of_mem _ h), B.returns, B.notSynchronized, Nat.le_refl _, Nat.le_refl _⟩
  obtain ⟨hx, hb, hml, hown, hts, hr, hlocks, hRf, hRl⟩ := id X
  have hS : va_S A s.heap s.heap [] := va_S.rf
  have hl := lv_entry ([.ref (q 0), .int x1, .int x2]) (n := 3) (Nat.le_of_ble_eq_true rfl)
  rw [lg_entry_eq]
  generalize (lg_sl ([.ref (q 0), .int x1, .int x2]) ++ List.replicate (3 - (lg_sl ([.ref (q 0), .int x1, .int x2])).length) Slot.unset).toArray = ls at hl ⊢
  have hl : lv_has ls 3 [(0, .ref (q 0)), (1, .int x1), (2, .int x2)] := hl
  refine lv_aload_n hx hb dX10_logic_0 rfl (lv_at hl 0 rfl) ?_
  refine ro_i (va_runV (As := []) (rest := []) ⟨hx, hb, hml, hown, hts⟩ (c_X10_isGood l hw) (kRX10_208 (h := 3) hts (Nat.le_trans (Nat.le_of_ble_eq_true rfl) hRf) (Nat.le_trans (Nat.le_of_ble_eq_true rfl) hRl)) (preM hK hP) rfl rfl hl.1 rfl (lv_room (Nat.le_of_ble_eq_true rfl)) dX10_logic_1 ⟨Nat.zero_le _, Nat.zero_le _⟩) (fun r_1 hw => ?_)
  refine lv_if_ne (tgt := 11) hx hb dX10_logic_4 (by decide) (fun c_2 => ?_) (fun c_2 => ?_)
  · have hw := hw.2 c_2
    refine lv_iload_n hx hb dX10_logic_11 rfl (lv_at hl 1 rfl) ?_
    refine lv_iconst (v := (0 : Int32)) hx hb dX10_logic_12 (by decide) ?_
    refine lv_aload_n hx hb dX10_logic_13 rfl (lv_at hl 0 rfl) ?_
    refine gRX10_99 hx hb hown hts hK hP dX10_logic_14 ?_
    refine lv_iconst (v := (1 : Int32)) hx hb dX10_logic_17 (by decide) ?_
    refine lv_isub hx hb dX10_logic_18 ?_
    refine ro_i (va_runS (As := [.int x1, .int (0 : Int32), .int (i_signals - (1 : Int32))]) (rest := []) ⟨hx, hb, hml, hown, hts⟩ (c_X10_within l hw) (kRX10_60 (h := 0) hts (Nat.le_trans (Nat.le_of_ble_eq_true rfl) hRf) (Nat.le_trans (Nat.le_of_ble_eq_true rfl) hRl)) pre_0 rfl rfl hl.1 rfl (lv_room (Nat.le_of_ble_eq_true rfl)) dX10_logic_19 ⟨Nat.zero_le _, Nat.zero_le _⟩) (fun r_3 hw => ?_)
    refine lv_if_ne (tgt := 29) hx hb dX10_logic_22 (by decide) (fun c_4 => ?_) (fun c_4 => ?_)
    · have hw := hw.2 c_4
      refine lv_iload_n hx hb dX10_logic_29 rfl (lv_at hl 2 rfl) ?_
      refine lv_iconst (v := (0 : Int32)) hx hb dX10_logic_30 (by decide) ?_
      refine lv_iconst (v := (5 : Int32)) hx hb dX10_logic_31 (by decide) ?_
      refine ro_i (va_runS (As := [.int x2, .int (0 : Int32), .int (5 : Int32)]) (rest := []) ⟨hx, hb, hml, hown, hts⟩ (c_X10_within l hw) (kRX10_60 (h := 0) hts (Nat.le_trans (Nat.le_of_ble_eq_true rfl) hRf) (Nat.le_trans (Nat.le_of_ble_eq_true rfl) hRl)) pre_0 rfl rfl hl.1 rfl (lv_room (Nat.le_of_ble_eq_true rfl)) dX10_logic_32 ⟨Nat.zero_le _, Nat.zero_le _⟩) (fun r_5 hw => ?_)
      refine lv_if_eq (tgt := 47) hx hb dX10_logic_35 (by decide) (fun c_6 => ?_) (fun c_6 => ?_)
      · have hw := hw.1 c_6
        refine lv_sipush (v := ((-1002) : Int32)) hx hb dX10_logic_47 (by decide +kernel) ?_
        exact rw_i hx hb hr hlocks (fun t ht => ⟨i_laid, a_wants, i_wide, a_wideAsked, a_wideOnes, i_sum, i_flickers, a_sumAt, hw, by rw [ht]; exact hP⟩) hS dX10_logic_50
      · have hw := hw.2 c_6
        refine lv_aload_n hx hb dX10_logic_38 rfl (lv_at hl 0 rfl) ?_
        refine lv_iload_n hx hb dX10_logic_39 rfl (lv_at hl 1 rfl) ?_
        refine lv_iload_n hx hb dX10_logic_40 rfl (lv_at hl 2 rfl) ?_
        refine wr_i (va_runV (As := [.int x1, .int x2]) (rest := []) ⟨hx, hb, hml, hown, hts⟩ (c_X10_logicNow l hw) (kRX10_260 (h := 5) hts (Nat.le_trans (Nat.le_of_ble_eq_true rfl) hRf) (Nat.le_trans (Nat.le_of_ble_eq_true rfl) hRl)) (preMw hK hP hD) rfl rfl hl.1 rfl (lv_room (Nat.le_of_ble_eq_true rfl)) dX10_logic_41 ⟨Nat.zero_le _, Nat.zero_le _⟩) hS (fun r_7 t H locs ht hw hS => ?_)
        obtain ⟨ylaid_7, ywants_7, ywide_7, ywideAsked_7, ywideOnes_7, ysum_7, yflickers_7, ysumAt_7, hw, hP⟩ := hw
        rw [ht] at hP
        have hP : va_P D vwCl (wM q cA i_pageLength a_page i_states i_columns a_entries i_signals a_signalAt i_walksAt i_turned i_changed i_read i_newRows i_newEntries i_newColumns i_greatest a_newAt i_partings a_lowSet a_highSet i_leastMany a_leastAt a_tried a_keptLow a_keptHigh ylaid_7 ywants_7 ywide_7 ywideAsked_7 ywideOnes_7 ysum_7 yflickers_7 ysumAt_7 j_h) H := hP
        have hD : va_D A (wM q cA i_pageLength a_page i_states i_columns a_entries i_signals a_signalAt i_walksAt i_turned i_changed i_read i_newRows i_newEntries i_newColumns i_greatest a_newAt i_partings a_lowSet a_highSet i_leastMany a_leastAt a_tried a_keptLow a_keptHigh ylaid_7 ywants_7 ywide_7 ywideAsked_7 ywideOnes_7 ysum_7 yflickers_7 ysumAt_7 j_h) := dM hD
        refine lv_goto (tgt := 50) hx hb dX10_logic_44 (by decide) ?_
        exact rw_i hx hb hr hlocks (fun t ht => ⟨ylaid_7, ywants_7, ywide_7, ywideAsked_7, ywideOnes_7, ysum_7, yflickers_7, ysumAt_7, hw, by rw [ht]; exact hP⟩) hS dX10_logic_50
    · have hw := hw.1 c_4
      refine lv_sipush (v := ((-1001) : Int32)) hx hb dX10_logic_25 (by decide +kernel) ?_
      exact rw_i hx hb hr hlocks (fun t ht => ⟨i_laid, a_wants, i_wide, a_wideAsked, a_wideOnes, i_sum, i_flickers, a_sumAt, hw, by rw [ht]; exact hP⟩) hS dX10_logic_28
  · have hw := hw.1 c_2
    refine lv_sipush (v := ((-1003) : Int32)) hx hb dX10_logic_7 (by decide +kernel) ?_
    exact rw_i hx hb hr hlocks (fun t ht => ⟨i_laid, a_wants, i_wide, a_wideAsked, a_wideOnes, i_sum, i_flickers, a_sumAt, hw, by rw [ht]; exact hP⟩) hS dX10_logic_10
set_option maxHeartbeats 4000000 in
set_option maxRecDepth 100000 in
theorem c_X4_ofWide (l : Launch) {D : va_G} {q : Nat → Nat} {cA : Nat → ClassId} {Fc_unkept : Int32} {Fc_tablesRead : Int32} {Pg_letters : Nat → Int32} {Pg_size : Int32} {Pg_fault : Int32} {Pg_rows : Int32} {Pg_inRow : Int32} {Pg_width : Int32} {Fl_entries : Nat → Int32} {Fl_states : Int32} {Fl_columns : Int32} {Fl_moves : Int32} {Fl_stables : Int32} {Fl_amiss : Int32} {Fl_normal : Int32} {Pt_lessers : Nat → Int32} {Pt_greaters : Nat → Int32} {Pt_size : Int32} {Lc_signals : Nat → Int32} {Lc_kept : Nat → Int64} {Lc_keptFrom : Nat → Int64} {Lc_candidates : Int32} {Lc_size : Int32} {Sc_signals : Nat → Int32} {Sc_codes : Nat → Int32} {Sc_size : Int32} {Ai_codes : Nat → Int32} {Ai_bits : Int32} {Cu_seen : Nat → Int32} {Cu_inThrees : Nat → Int32} {Cu_all : Int32} {Lo_asked : Nat → Nat → Int32} {lo_asked : Nat → Int32} {Lo_ones : Nat → Nat → Int32} {lo_ones : Nat → Int32} {Lo_sum : Nat → Nat → Int32} {lo_sum : Nat → Int32} {Lo_wideSize : Nat → Int32} {lo_wideSize : Int32} {Lo_sumSize : Nat → Int32} {lo_sumSize : Int32} {Lo_flickers : Nat → Int32} {lo_flickers : Int32} {Lo_ready : Nat → Int32} {lo_ready : Int32} {Wa_at : Int32} {Wa_turns : Int32} {Wa_changes : Int32} {k : Nat} {post : Int32 → Prop} {x1 : Int32} {x2 : Int32} (hk : k < 5) (hw : wp_X4_ofWide post lo_asked lo_ones lo_wideSize x1 x2) : Met l yX4_ofWide (Cond.code yX4_ofWide cX4_ofWide 3 (some .int) :: wsL_law) (rmH 0) (va_Pc [.ref (q (22 + 4 * k)), .int x1, .int x2] (fun U => va_P D vwCl (wC q cA Fc_unkept Fc_tablesRead Pg_letters Pg_size Pg_fault Pg_rows Pg_inRow Pg_width Fl_entries Fl_states Fl_columns Fl_moves Fl_stables Fl_amiss Fl_normal Pt_lessers Pt_greaters Pt_size Lc_signals Lc_kept Lc_keptFrom Lc_candidates Lc_size Sc_signals Sc_codes Sc_size Ai_codes Ai_bits Cu_seen Cu_inThrees Cu_all (va_up Lo_asked k lo_asked) (va_up Lo_ones k lo_ones) (va_up Lo_sum k lo_sum) (va_up Lo_wideSize k lo_wideSize) (va_up Lo_sumSize k lo_sumSize) (va_up Lo_flickers k lo_flickers) (va_up Lo_ready k lo_ready) Wa_at Wa_turns Wa_changes) U.heap ∧ va_K D vwCl (tyC cA) U ∧ nwC U)) (qRi post) 0 0 (fun _ => False) := by
  refine Met.ofW (cc := cX4_ofWide) (maxL := 3) (ret := (some .int)) (by decide) rfl ?_
  intro p e s m args below meth c s₁ B hml hv
  obtain ⟨rfl, hP, hK, hN⟩ := hv
  have X : kC p (headSpec (Cond.code yX4_ofWide cX4_ofWide 3 (some .int) :: wsL_law) (rmH 0)).room s m _ meth c cX4_ofWide RX4 3 (some .int) 0 := ⟨B.exec, B.bytes, hml, findClass_of_methodNamed B.named, fun w h => atoms_spec (ws := Cond.code yX4_ofWide cX4_ofWide 3 (some .int) :: wsL_law) B.pre w (List.mem_cons_of_mem _ h), B.returns, B.notSynchronized, Nat.le_refl _, Nat.le_refl _⟩
  obtain ⟨hx, hb, hml, hown, hts, hr, hlocks, hRf, hRl⟩ := id X
  have hl := lv_entry ([.ref (q (22 + 4 * k)), .int x1, .int x2]) (n := 3) (Nat.le_of_ble_eq_true rfl)
  rw [lg_entry_eq]
  generalize (lg_sl ([.ref (q (22 + 4 * k)), .int x1, .int x2]) ++ List.replicate (3 - (lg_sl ([.ref (q (22 + 4 * k)), .int x1, .int x2])).length) Slot.unset).toArray = ls at hl ⊢
  have hl : lv_has ls 3 [(0, .ref (q (22 + 4 * k))), (1, .int x1), (2, .int x2)] := hl
  refine lv_iload_n hx hb dX4_ofWide_0 rfl (lv_at hl 1 rfl) ?_
  refine lv_if_lt (tgt := 12) hx hb dX4_ofWide_1 (by decide) (fun c_1 => ?_) (fun c_1 => ?_)
  · have hw := hw.1 c_1
    refine lv_sipush (v := ((-1001) : Int32)) hx hb dX4_ofWide_12 (by decide +kernel) ?_
    exact rt_i hx hb hr hlocks hw dX4_ofWide_15
  · have hw := hw.2 c_1
    refine lv_iload_n hx hb dX4_ofWide_4 rfl (lv_at hl 1 rfl) ?_
    refine lv_aload_n hx hb dX4_ofWide_5 rfl (lv_at hl 0 rfl) ?_
    refine gRX4_21 (k := k) hk hx hb hown hts hK hP dX4_ofWide_6 ?_
    rw [show va_up Lo_wideSize k lo_wideSize k = lo_wideSize from by simp [va_up]]
    refine lv_icmp_lt (tgt := 16) hx hb dX4_ofWide_9 (by decide) (fun c_2 => ?_) (fun c_2 => ?_)
    · have hw := hw.1 c_2
      refine lv_iload_n hx hb dX4_ofWide_16 rfl (lv_at hl 2 rfl) ?_
      refine lv_if_ne (tgt := 27) hx hb dX4_ofWide_17 (by decide) (fun c_3 => ?_) (fun c_3 => ?_)
      · have hw := hw.2 c_3
        refine lv_iload_n hx hb dX4_ofWide_27 rfl (lv_at hl 2 rfl) ?_
        refine lv_iconst (v := (1 : Int32)) hx hb dX4_ofWide_28 (by decide) ?_
        refine lv_icmp_ne (tgt := 41) hx hb dX4_ofWide_29 (by decide) (fun c_4 => ?_) (fun c_4 => ?_)
        · have hw := hw.2 c_4
          refine lv_sipush (v := ((-1002) : Int32)) hx hb dX4_ofWide_41 (by decide +kernel) ?_
          exact rt_i hx hb hr hlocks hw dX4_ofWide_44
        · have hw := hw.1 c_4
          refine lv_aload_n hx hb dX4_ofWide_32 rfl (lv_at hl 0 rfl) ?_
          refine gRX4_15 (k := k) hk hx hb hown hts hK hP dX4_ofWide_33 ?_
          refine lv_iload_n hx hb dX4_ofWide_36 rfl (lv_at hl 1 rfl) ?_
          have h_5 := hw.1
          have hw := hw.2
          refine ld_Lo_ones (k := k) hk hx hb hK hP h_5 dX4_ofWide_37 ?_
          rw [show va_up Lo_ones k lo_ones k = lo_ones from by simp [va_up]]
          refine lv_goto (tgt := 44) hx hb dX4_ofWide_38 (by decide) ?_
          exact rt_i hx hb hr hlocks hw dX4_ofWide_44
      · have hw := hw.1 c_3
        refine lv_aload_n hx hb dX4_ofWide_20 rfl (lv_at hl 0 rfl) ?_
        refine gRX4_11 (k := k) hk hx hb hown hts hK hP dX4_ofWide_21 ?_
        refine lv_iload_n hx hb dX4_ofWide_24 rfl (lv_at hl 1 rfl) ?_
        have h_6 := hw.1
        have hw := hw.2
        refine ld_Lo_asked (k := k) hk hx hb hK hP h_6 dX4_ofWide_25 ?_
        rw [show va_up Lo_asked k lo_asked k = lo_asked from by simp [va_up]]
        exact rt_i hx hb hr hlocks hw dX4_ofWide_26
    · have hw := hw.2 c_2
      refine lv_sipush (v := ((-1001) : Int32)) hx hb dX4_ofWide_12 (by decide +kernel) ?_
      exact rt_i hx hb hr hlocks hw dX4_ofWide_15
set_option maxHeartbeats 4000000 in
set_option maxRecDepth 100000 in
theorem c_X4_ofSum (l : Launch) {D : va_G} {q : Nat → Nat} {cA : Nat → ClassId} {Fc_unkept : Int32} {Fc_tablesRead : Int32} {Pg_letters : Nat → Int32} {Pg_size : Int32} {Pg_fault : Int32} {Pg_rows : Int32} {Pg_inRow : Int32} {Pg_width : Int32} {Fl_entries : Nat → Int32} {Fl_states : Int32} {Fl_columns : Int32} {Fl_moves : Int32} {Fl_stables : Int32} {Fl_amiss : Int32} {Fl_normal : Int32} {Pt_lessers : Nat → Int32} {Pt_greaters : Nat → Int32} {Pt_size : Int32} {Lc_signals : Nat → Int32} {Lc_kept : Nat → Int64} {Lc_keptFrom : Nat → Int64} {Lc_candidates : Int32} {Lc_size : Int32} {Sc_signals : Nat → Int32} {Sc_codes : Nat → Int32} {Sc_size : Int32} {Ai_codes : Nat → Int32} {Ai_bits : Int32} {Cu_seen : Nat → Int32} {Cu_inThrees : Nat → Int32} {Cu_all : Int32} {Lo_asked : Nat → Nat → Int32} {lo_asked : Nat → Int32} {Lo_ones : Nat → Nat → Int32} {lo_ones : Nat → Int32} {Lo_sum : Nat → Nat → Int32} {lo_sum : Nat → Int32} {Lo_wideSize : Nat → Int32} {lo_wideSize : Int32} {Lo_sumSize : Nat → Int32} {lo_sumSize : Int32} {Lo_flickers : Nat → Int32} {lo_flickers : Int32} {Lo_ready : Nat → Int32} {lo_ready : Int32} {Wa_at : Int32} {Wa_turns : Int32} {Wa_changes : Int32} {k : Nat} {post : Int32 → Prop} {x1 : Int32} {x2 : Int32} (hk : k < 5) (hw : wp_X4_ofSum post lo_asked lo_ones lo_sum lo_wideSize lo_sumSize x1 x2) : Met l yX4_ofSum (Cond.code yX4_ofSum cX4_ofSum 3 (some .int) :: wsL_law) (rmH 1) (va_Pc [.ref (q (22 + 4 * k)), .int x1, .int x2] (fun U => va_P D vwCl (wC q cA Fc_unkept Fc_tablesRead Pg_letters Pg_size Pg_fault Pg_rows Pg_inRow Pg_width Fl_entries Fl_states Fl_columns Fl_moves Fl_stables Fl_amiss Fl_normal Pt_lessers Pt_greaters Pt_size Lc_signals Lc_kept Lc_keptFrom Lc_candidates Lc_size Sc_signals Sc_codes Sc_size Ai_codes Ai_bits Cu_seen Cu_inThrees Cu_all (va_up Lo_asked k lo_asked) (va_up Lo_ones k lo_ones) (va_up Lo_sum k lo_sum) (va_up Lo_wideSize k lo_wideSize) (va_up Lo_sumSize k lo_sumSize) (va_up Lo_flickers k lo_flickers) (va_up Lo_ready k lo_ready) Wa_at Wa_turns Wa_changes) U.heap ∧ va_K D vwCl (tyC cA) U ∧ nwC U)) (qRi post) 0 0 (fun _ => False) := by
  refine Met.ofW (cc := cX4_ofSum) (maxL := 3) (ret := (some .int)) (by decide) rfl ?_
  intro p e s m args below meth c s₁ B hml hv
  obtain ⟨rfl, hP, hK, hN⟩ := hv
  have X : kC p (headSpec (Cond.code yX4_ofSum cX4_ofSum 3 (some .int) :: wsL_law) (rmH 1)).room s m _ meth c cX4_ofSum RX4 3 (some .int) 1 := ⟨B.exec, B.bytes, hml, findClass_of_methodNamed B.named, fun w h => atoms_spec (ws := Cond.code yX4_ofSum cX4_ofSum 3 (some .int) :: wsL_law) B.pre w (List.mem_cons_of_mem _ h), B.returns, B.notSynchronized, Nat.le_refl _, Nat.le_refl _⟩
  obtain ⟨hx, hb, hml, hown, hts, hr, hlocks, hRf, hRl⟩ := id X
  have hl := lv_entry ([.ref (q (22 + 4 * k)), .int x1, .int x2]) (n := 3) (Nat.le_of_ble_eq_true rfl)
  rw [lg_entry_eq]
  generalize (lg_sl ([.ref (q (22 + 4 * k)), .int x1, .int x2]) ++ List.replicate (3 - (lg_sl ([.ref (q (22 + 4 * k)), .int x1, .int x2])).length) Slot.unset).toArray = ls at hl ⊢
  have hl : lv_has ls 3 [(0, .ref (q (22 + 4 * k))), (1, .int x1), (2, .int x2)] := hl
  refine lv_iload_n hx hb dX4_ofSum_0 rfl (lv_at hl 1 rfl) ?_
  refine lv_if_lt (tgt := 26) hx hb dX4_ofSum_1 (by decide) (fun c_1 => ?_) (fun c_1 => ?_)
  · have hw := hw.1 c_1
    refine lv_sipush (v := ((-1001) : Int32)) hx hb dX4_ofSum_26 (by decide +kernel) ?_
    exact rt_i hx hb hr hlocks hw dX4_ofSum_29
  · have hw := hw.2 c_1
    refine lv_iload_n hx hb dX4_ofSum_4 rfl (lv_at hl 1 rfl) ?_
    refine lv_aload_n hx hb dX4_ofSum_5 rfl (lv_at hl 0 rfl) ?_
    refine gRX4_40 (k := k) hk hx hb hown hts hK hP dX4_ofSum_6 ?_
    rw [show va_up Lo_sumSize k lo_sumSize k = lo_sumSize from by simp [va_up]]
    refine lv_icmp_ge (tgt := 26) hx hb dX4_ofSum_9 (by decide) (fun c_2 => ?_) (fun c_2 => ?_)
    · have hw := hw.1 c_2
      refine lv_sipush (v := ((-1001) : Int32)) hx hb dX4_ofSum_26 (by decide +kernel) ?_
      exact rt_i hx hb hr hlocks hw dX4_ofSum_29
    · have hw := hw.2 c_2
      refine lv_aload_n hx hb dX4_ofSum_12 rfl (lv_at hl 0 rfl) ?_
      refine lv_aload_n hx hb dX4_ofSum_13 rfl (lv_at hl 0 rfl) ?_
      refine gRX4_18 (k := k) hk hx hb hown hts hK hP dX4_ofSum_14 ?_
      refine lv_iload_n hx hb dX4_ofSum_17 rfl (lv_at hl 1 rfl) ?_
      have h_3 := hw.1
      have hw := hw.2
      refine ld_Lo_sum (k := k) hk hx hb hK hP h_3 dX4_ofSum_18 ?_
      rw [show va_up Lo_sum k lo_sum k = lo_sum from by simp [va_up]]
      refine lv_iload_n hx hb dX4_ofSum_19 rfl (lv_at hl 2 rfl) ?_
      refine ro_i (va_runV (As := [.int (lo_sum x1.toNatClampNeg), .int x2]) (rest := []) ⟨hx, hb, hml, hown, hts⟩ (c_X4_ofWide l (k := k) hk hw) (kRX4_67 (h := 0) hts (Nat.le_trans (Nat.le_of_ble_eq_true rfl) hRf) (Nat.le_trans (Nat.le_of_ble_eq_true rfl) hRl)) (preX4 (k := k) hk hK hN hP) rfl rfl hl.1 rfl (lv_room (Nat.le_of_ble_eq_true rfl)) dX4_ofSum_20 ⟨Nat.zero_le _, Nat.zero_le _⟩) (fun r_4 hw => ?_)
      refine lv_goto (tgt := 29) hx hb dX4_ofSum_23 (by decide) ?_
      exact rt_i hx hb hr hlocks hw dX4_ofSum_29
abbrev Z_X9_product (D : va_G) (q : Nat → Nat) (cA : Nat → ClassId) (Fc_unkept : Int32) (Fc_tablesRead : Int32) (Pg_letters : Nat → Int32) (Pg_size : Int32) (Pg_fault : Int32) (Pg_rows : Int32) (Pg_inRow : Int32) (Pg_width : Int32) (Fl_entries : Nat → Int32) (Fl_states : Int32) (Fl_columns : Int32) (Fl_moves : Int32) (Fl_stables : Int32) (Fl_amiss : Int32) (Fl_normal : Int32) (Pt_lessers : Nat → Int32) (Pt_greaters : Nat → Int32) (Pt_size : Int32) (Lc_signals : Nat → Int32) (Lc_kept : Nat → Int64) (Lc_keptFrom : Nat → Int64) (Lc_candidates : Int32) (Lc_size : Int32) (Sc_signals : Nat → Int32) (Sc_codes : Nat → Int32) (Sc_size : Int32) (Ai_codes : Nat → Int32) (Ai_bits : Int32) (Cu_inThrees : Nat → Int32) (Wa_at : Int32) (Wa_turns : Int32) (Wa_changes : Int32) (post : Int32 → (Nat → Int32) → Int32 → (Nat → Nat → Int32) → (Nat → Nat → Int32) → (Nat → Nat → Int32) → (Nat → Int32) → (Nat → Int32) → (Nat → Int32) → (Nat → Int32) → Prop) : Int32 → State → Prop := fun r t => ∃ (y_Cu_seen : Nat → Int32) (y_Cu_all : Int32) (y_Lo_asked : Nat → Nat → Int32) (y_Lo_ones : Nat → Nat → Int32) (y_Lo_sum : Nat → Nat → Int32) (y_Lo_wideSize : Nat → Int32) (y_Lo_sumSize : Nat → Int32) (y_Lo_flickers : Nat → Int32) (y_Lo_ready : Nat → Int32), post r y_Cu_seen y_Cu_all y_Lo_asked y_Lo_ones y_Lo_sum y_Lo_wideSize y_Lo_sumSize y_Lo_flickers y_Lo_ready ∧ va_P D vwCl (wC q cA Fc_unkept Fc_tablesRead Pg_letters Pg_size Pg_fault Pg_rows Pg_inRow Pg_width Fl_entries Fl_states Fl_columns Fl_moves Fl_stables Fl_amiss Fl_normal Pt_lessers Pt_greaters Pt_size Lc_signals Lc_kept Lc_keptFrom Lc_candidates Lc_size Sc_signals Sc_codes Sc_size Ai_codes Ai_bits y_Cu_seen Cu_inThrees y_Cu_all y_Lo_asked y_Lo_ones y_Lo_sum y_Lo_wideSize y_Lo_sumSize y_Lo_flickers y_Lo_ready Wa_at Wa_turns Wa_changes) t.heap
set_option maxHeartbeats 4000000 in
set_option maxRecDepth 100000 in
theorem c_X9_product (l : Launch) {D : va_G} {q : Nat → Nat} {cA : Nat → ClassId} {Fc_unkept : Int32} {Fc_tablesRead : Int32} {Pg_letters : Nat → Int32} {Pg_size : Int32} {Pg_fault : Int32} {Pg_rows : Int32} {Pg_inRow : Int32} {Pg_width : Int32} {Fl_entries : Nat → Int32} {Fl_states : Int32} {Fl_columns : Int32} {Fl_moves : Int32} {Fl_stables : Int32} {Fl_amiss : Int32} {Fl_normal : Int32} {Pt_lessers : Nat → Int32} {Pt_greaters : Nat → Int32} {Pt_size : Int32} {Lc_signals : Nat → Int32} {Lc_kept : Nat → Int64} {Lc_keptFrom : Nat → Int64} {Lc_candidates : Int32} {Lc_size : Int32} {Sc_signals : Nat → Int32} {Sc_codes : Nat → Int32} {Sc_size : Int32} {Ai_codes : Nat → Int32} {Ai_bits : Int32} {Cu_seen : Nat → Int32} {Cu_inThrees : Nat → Int32} {Cu_all : Int32} {Lo_asked : Nat → Nat → Int32} {Lo_ones : Nat → Nat → Int32} {Lo_sum : Nat → Nat → Int32} {Lo_wideSize : Nat → Int32} {Lo_sumSize : Nat → Int32} {Lo_flickers : Nat → Int32} {Lo_ready : Nat → Int32} {Wa_at : Int32} {Wa_turns : Int32} {Wa_changes : Int32} {A : Nat → Prop} {post : Int32 → (Nat → Int32) → Int32 → (Nat → Nat → Int32) → (Nat → Nat → Int32) → (Nat → Nat → Int32) → (Nat → Int32) → (Nat → Int32) → (Nat → Int32) → (Nat → Int32) → Prop} {x1 : Int32} {x2 : Int32} {x3 : Int32} (hw : wp_X9_product post Fc_unkept Fl_normal Sc_size Ai_codes Ai_bits Cu_seen Cu_inThrees Cu_all Lo_asked Lo_ones Lo_sum Lo_wideSize Lo_sumSize Lo_flickers Lo_ready x1 x2 x3) : Met l yX9_product (Cond.code yX9_product cX9_product 5 (some .int) :: wsL_law) (rmH 4) (va_Pc [.ref (q 0), .int x1, .int x2, .int x3] (fun U => va_P D vwCl (wC q cA Fc_unkept Fc_tablesRead Pg_letters Pg_size Pg_fault Pg_rows Pg_inRow Pg_width Fl_entries Fl_states Fl_columns Fl_moves Fl_stables Fl_amiss Fl_normal Pt_lessers Pt_greaters Pt_size Lc_signals Lc_kept Lc_keptFrom Lc_candidates Lc_size Sc_signals Sc_codes Sc_size Ai_codes Ai_bits Cu_seen Cu_inThrees Cu_all Lo_asked Lo_ones Lo_sum Lo_wideSize Lo_sumSize Lo_flickers Lo_ready Wa_at Wa_turns Wa_changes) U.heap ∧ va_K D vwCl (tyC cA) U ∧ nwC U ∧ va_D A (wC q cA Fc_unkept Fc_tablesRead Pg_letters Pg_size Pg_fault Pg_rows Pg_inRow Pg_width Fl_entries Fl_states Fl_columns Fl_moves Fl_stables Fl_amiss Fl_normal Pt_lessers Pt_greaters Pt_size Lc_signals Lc_kept Lc_keptFrom Lc_candidates Lc_size Sc_signals Sc_codes Sc_size Ai_codes Ai_bits Cu_seen Cu_inThrees Cu_all Lo_asked Lo_ones Lo_sum Lo_wideSize Lo_sumSize Lo_flickers Lo_ready Wa_at Wa_turns Wa_changes))) (qWi (Z_X9_product D q cA Fc_unkept Fc_tablesRead Pg_letters Pg_size Pg_fault Pg_rows Pg_inRow Pg_width Fl_entries Fl_states Fl_columns Fl_moves Fl_stables Fl_amiss Fl_normal Pt_lessers Pt_greaters Pt_size Lc_signals Lc_kept Lc_keptFrom Lc_candidates Lc_size Sc_signals Sc_codes Sc_size Ai_codes Ai_bits Cu_inThrees Wa_at Wa_turns Wa_changes post) A) 0 0 A := by
  refine Met.ofW (cc := cX9_product) (maxL := 5) (ret := (some .int)) (by decide) rfl ?_
  intro p e s m args below meth c s₁ B hml hv
  obtain ⟨rfl, hP, hK, hN, hD⟩ := hv
  have X : kC p (headSpec (Cond.code yX9_product cX9_product 5 (some .int) :: wsL_law) (rmH 4)).room s m _ meth c cX9_product RX9 5 (some .int) 4 := ⟨B.exec, B.bytes, hml, findClass_of_methodNamed B.named, fun w h => atoms_spec (ws := Cond.code yX9_product cX9_product 5 (some .int) :: wsL_law) B.pre w (List.mem_cons_of_mem _ h), B.returns, B.notSynchronized, Nat.le_refl _, Nat.le_refl _⟩
  obtain ⟨hx, hb, hml, hown, hts, hr, hlocks, hRf, hRl⟩ := id X
  have hS : va_S A s.heap s.heap [] := va_S.rf
  have hl := lv_entry ([.ref (q 0), .int x1, .int x2, .int x3]) (n := 5) (Nat.le_of_ble_eq_true rfl)
  rw [lg_entry_eq]
  generalize (lg_sl ([.ref (q 0), .int x1, .int x2, .int x3]) ++ List.replicate (5 - (lg_sl ([.ref (q 0), .int x1, .int x2, .int x3])).length) Slot.unset).toArray = ls at hl ⊢
  have hl : lv_has ls 5 [(0, .ref (q 0)), (1, .int x1), (2, .int x2), (3, .int x3)] := hl
  refine lv_aload_n hx hb dX9_product_0 rfl (lv_at hl 0 rfl) ?_
  refine lv_iload_n hx hb dX9_product_1 rfl (lv_at hl 1 rfl) ?_
  refine ro_i (va_runV (As := [.int x1]) (rest := []) ⟨hx, hb, hml, hown, hts⟩ (c_X9_refusalOf l hw) (kRX9_190 (h := 1) hts (Nat.le_trans (Nat.le_of_ble_eq_true rfl) hRf) (Nat.le_trans (Nat.le_of_ble_eq_true rfl) hRl)) (preX9 hK hN hP) rfl rfl hl.1 rfl (lv_room (Nat.le_of_ble_eq_true rfl)) dX9_product_2 ⟨Nat.zero_le _, Nat.zero_le _⟩) (fun r_1 hw => ?_)
  refine lv_istore (lv' := [(4, .int r_1), (0, .ref (q 0)), (1, .int x1), (2, .int x2), (3, .int x3)]) hx hb dX9_product_5 hl (by decide) rfl (fun ls hl => ?_)
  refine lv_iload hx hb dX9_product_7 (lv_at hl 0 rfl) ?_
  refine lv_if_eq (tgt := 15) hx hb dX9_product_9 (by decide) (fun c_2 => ?_) (fun c_2 => ?_)
  · have hw := hw.1 c_2
    refine lv_aload_n hx hb dX9_product_15 rfl (lv_at hl 1 rfl) ?_
    refine lv_iload_n hx hb dX9_product_16 rfl (lv_at hl 2 rfl) ?_
    refine wr_r (va_runV (As := [.int x1]) (rest := []) ⟨hx, hb, hml, hown, hts⟩ (c_X9_workedOut l hw) (kRX9_199 (h := 3) hts (Nat.le_trans (Nat.le_of_ble_eq_true rfl) hRf) (Nat.le_trans (Nat.le_of_ble_eq_true rfl) hRl)) (preX9w hK hN hP hD) rfl rfl hl.1 rfl (lv_room (Nat.le_of_ble_eq_true rfl)) dX9_product_17 ⟨Nat.zero_le _, Nat.zero_le _⟩) hS (fun rr t H locs ht hw hS => ?_)
    obtain ⟨j_3, yseen_3, yall_3, yasked_3, yones_3, ysum_3, ywideSize_3, ysumSize_3, yflickers_3, yready_3, rfl, hj_3, hw, hP⟩ := hw
    rw [ht] at hP
    have hP : va_P D vwCl (wC q cA Fc_unkept Fc_tablesRead Pg_letters Pg_size Pg_fault Pg_rows Pg_inRow Pg_width Fl_entries Fl_states Fl_columns Fl_moves Fl_stables Fl_amiss Fl_normal Pt_lessers Pt_greaters Pt_size Lc_signals Lc_kept Lc_keptFrom Lc_candidates Lc_size Sc_signals Sc_codes Sc_size Ai_codes Ai_bits yseen_3 Cu_inThrees yall_3 yasked_3 yones_3 ysum_3 ywideSize_3 ysumSize_3 yflickers_3 yready_3 Wa_at Wa_turns Wa_changes) H := hP
    have hD : va_D A (wC q cA Fc_unkept Fc_tablesRead Pg_letters Pg_size Pg_fault Pg_rows Pg_inRow Pg_width Fl_entries Fl_states Fl_columns Fl_moves Fl_stables Fl_amiss Fl_normal Pt_lessers Pt_greaters Pt_size Lc_signals Lc_kept Lc_keptFrom Lc_candidates Lc_size Sc_signals Sc_codes Sc_size Ai_codes Ai_bits yseen_3 Cu_inThrees yall_3 yasked_3 yones_3 ysum_3 ywideSize_3 ysumSize_3 yflickers_3 yready_3 Wa_at Wa_turns Wa_changes) := dC hD
    refine lv_iload_n hx hb dX9_product_20 rfl (lv_at hl 3 rfl) ?_
    refine lv_iload_n hx hb dX9_product_21 rfl (lv_at hl 4 rfl) ?_
    have hP2 : va_P D vwCl (wC q cA Fc_unkept Fc_tablesRead Pg_letters Pg_size Pg_fault Pg_rows Pg_inRow Pg_width Fl_entries Fl_states Fl_columns Fl_moves Fl_stables Fl_amiss Fl_normal Pt_lessers Pt_greaters Pt_size Lc_signals Lc_kept Lc_keptFrom Lc_candidates Lc_size Sc_signals Sc_codes Sc_size Ai_codes Ai_bits yseen_3 Cu_inThrees yall_3 (va_up yasked_3 j_3 (yasked_3 j_3)) (va_up yones_3 j_3 (yones_3 j_3)) (va_up ysum_3 j_3 (ysum_3 j_3)) (va_up ywideSize_3 j_3 (ywideSize_3 j_3)) (va_up ysumSize_3 j_3 (ysumSize_3 j_3)) (va_up yflickers_3 j_3 (yflickers_3 j_3)) (va_up yready_3 j_3 (yready_3 j_3)) Wa_at Wa_turns Wa_changes) H := by simp only [up_self]; exact hP
    refine ro_i (va_runV (As := [.int x2, .int x3]) (rest := []) ⟨hx, hb, hml, hown, hts⟩ (c_X4_ofSum l (k := j_3) (hj_3) hw) (kRX9_218 (h := 1) hts (Nat.le_trans (Nat.le_of_ble_eq_true rfl) hRf) (Nat.le_trans (Nat.le_of_ble_eq_true rfl) hRl)) (preX4 (k := j_3) (hj_3) hK hN hP2) rfl rfl hl.1 rfl (lv_room (Nat.le_of_ble_eq_true rfl)) dX9_product_22 ⟨Nat.zero_le _, Nat.zero_le _⟩) (fun r_4 hw => ?_)
    exact rw_i hx hb hr hlocks (fun t ht => ⟨yseen_3, yall_3, yasked_3, yones_3, ysum_3, ywideSize_3, ysumSize_3, yflickers_3, yready_3, hw, by rw [ht]; exact hP⟩) hS dX9_product_25
  · have hw := hw.2 c_2
    refine lv_iload hx hb dX9_product_12 (lv_at hl 0 rfl) ?_
    exact rw_i hx hb hr hlocks (fun t ht => ⟨Cu_seen, Cu_all, Lo_asked, Lo_ones, Lo_sum, Lo_wideSize, Lo_sumSize, Lo_flickers, Lo_ready, hw, by rw [ht]; exact hP⟩) hS dX9_product_14
abbrev Z_X10_product (D : va_G) (q : Nat → Nat) (cA : Nat → ClassId) (i_pageLength : Int32) (a_page : Nat → Int32) (i_states : Int32) (i_columns : Int32) (a_entries : Nat → Int32) (i_signals : Int32) (a_signalAt : Nat → Int32) (i_walksAt : Int32) (i_turned : Int32) (i_changed : Int32) (i_read : Int32) (i_newRows : Int32) (i_newEntries : Int32) (i_newColumns : Int32) (i_greatest : Int32) (a_newAt : Nat → Int32) (i_partings : Int32) (a_lowSet : Nat → Int32) (a_highSet : Nat → Int32) (i_leastMany : Int32) (a_leastAt : Nat → Int32) (a_tried : Nat → Int32) (a_keptLow : Nat → Int64) (a_keptHigh : Nat → Int64) (j_h : Int64) (post : Int32 → Int32 → (Nat → Int32) → Int32 → (Nat → Int32) → (Nat → Int32) → Int32 → Int32 → (Nat → Int32) → Prop) : Int32 → State → Prop := fun r t => ∃ (y_i_laid : Int32) (y_a_wants : Nat → Int32) (y_i_wide : Int32) (y_a_wideAsked : Nat → Int32) (y_a_wideOnes : Nat → Int32) (y_i_sum : Int32) (y_i_flickers : Int32) (y_a_sumAt : Nat → Int32), post r y_i_laid y_a_wants y_i_wide y_a_wideAsked y_a_wideOnes y_i_sum y_i_flickers y_a_sumAt ∧ va_P D vwCl (wM q cA i_pageLength a_page i_states i_columns a_entries i_signals a_signalAt i_walksAt i_turned i_changed i_read i_newRows i_newEntries i_newColumns i_greatest a_newAt i_partings a_lowSet a_highSet i_leastMany a_leastAt a_tried a_keptLow a_keptHigh y_i_laid y_a_wants y_i_wide y_a_wideAsked y_a_wideOnes y_i_sum y_i_flickers y_a_sumAt j_h) t.heap
set_option maxHeartbeats 4000000 in
set_option maxRecDepth 100000 in
theorem c_X10_product (l : Launch) {D : va_G} {q : Nat → Nat} {cA : Nat → ClassId} {i_pageLength : Int32} {a_page : Nat → Int32} {i_states : Int32} {i_columns : Int32} {a_entries : Nat → Int32} {i_signals : Int32} {a_signalAt : Nat → Int32} {i_walksAt : Int32} {i_turned : Int32} {i_changed : Int32} {i_read : Int32} {i_newRows : Int32} {i_newEntries : Int32} {i_newColumns : Int32} {i_greatest : Int32} {a_newAt : Nat → Int32} {i_partings : Int32} {a_lowSet : Nat → Int32} {a_highSet : Nat → Int32} {i_leastMany : Int32} {a_leastAt : Nat → Int32} {a_tried : Nat → Int32} {a_keptLow : Nat → Int64} {a_keptHigh : Nat → Int64} {i_laid : Int32} {a_wants : Nat → Int32} {i_wide : Int32} {a_wideAsked : Nat → Int32} {a_wideOnes : Nat → Int32} {i_sum : Int32} {i_flickers : Int32} {a_sumAt : Nat → Int32} {j_h : Int64} {A : Nat → Prop} {post : Int32 → Int32 → (Nat → Int32) → Int32 → (Nat → Int32) → (Nat → Int32) → Int32 → Int32 → (Nat → Int32) → Prop} {x1 : Int32} {x2 : Int32} {x3 : Int32} (hw : wp_X10_product post i_states i_columns a_entries i_signals a_signalAt i_partings a_lowSet a_highSet i_laid a_wants i_wide a_wideAsked a_wideOnes i_sum i_flickers a_sumAt x1 x2 x3) : Met l yX10_product (Cond.code yX10_product cX10_product 4 (some .int) :: wsL_law) (rmH 5) (va_Pc [.ref (q 0), .int x1, .int x2, .int x3] (fun U => va_P D vwCl (wM q cA i_pageLength a_page i_states i_columns a_entries i_signals a_signalAt i_walksAt i_turned i_changed i_read i_newRows i_newEntries i_newColumns i_greatest a_newAt i_partings a_lowSet a_highSet i_leastMany a_leastAt a_tried a_keptLow a_keptHigh i_laid a_wants i_wide a_wideAsked a_wideOnes i_sum i_flickers a_sumAt j_h) U.heap ∧ va_K D vwCl (tyM cA) U ∧ va_D A (wM q cA i_pageLength a_page i_states i_columns a_entries i_signals a_signalAt i_walksAt i_turned i_changed i_read i_newRows i_newEntries i_newColumns i_greatest a_newAt i_partings a_lowSet a_highSet i_leastMany a_leastAt a_tried a_keptLow a_keptHigh i_laid a_wants i_wide a_wideAsked a_wideOnes i_sum i_flickers a_sumAt j_h))) (qWi (Z_X10_product D q cA i_pageLength a_page i_states i_columns a_entries i_signals a_signalAt i_walksAt i_turned i_changed i_read i_newRows i_newEntries i_newColumns i_greatest a_newAt i_partings a_lowSet a_highSet i_leastMany a_leastAt a_tried a_keptLow a_keptHigh j_h post) A) 0 0 A := by
  refine Met.ofW (cc := cX10_product) (maxL := 4) (ret := (some .int)) (by decide) rfl ?_
  intro p e s m args below meth c s₁ B hml hv
  obtain ⟨rfl, hP, hK, hD⟩ := hv
  have X : kC p (headSpec (Cond.code yX10_product cX10_product 4 (some .int) :: wsL_law) (rmH 5)).room s m _ meth c cX10_product RX10 4 (some .int) 5 := ⟨B.exec, B.bytes, hml, findClass_of_methodNamed B.named, fun w h => atoms_spec (ws := Cond.code yX10_product cX10_product 4 (some .int) :: wsL_law) B.pre w (List.mem_cons_of_mem _ h), B.returns, B.notSynchronized, Nat.le_refl _, Nat.le_refl _⟩
  obtain ⟨hx, hb, hml, hown, hts, hr, hlocks, hRf, hRl⟩ := id X
  have hS : va_S A s.heap s.heap [] := va_S.rf
  have hl := lv_entry ([.ref (q 0), .int x1, .int x2, .int x3]) (n := 4) (Nat.le_of_ble_eq_true rfl)
  rw [lg_entry_eq]
  generalize (lg_sl ([.ref (q 0), .int x1, .int x2, .int x3]) ++ List.replicate (4 - (lg_sl ([.ref (q 0), .int x1, .int x2, .int x3])).length) Slot.unset).toArray = ls at hl ⊢
  have hl : lv_has ls 4 [(0, .ref (q 0)), (1, .int x1), (2, .int x2), (3, .int x3)] := hl
  refine lv_aload_n hx hb dX10_product_0 rfl (lv_at hl 0 rfl) ?_
  refine ro_i (va_runV (As := []) (rest := []) ⟨hx, hb, hml, hown, hts⟩ (c_X10_isGood l hw) (kRX10_208 (h := 3) hts (Nat.le_trans (Nat.le_of_ble_eq_true rfl) hRf) (Nat.le_trans (Nat.le_of_ble_eq_true rfl) hRl)) (preM hK hP) rfl rfl hl.1 rfl (lv_room (Nat.le_of_ble_eq_true rfl)) dX10_product_1 ⟨Nat.zero_le _, Nat.zero_le _⟩) (fun r_1 hw => ?_)
  refine lv_if_ne (tgt := 11) hx hb dX10_product_4 (by decide) (fun c_2 => ?_) (fun c_2 => ?_)
  · have hw := hw.2 c_2
    refine lv_iload_n hx hb dX10_product_11 rfl (lv_at hl 1 rfl) ?_
    refine lv_iconst (v := (0 : Int32)) hx hb dX10_product_12 (by decide) ?_
    refine lv_aload_n hx hb dX10_product_13 rfl (lv_at hl 0 rfl) ?_
    refine gRX10_99 hx hb hown hts hK hP dX10_product_14 ?_
    refine lv_iconst (v := (1 : Int32)) hx hb dX10_product_17 (by decide) ?_
    refine lv_isub hx hb dX10_product_18 ?_
    refine ro_i (va_runS (As := [.int x1, .int (0 : Int32), .int (i_signals - (1 : Int32))]) (rest := []) ⟨hx, hb, hml, hown, hts⟩ (c_X10_within l hw) (kRX10_60 (h := 0) hts (Nat.le_trans (Nat.le_of_ble_eq_true rfl) hRf) (Nat.le_trans (Nat.le_of_ble_eq_true rfl) hRl)) pre_0 rfl rfl hl.1 rfl (lv_room (Nat.le_of_ble_eq_true rfl)) dX10_product_19 ⟨Nat.zero_le _, Nat.zero_le _⟩) (fun r_3 hw => ?_)
    refine lv_if_ne (tgt := 29) hx hb dX10_product_22 (by decide) (fun c_4 => ?_) (fun c_4 => ?_)
    · have hw := hw.2 c_4
      refine lv_aload_n hx hb dX10_product_29 rfl (lv_at hl 0 rfl) ?_
      refine lv_iload_n hx hb dX10_product_30 rfl (lv_at hl 1 rfl) ?_
      refine wr_v (va_runV (As := [.int x1]) (rest := []) ⟨hx, hb, hml, hown, hts⟩ (c_X10_laySignal l hw) (kRX10_251 (h := 4) hts (Nat.le_trans (Nat.le_of_ble_eq_true rfl) hRf) (Nat.le_trans (Nat.le_of_ble_eq_true rfl) hRl)) (preMw hK hP hD) rfl rfl hl.1 rfl (lv_room (Nat.le_of_ble_eq_true rfl)) dX10_product_31 ⟨Nat.zero_le _, Nat.zero_le _⟩) hS (fun t H locs ht hw hS => ?_)
      obtain ⟨ylaid_5, ywants_5, ywide_5, ywideAsked_5, ywideOnes_5, ysum_5, yflickers_5, ysumAt_5, hw, hP⟩ := hw
      rw [ht] at hP
      have hP : va_P D vwCl (wM q cA i_pageLength a_page i_states i_columns a_entries i_signals a_signalAt i_walksAt i_turned i_changed i_read i_newRows i_newEntries i_newColumns i_greatest a_newAt i_partings a_lowSet a_highSet i_leastMany a_leastAt a_tried a_keptLow a_keptHigh ylaid_5 ywants_5 ywide_5 ywideAsked_5 ywideOnes_5 ysum_5 yflickers_5 ysumAt_5 j_h) H := hP
      have hD : va_D A (wM q cA i_pageLength a_page i_states i_columns a_entries i_signals a_signalAt i_walksAt i_turned i_changed i_read i_newRows i_newEntries i_newColumns i_greatest a_newAt i_partings a_lowSet a_highSet i_leastMany a_leastAt a_tried a_keptLow a_keptHigh ylaid_5 ywants_5 ywide_5 ywideAsked_5 ywideOnes_5 ysum_5 yflickers_5 ysumAt_5 j_h) := dM hD
      refine lv_iload_n hx hb dX10_product_34 rfl (lv_at hl 2 rfl) ?_
      refine lv_iconst (v := (0 : Int32)) hx hb dX10_product_35 (by decide) ?_
      refine lv_aload_n hx hb dX10_product_36 rfl (lv_at hl 0 rfl) ?_
      refine gRX10_232 hx hb hown hts hK hP dX10_product_37 ?_
      refine lv_iconst (v := (1 : Int32)) hx hb dX10_product_40 (by decide) ?_
      refine lv_isub hx hb dX10_product_41 ?_
      refine ro_i (va_runS (As := [.int x2, .int (0 : Int32), .int (ysum_5 - (1 : Int32))]) (rest := []) ⟨hx, hb, hml, hown, hts⟩ (c_X10_within l hw) (kRX10_60 (h := 0) hts (Nat.le_trans (Nat.le_of_ble_eq_true rfl) hRf) (Nat.le_trans (Nat.le_of_ble_eq_true rfl) hRl)) pre_0 rfl rfl hl.1 rfl (lv_room (Nat.le_of_ble_eq_true rfl)) dX10_product_42 ⟨Nat.zero_le _, Nat.zero_le _⟩) (fun r_6 hw => ?_)
      refine lv_if_ne (tgt := 52) hx hb dX10_product_45 (by decide) (fun c_7 => ?_) (fun c_7 => ?_)
      · have hw := hw.2 c_7
        refine lv_iload_n hx hb dX10_product_52 rfl (lv_at hl 3 rfl) ?_
        refine lv_if_ne (tgt := 70) hx hb dX10_product_53 (by decide) (fun c_8 => ?_) (fun c_8 => ?_)
        · have hw := hw.2 c_8
          refine lv_iload_n hx hb dX10_product_70 rfl (lv_at hl 3 rfl) ?_
          refine lv_iconst (v := (1 : Int32)) hx hb dX10_product_71 (by decide) ?_
          refine lv_icmp_ne (tgt := 89) hx hb dX10_product_72 (by decide) (fun c_9 => ?_) (fun c_9 => ?_)
          · have hw := hw.2 c_9
            refine lv_sipush (v := ((-1002) : Int32)) hx hb dX10_product_89 (by decide +kernel) ?_
            exact rw_i hx hb hr hlocks (fun t ht => ⟨ylaid_5, ywants_5, ywide_5, ywideAsked_5, ywideOnes_5, ysum_5, yflickers_5, ysumAt_5, hw, by rw [ht]; exact hP⟩) hS dX10_product_92
          · have hw := hw.1 c_9
            refine lv_aload_n hx hb dX10_product_75 rfl (lv_at hl 0 rfl) ?_
            refine gRX10_54 hx hb hown hts hK hP dX10_product_76 ?_
            refine lv_aload_n hx hb dX10_product_79 rfl (lv_at hl 0 rfl) ?_
            refine gRX10_57 hx hb hown hts hK hP dX10_product_80 ?_
            refine lv_iload_n hx hb dX10_product_83 rfl (lv_at hl 2 rfl) ?_
            have h_10 := hw.1
            have hw := hw.2
            refine ld_a_sumAt hx hb hK hP h_10 dX10_product_84 ?_
            have h_11 := hw.1
            have hw := hw.2
            refine ld_a_wideOnes hx hb hK hP h_11 dX10_product_85 ?_
            refine lv_goto (tgt := 92) hx hb dX10_product_86 (by decide) ?_
            exact rw_i hx hb hr hlocks (fun t ht => ⟨ylaid_5, ywants_5, ywide_5, ywideAsked_5, ywideOnes_5, ysum_5, yflickers_5, ysumAt_5, hw, by rw [ht]; exact hP⟩) hS dX10_product_92
        · have hw := hw.1 c_8
          refine lv_aload_n hx hb dX10_product_56 rfl (lv_at hl 0 rfl) ?_
          refine gRX10_51 hx hb hown hts hK hP dX10_product_57 ?_
          refine lv_aload_n hx hb dX10_product_60 rfl (lv_at hl 0 rfl) ?_
          refine gRX10_57 hx hb hown hts hK hP dX10_product_61 ?_
          refine lv_iload_n hx hb dX10_product_64 rfl (lv_at hl 2 rfl) ?_
          have h_12 := hw.1
          have hw := hw.2
          refine ld_a_sumAt hx hb hK hP h_12 dX10_product_65 ?_
          have h_13 := hw.1
          have hw := hw.2
          refine ld_a_wideAsked hx hb hK hP h_13 dX10_product_66 ?_
          refine lv_goto (tgt := 92) hx hb dX10_product_67 (by decide) ?_
          exact rw_i hx hb hr hlocks (fun t ht => ⟨ylaid_5, ywants_5, ywide_5, ywideAsked_5, ywideOnes_5, ysum_5, yflickers_5, ysumAt_5, hw, by rw [ht]; exact hP⟩) hS dX10_product_92
      · have hw := hw.1 c_7
        refine lv_sipush (v := ((-1001) : Int32)) hx hb dX10_product_48 (by decide +kernel) ?_
        exact rw_i hx hb hr hlocks (fun t ht => ⟨ylaid_5, ywants_5, ywide_5, ywideAsked_5, ywideOnes_5, ysum_5, yflickers_5, ysumAt_5, hw, by rw [ht]; exact hP⟩) hS dX10_product_51
    · have hw := hw.1 c_4
      refine lv_sipush (v := ((-1001) : Int32)) hx hb dX10_product_25 (by decide +kernel) ?_
      exact rw_i hx hb hr hlocks (fun t ht => ⟨i_laid, a_wants, i_wide, a_wideAsked, a_wideOnes, i_sum, i_flickers, a_sumAt, hw, by rw [ht]; exact hP⟩) hS dX10_product_28
  · have hw := hw.1 c_2
    refine lv_sipush (v := ((-1003) : Int32)) hx hb dX10_product_7 (by decide +kernel) ?_
    exact rw_i hx hb hr hlocks (fun t ht => ⟨i_laid, a_wants, i_wide, a_wideAsked, a_wideOnes, i_sum, i_flickers, a_sumAt, hw, by rw [ht]; exact hP⟩) hS dX10_product_10
abbrev Z_X9_wide (D : va_G) (q : Nat → Nat) (cA : Nat → ClassId) (Fc_unkept : Int32) (Fc_tablesRead : Int32) (Pg_letters : Nat → Int32) (Pg_size : Int32) (Pg_fault : Int32) (Pg_rows : Int32) (Pg_inRow : Int32) (Pg_width : Int32) (Fl_entries : Nat → Int32) (Fl_states : Int32) (Fl_columns : Int32) (Fl_moves : Int32) (Fl_stables : Int32) (Fl_amiss : Int32) (Fl_normal : Int32) (Pt_lessers : Nat → Int32) (Pt_greaters : Nat → Int32) (Pt_size : Int32) (Lc_signals : Nat → Int32) (Lc_kept : Nat → Int64) (Lc_keptFrom : Nat → Int64) (Lc_candidates : Int32) (Lc_size : Int32) (Sc_signals : Nat → Int32) (Sc_codes : Nat → Int32) (Sc_size : Int32) (Ai_codes : Nat → Int32) (Ai_bits : Int32) (Cu_inThrees : Nat → Int32) (Wa_at : Int32) (Wa_turns : Int32) (Wa_changes : Int32) (post : Int32 → (Nat → Int32) → Int32 → (Nat → Nat → Int32) → (Nat → Nat → Int32) → (Nat → Nat → Int32) → (Nat → Int32) → (Nat → Int32) → (Nat → Int32) → (Nat → Int32) → Prop) : Int32 → State → Prop := fun r t => ∃ (y_Cu_seen : Nat → Int32) (y_Cu_all : Int32) (y_Lo_asked : Nat → Nat → Int32) (y_Lo_ones : Nat → Nat → Int32) (y_Lo_sum : Nat → Nat → Int32) (y_Lo_wideSize : Nat → Int32) (y_Lo_sumSize : Nat → Int32) (y_Lo_flickers : Nat → Int32) (y_Lo_ready : Nat → Int32), post r y_Cu_seen y_Cu_all y_Lo_asked y_Lo_ones y_Lo_sum y_Lo_wideSize y_Lo_sumSize y_Lo_flickers y_Lo_ready ∧ va_P D vwCl (wC q cA Fc_unkept Fc_tablesRead Pg_letters Pg_size Pg_fault Pg_rows Pg_inRow Pg_width Fl_entries Fl_states Fl_columns Fl_moves Fl_stables Fl_amiss Fl_normal Pt_lessers Pt_greaters Pt_size Lc_signals Lc_kept Lc_keptFrom Lc_candidates Lc_size Sc_signals Sc_codes Sc_size Ai_codes Ai_bits y_Cu_seen Cu_inThrees y_Cu_all y_Lo_asked y_Lo_ones y_Lo_sum y_Lo_wideSize y_Lo_sumSize y_Lo_flickers y_Lo_ready Wa_at Wa_turns Wa_changes) t.heap
set_option maxHeartbeats 4000000 in
set_option maxRecDepth 100000 in
theorem c_X9_wide (l : Launch) {D : va_G} {q : Nat → Nat} {cA : Nat → ClassId} {Fc_unkept : Int32} {Fc_tablesRead : Int32} {Pg_letters : Nat → Int32} {Pg_size : Int32} {Pg_fault : Int32} {Pg_rows : Int32} {Pg_inRow : Int32} {Pg_width : Int32} {Fl_entries : Nat → Int32} {Fl_states : Int32} {Fl_columns : Int32} {Fl_moves : Int32} {Fl_stables : Int32} {Fl_amiss : Int32} {Fl_normal : Int32} {Pt_lessers : Nat → Int32} {Pt_greaters : Nat → Int32} {Pt_size : Int32} {Lc_signals : Nat → Int32} {Lc_kept : Nat → Int64} {Lc_keptFrom : Nat → Int64} {Lc_candidates : Int32} {Lc_size : Int32} {Sc_signals : Nat → Int32} {Sc_codes : Nat → Int32} {Sc_size : Int32} {Ai_codes : Nat → Int32} {Ai_bits : Int32} {Cu_seen : Nat → Int32} {Cu_inThrees : Nat → Int32} {Cu_all : Int32} {Lo_asked : Nat → Nat → Int32} {Lo_ones : Nat → Nat → Int32} {Lo_sum : Nat → Nat → Int32} {Lo_wideSize : Nat → Int32} {Lo_sumSize : Nat → Int32} {Lo_flickers : Nat → Int32} {Lo_ready : Nat → Int32} {Wa_at : Int32} {Wa_turns : Int32} {Wa_changes : Int32} {A : Nat → Prop} {post : Int32 → (Nat → Int32) → Int32 → (Nat → Nat → Int32) → (Nat → Nat → Int32) → (Nat → Nat → Int32) → (Nat → Int32) → (Nat → Int32) → (Nat → Int32) → (Nat → Int32) → Prop} {x1 : Int32} {x2 : Int32} {x3 : Int32} (hw : wp_X9_wide post Fc_unkept Fl_normal Sc_size Ai_codes Ai_bits Cu_seen Cu_inThrees Cu_all Lo_asked Lo_ones Lo_sum Lo_wideSize Lo_sumSize Lo_flickers Lo_ready x1 x2 x3) : Met l yX9_wide (Cond.code yX9_wide cX9_wide 5 (some .int) :: wsL_law) (rmH 4) (va_Pc [.ref (q 0), .int x1, .int x2, .int x3] (fun U => va_P D vwCl (wC q cA Fc_unkept Fc_tablesRead Pg_letters Pg_size Pg_fault Pg_rows Pg_inRow Pg_width Fl_entries Fl_states Fl_columns Fl_moves Fl_stables Fl_amiss Fl_normal Pt_lessers Pt_greaters Pt_size Lc_signals Lc_kept Lc_keptFrom Lc_candidates Lc_size Sc_signals Sc_codes Sc_size Ai_codes Ai_bits Cu_seen Cu_inThrees Cu_all Lo_asked Lo_ones Lo_sum Lo_wideSize Lo_sumSize Lo_flickers Lo_ready Wa_at Wa_turns Wa_changes) U.heap ∧ va_K D vwCl (tyC cA) U ∧ nwC U ∧ va_D A (wC q cA Fc_unkept Fc_tablesRead Pg_letters Pg_size Pg_fault Pg_rows Pg_inRow Pg_width Fl_entries Fl_states Fl_columns Fl_moves Fl_stables Fl_amiss Fl_normal Pt_lessers Pt_greaters Pt_size Lc_signals Lc_kept Lc_keptFrom Lc_candidates Lc_size Sc_signals Sc_codes Sc_size Ai_codes Ai_bits Cu_seen Cu_inThrees Cu_all Lo_asked Lo_ones Lo_sum Lo_wideSize Lo_sumSize Lo_flickers Lo_ready Wa_at Wa_turns Wa_changes))) (qWi (Z_X9_wide D q cA Fc_unkept Fc_tablesRead Pg_letters Pg_size Pg_fault Pg_rows Pg_inRow Pg_width Fl_entries Fl_states Fl_columns Fl_moves Fl_stables Fl_amiss Fl_normal Pt_lessers Pt_greaters Pt_size Lc_signals Lc_kept Lc_keptFrom Lc_candidates Lc_size Sc_signals Sc_codes Sc_size Ai_codes Ai_bits Cu_inThrees Wa_at Wa_turns Wa_changes post) A) 0 0 A := by
  refine Met.ofW (cc := cX9_wide) (maxL := 5) (ret := (some .int)) (by decide) rfl ?_
  intro p e s m args below meth c s₁ B hml hv
  obtain ⟨rfl, hP, hK, hN, hD⟩ := hv
  have X : kC p (headSpec (Cond.code yX9_wide cX9_wide 5 (some .int) :: wsL_law) (rmH 4)).room s m _ meth c cX9_wide RX9 5 (some .int) 4 := ⟨B.exec, B.bytes, hml, findClass_of_methodNamed B.named, fun w h => atoms_spec (ws := Cond.code yX9_wide cX9_wide 5 (some .int) :: wsL_law) B.pre w (List.mem_cons_of_mem _ h), B.returns, B.notSynchronized, Nat.le_refl _, Nat.le_refl _⟩
  obtain ⟨hx, hb, hml, hown, hts, hr, hlocks, hRf, hRl⟩ := id X
  have hS : va_S A s.heap s.heap [] := va_S.rf
  have hl := lv_entry ([.ref (q 0), .int x1, .int x2, .int x3]) (n := 5) (Nat.le_of_ble_eq_true rfl)
  rw [lg_entry_eq]
  generalize (lg_sl ([.ref (q 0), .int x1, .int x2, .int x3]) ++ List.replicate (5 - (lg_sl ([.ref (q 0), .int x1, .int x2, .int x3])).length) Slot.unset).toArray = ls at hl ⊢
  have hl : lv_has ls 5 [(0, .ref (q 0)), (1, .int x1), (2, .int x2), (3, .int x3)] := hl
  refine lv_aload_n hx hb dX9_wide_0 rfl (lv_at hl 0 rfl) ?_
  refine lv_iload_n hx hb dX9_wide_1 rfl (lv_at hl 1 rfl) ?_
  refine ro_i (va_runV (As := [.int x1]) (rest := []) ⟨hx, hb, hml, hown, hts⟩ (c_X9_refusalOf l hw) (kRX9_190 (h := 1) hts (Nat.le_trans (Nat.le_of_ble_eq_true rfl) hRf) (Nat.le_trans (Nat.le_of_ble_eq_true rfl) hRl)) (preX9 hK hN hP) rfl rfl hl.1 rfl (lv_room (Nat.le_of_ble_eq_true rfl)) dX9_wide_2 ⟨Nat.zero_le _, Nat.zero_le _⟩) (fun r_1 hw => ?_)
  refine lv_istore (lv' := [(4, .int r_1), (0, .ref (q 0)), (1, .int x1), (2, .int x2), (3, .int x3)]) hx hb dX9_wide_5 hl (by decide) rfl (fun ls hl => ?_)
  refine lv_iload hx hb dX9_wide_7 (lv_at hl 0 rfl) ?_
  refine lv_if_eq (tgt := 15) hx hb dX9_wide_9 (by decide) (fun c_2 => ?_) (fun c_2 => ?_)
  · have hw := hw.1 c_2
    refine lv_aload_n hx hb dX9_wide_15 rfl (lv_at hl 1 rfl) ?_
    refine lv_iload_n hx hb dX9_wide_16 rfl (lv_at hl 2 rfl) ?_
    refine wr_r (va_runV (As := [.int x1]) (rest := []) ⟨hx, hb, hml, hown, hts⟩ (c_X9_workedOut l hw) (kRX9_199 (h := 3) hts (Nat.le_trans (Nat.le_of_ble_eq_true rfl) hRf) (Nat.le_trans (Nat.le_of_ble_eq_true rfl) hRl)) (preX9w hK hN hP hD) rfl rfl hl.1 rfl (lv_room (Nat.le_of_ble_eq_true rfl)) dX9_wide_17 ⟨Nat.zero_le _, Nat.zero_le _⟩) hS (fun rr t H locs ht hw hS => ?_)
    obtain ⟨j_3, yseen_3, yall_3, yasked_3, yones_3, ysum_3, ywideSize_3, ysumSize_3, yflickers_3, yready_3, rfl, hj_3, hw, hP⟩ := hw
    rw [ht] at hP
    have hP : va_P D vwCl (wC q cA Fc_unkept Fc_tablesRead Pg_letters Pg_size Pg_fault Pg_rows Pg_inRow Pg_width Fl_entries Fl_states Fl_columns Fl_moves Fl_stables Fl_amiss Fl_normal Pt_lessers Pt_greaters Pt_size Lc_signals Lc_kept Lc_keptFrom Lc_candidates Lc_size Sc_signals Sc_codes Sc_size Ai_codes Ai_bits yseen_3 Cu_inThrees yall_3 yasked_3 yones_3 ysum_3 ywideSize_3 ysumSize_3 yflickers_3 yready_3 Wa_at Wa_turns Wa_changes) H := hP
    have hD : va_D A (wC q cA Fc_unkept Fc_tablesRead Pg_letters Pg_size Pg_fault Pg_rows Pg_inRow Pg_width Fl_entries Fl_states Fl_columns Fl_moves Fl_stables Fl_amiss Fl_normal Pt_lessers Pt_greaters Pt_size Lc_signals Lc_kept Lc_keptFrom Lc_candidates Lc_size Sc_signals Sc_codes Sc_size Ai_codes Ai_bits yseen_3 Cu_inThrees yall_3 yasked_3 yones_3 ysum_3 ywideSize_3 ysumSize_3 yflickers_3 yready_3 Wa_at Wa_turns Wa_changes) := dC hD
    refine lv_iload_n hx hb dX9_wide_20 rfl (lv_at hl 3 rfl) ?_
    refine lv_iload_n hx hb dX9_wide_21 rfl (lv_at hl 4 rfl) ?_
    have hP2 : va_P D vwCl (wC q cA Fc_unkept Fc_tablesRead Pg_letters Pg_size Pg_fault Pg_rows Pg_inRow Pg_width Fl_entries Fl_states Fl_columns Fl_moves Fl_stables Fl_amiss Fl_normal Pt_lessers Pt_greaters Pt_size Lc_signals Lc_kept Lc_keptFrom Lc_candidates Lc_size Sc_signals Sc_codes Sc_size Ai_codes Ai_bits yseen_3 Cu_inThrees yall_3 (va_up yasked_3 j_3 (yasked_3 j_3)) (va_up yones_3 j_3 (yones_3 j_3)) (va_up ysum_3 j_3 (ysum_3 j_3)) (va_up ywideSize_3 j_3 (ywideSize_3 j_3)) (va_up ysumSize_3 j_3 (ysumSize_3 j_3)) (va_up yflickers_3 j_3 (yflickers_3 j_3)) (va_up yready_3 j_3 (yready_3 j_3)) Wa_at Wa_turns Wa_changes) H := by simp only [up_self]; exact hP
    refine ro_i (va_runV (As := [.int x2, .int x3]) (rest := []) ⟨hx, hb, hml, hown, hts⟩ (c_X4_ofWide l (k := j_3) (hj_3) hw) (kRX9_221 (h := 0) hts (Nat.le_trans (Nat.le_of_ble_eq_true rfl) hRf) (Nat.le_trans (Nat.le_of_ble_eq_true rfl) hRl)) (preX4 (k := j_3) (hj_3) hK hN hP2) rfl rfl hl.1 rfl (lv_room (Nat.le_of_ble_eq_true rfl)) dX9_wide_22 ⟨Nat.zero_le _, Nat.zero_le _⟩) (fun r_4 hw => ?_)
    exact rw_i hx hb hr hlocks (fun t ht => ⟨yseen_3, yall_3, yasked_3, yones_3, ysum_3, ywideSize_3, ysumSize_3, yflickers_3, yready_3, hw, by rw [ht]; exact hP⟩) hS dX9_wide_25
  · have hw := hw.2 c_2
    refine lv_iload hx hb dX9_wide_12 (lv_at hl 0 rfl) ?_
    exact rw_i hx hb hr hlocks (fun t ht => ⟨Cu_seen, Cu_all, Lo_asked, Lo_ones, Lo_sum, Lo_wideSize, Lo_sumSize, Lo_flickers, Lo_ready, hw, by rw [ht]; exact hP⟩) hS dX9_wide_14
abbrev Z_X10_wide (D : va_G) (q : Nat → Nat) (cA : Nat → ClassId) (i_pageLength : Int32) (a_page : Nat → Int32) (i_states : Int32) (i_columns : Int32) (a_entries : Nat → Int32) (i_signals : Int32) (a_signalAt : Nat → Int32) (i_walksAt : Int32) (i_turned : Int32) (i_changed : Int32) (i_read : Int32) (i_newRows : Int32) (i_newEntries : Int32) (i_newColumns : Int32) (i_greatest : Int32) (a_newAt : Nat → Int32) (i_partings : Int32) (a_lowSet : Nat → Int32) (a_highSet : Nat → Int32) (i_leastMany : Int32) (a_leastAt : Nat → Int32) (a_tried : Nat → Int32) (a_keptLow : Nat → Int64) (a_keptHigh : Nat → Int64) (j_h : Int64) (post : Int32 → Int32 → (Nat → Int32) → Int32 → (Nat → Int32) → (Nat → Int32) → Int32 → Int32 → (Nat → Int32) → Prop) : Int32 → State → Prop := fun r t => ∃ (y_i_laid : Int32) (y_a_wants : Nat → Int32) (y_i_wide : Int32) (y_a_wideAsked : Nat → Int32) (y_a_wideOnes : Nat → Int32) (y_i_sum : Int32) (y_i_flickers : Int32) (y_a_sumAt : Nat → Int32), post r y_i_laid y_a_wants y_i_wide y_a_wideAsked y_a_wideOnes y_i_sum y_i_flickers y_a_sumAt ∧ va_P D vwCl (wM q cA i_pageLength a_page i_states i_columns a_entries i_signals a_signalAt i_walksAt i_turned i_changed i_read i_newRows i_newEntries i_newColumns i_greatest a_newAt i_partings a_lowSet a_highSet i_leastMany a_leastAt a_tried a_keptLow a_keptHigh y_i_laid y_a_wants y_i_wide y_a_wideAsked y_a_wideOnes y_i_sum y_i_flickers y_a_sumAt j_h) t.heap
set_option maxHeartbeats 4000000 in
set_option maxRecDepth 100000 in
theorem c_X10_wide (l : Launch) {D : va_G} {q : Nat → Nat} {cA : Nat → ClassId} {i_pageLength : Int32} {a_page : Nat → Int32} {i_states : Int32} {i_columns : Int32} {a_entries : Nat → Int32} {i_signals : Int32} {a_signalAt : Nat → Int32} {i_walksAt : Int32} {i_turned : Int32} {i_changed : Int32} {i_read : Int32} {i_newRows : Int32} {i_newEntries : Int32} {i_newColumns : Int32} {i_greatest : Int32} {a_newAt : Nat → Int32} {i_partings : Int32} {a_lowSet : Nat → Int32} {a_highSet : Nat → Int32} {i_leastMany : Int32} {a_leastAt : Nat → Int32} {a_tried : Nat → Int32} {a_keptLow : Nat → Int64} {a_keptHigh : Nat → Int64} {i_laid : Int32} {a_wants : Nat → Int32} {i_wide : Int32} {a_wideAsked : Nat → Int32} {a_wideOnes : Nat → Int32} {i_sum : Int32} {i_flickers : Int32} {a_sumAt : Nat → Int32} {j_h : Int64} {A : Nat → Prop} {post : Int32 → Int32 → (Nat → Int32) → Int32 → (Nat → Int32) → (Nat → Int32) → Int32 → Int32 → (Nat → Int32) → Prop} {x1 : Int32} {x2 : Int32} {x3 : Int32} (hw : wp_X10_wide post i_states i_columns a_entries i_signals a_signalAt i_partings a_lowSet a_highSet i_laid a_wants i_wide a_wideAsked a_wideOnes i_sum i_flickers a_sumAt x1 x2 x3) : Met l yX10_wide (Cond.code yX10_wide cX10_wide 4 (some .int) :: wsL_law) (rmH 5) (va_Pc [.ref (q 0), .int x1, .int x2, .int x3] (fun U => va_P D vwCl (wM q cA i_pageLength a_page i_states i_columns a_entries i_signals a_signalAt i_walksAt i_turned i_changed i_read i_newRows i_newEntries i_newColumns i_greatest a_newAt i_partings a_lowSet a_highSet i_leastMany a_leastAt a_tried a_keptLow a_keptHigh i_laid a_wants i_wide a_wideAsked a_wideOnes i_sum i_flickers a_sumAt j_h) U.heap ∧ va_K D vwCl (tyM cA) U ∧ va_D A (wM q cA i_pageLength a_page i_states i_columns a_entries i_signals a_signalAt i_walksAt i_turned i_changed i_read i_newRows i_newEntries i_newColumns i_greatest a_newAt i_partings a_lowSet a_highSet i_leastMany a_leastAt a_tried a_keptLow a_keptHigh i_laid a_wants i_wide a_wideAsked a_wideOnes i_sum i_flickers a_sumAt j_h))) (qWi (Z_X10_wide D q cA i_pageLength a_page i_states i_columns a_entries i_signals a_signalAt i_walksAt i_turned i_changed i_read i_newRows i_newEntries i_newColumns i_greatest a_newAt i_partings a_lowSet a_highSet i_leastMany a_leastAt a_tried a_keptLow a_keptHigh j_h post) A) 0 0 A := by
  refine Met.ofW (cc := cX10_wide) (maxL := 4) (ret := (some .int)) (by decide) rfl ?_
  intro p e s m args below meth c s₁ B hml hv
  obtain ⟨rfl, hP, hK, hD⟩ := hv
  have X : kC p (headSpec (Cond.code yX10_wide cX10_wide 4 (some .int) :: wsL_law) (rmH 5)).room s m _ meth c cX10_wide RX10 4 (some .int) 5 := ⟨B.exec, B.bytes, hml, findClass_of_methodNamed B.named, fun w h => atoms_spec (ws := Cond.code yX10_wide cX10_wide 4 (some .int) :: wsL_law) B.pre w (List.mem_cons_of_mem _ h), B.returns, B.notSynchronized, Nat.le_refl _, Nat.le_refl _⟩
  obtain ⟨hx, hb, hml, hown, hts, hr, hlocks, hRf, hRl⟩ := id X
  have hS : va_S A s.heap s.heap [] := va_S.rf
  have hl := lv_entry ([.ref (q 0), .int x1, .int x2, .int x3]) (n := 4) (Nat.le_of_ble_eq_true rfl)
  rw [lg_entry_eq]
  generalize (lg_sl ([.ref (q 0), .int x1, .int x2, .int x3]) ++ List.replicate (4 - (lg_sl ([.ref (q 0), .int x1, .int x2, .int x3])).length) Slot.unset).toArray = ls at hl ⊢
  have hl : lv_has ls 4 [(0, .ref (q 0)), (1, .int x1), (2, .int x2), (3, .int x3)] := hl
  refine lv_aload_n hx hb dX10_wide_0 rfl (lv_at hl 0 rfl) ?_
  refine ro_i (va_runV (As := []) (rest := []) ⟨hx, hb, hml, hown, hts⟩ (c_X10_isGood l hw) (kRX10_208 (h := 3) hts (Nat.le_trans (Nat.le_of_ble_eq_true rfl) hRf) (Nat.le_trans (Nat.le_of_ble_eq_true rfl) hRl)) (preM hK hP) rfl rfl hl.1 rfl (lv_room (Nat.le_of_ble_eq_true rfl)) dX10_wide_1 ⟨Nat.zero_le _, Nat.zero_le _⟩) (fun r_1 hw => ?_)
  refine lv_if_ne (tgt := 11) hx hb dX10_wide_4 (by decide) (fun c_2 => ?_) (fun c_2 => ?_)
  · have hw := hw.2 c_2
    refine lv_iload_n hx hb dX10_wide_11 rfl (lv_at hl 1 rfl) ?_
    refine lv_iconst (v := (0 : Int32)) hx hb dX10_wide_12 (by decide) ?_
    refine lv_aload_n hx hb dX10_wide_13 rfl (lv_at hl 0 rfl) ?_
    refine gRX10_99 hx hb hown hts hK hP dX10_wide_14 ?_
    refine lv_iconst (v := (1 : Int32)) hx hb dX10_wide_17 (by decide) ?_
    refine lv_isub hx hb dX10_wide_18 ?_
    refine ro_i (va_runS (As := [.int x1, .int (0 : Int32), .int (i_signals - (1 : Int32))]) (rest := []) ⟨hx, hb, hml, hown, hts⟩ (c_X10_within l hw) (kRX10_60 (h := 0) hts (Nat.le_trans (Nat.le_of_ble_eq_true rfl) hRf) (Nat.le_trans (Nat.le_of_ble_eq_true rfl) hRl)) pre_0 rfl rfl hl.1 rfl (lv_room (Nat.le_of_ble_eq_true rfl)) dX10_wide_19 ⟨Nat.zero_le _, Nat.zero_le _⟩) (fun r_3 hw => ?_)
    refine lv_if_ne (tgt := 29) hx hb dX10_wide_22 (by decide) (fun c_4 => ?_) (fun c_4 => ?_)
    · have hw := hw.2 c_4
      refine lv_aload_n hx hb dX10_wide_29 rfl (lv_at hl 0 rfl) ?_
      refine lv_iload_n hx hb dX10_wide_30 rfl (lv_at hl 1 rfl) ?_
      refine wr_v (va_runV (As := [.int x1]) (rest := []) ⟨hx, hb, hml, hown, hts⟩ (c_X10_laySignal l hw) (kRX10_251 (h := 4) hts (Nat.le_trans (Nat.le_of_ble_eq_true rfl) hRf) (Nat.le_trans (Nat.le_of_ble_eq_true rfl) hRl)) (preMw hK hP hD) rfl rfl hl.1 rfl (lv_room (Nat.le_of_ble_eq_true rfl)) dX10_wide_31 ⟨Nat.zero_le _, Nat.zero_le _⟩) hS (fun t H locs ht hw hS => ?_)
      obtain ⟨ylaid_5, ywants_5, ywide_5, ywideAsked_5, ywideOnes_5, ysum_5, yflickers_5, ysumAt_5, hw, hP⟩ := hw
      rw [ht] at hP
      have hP : va_P D vwCl (wM q cA i_pageLength a_page i_states i_columns a_entries i_signals a_signalAt i_walksAt i_turned i_changed i_read i_newRows i_newEntries i_newColumns i_greatest a_newAt i_partings a_lowSet a_highSet i_leastMany a_leastAt a_tried a_keptLow a_keptHigh ylaid_5 ywants_5 ywide_5 ywideAsked_5 ywideOnes_5 ysum_5 yflickers_5 ysumAt_5 j_h) H := hP
      have hD : va_D A (wM q cA i_pageLength a_page i_states i_columns a_entries i_signals a_signalAt i_walksAt i_turned i_changed i_read i_newRows i_newEntries i_newColumns i_greatest a_newAt i_partings a_lowSet a_highSet i_leastMany a_leastAt a_tried a_keptLow a_keptHigh ylaid_5 ywants_5 ywide_5 ywideAsked_5 ywideOnes_5 ysum_5 yflickers_5 ysumAt_5 j_h) := dM hD
      refine lv_iload_n hx hb dX10_wide_34 rfl (lv_at hl 2 rfl) ?_
      refine lv_iconst (v := (0 : Int32)) hx hb dX10_wide_35 (by decide) ?_
      refine lv_aload_n hx hb dX10_wide_36 rfl (lv_at hl 0 rfl) ?_
      refine gRX10_226 hx hb hown hts hK hP dX10_wide_37 ?_
      refine lv_iconst (v := (1 : Int32)) hx hb dX10_wide_40 (by decide) ?_
      refine lv_isub hx hb dX10_wide_41 ?_
      refine ro_i (va_runS (As := [.int x2, .int (0 : Int32), .int (ywide_5 - (1 : Int32))]) (rest := []) ⟨hx, hb, hml, hown, hts⟩ (c_X10_within l hw) (kRX10_60 (h := 0) hts (Nat.le_trans (Nat.le_of_ble_eq_true rfl) hRf) (Nat.le_trans (Nat.le_of_ble_eq_true rfl) hRl)) pre_0 rfl rfl hl.1 rfl (lv_room (Nat.le_of_ble_eq_true rfl)) dX10_wide_42 ⟨Nat.zero_le _, Nat.zero_le _⟩) (fun r_6 hw => ?_)
      refine lv_if_ne (tgt := 52) hx hb dX10_wide_45 (by decide) (fun c_7 => ?_) (fun c_7 => ?_)
      · have hw := hw.2 c_7
        refine lv_iload_n hx hb dX10_wide_52 rfl (lv_at hl 3 rfl) ?_
        refine lv_if_ne (tgt := 65) hx hb dX10_wide_53 (by decide) (fun c_8 => ?_) (fun c_8 => ?_)
        · have hw := hw.2 c_8
          refine lv_iload_n hx hb dX10_wide_65 rfl (lv_at hl 3 rfl) ?_
          refine lv_iconst (v := (1 : Int32)) hx hb dX10_wide_66 (by decide) ?_
          refine lv_icmp_ne (tgt := 79) hx hb dX10_wide_67 (by decide) (fun c_9 => ?_) (fun c_9 => ?_)
          · have hw := hw.2 c_9
            refine lv_sipush (v := ((-1002) : Int32)) hx hb dX10_wide_79 (by decide +kernel) ?_
            exact rw_i hx hb hr hlocks (fun t ht => ⟨ylaid_5, ywants_5, ywide_5, ywideAsked_5, ywideOnes_5, ysum_5, yflickers_5, ysumAt_5, hw, by rw [ht]; exact hP⟩) hS dX10_wide_82
          · have hw := hw.1 c_9
            refine lv_aload_n hx hb dX10_wide_70 rfl (lv_at hl 0 rfl) ?_
            refine gRX10_54 hx hb hown hts hK hP dX10_wide_71 ?_
            refine lv_iload_n hx hb dX10_wide_74 rfl (lv_at hl 2 rfl) ?_
            have h_10 := hw.1
            have hw := hw.2
            refine ld_a_wideOnes hx hb hK hP h_10 dX10_wide_75 ?_
            refine lv_goto (tgt := 82) hx hb dX10_wide_76 (by decide) ?_
            exact rw_i hx hb hr hlocks (fun t ht => ⟨ylaid_5, ywants_5, ywide_5, ywideAsked_5, ywideOnes_5, ysum_5, yflickers_5, ysumAt_5, hw, by rw [ht]; exact hP⟩) hS dX10_wide_82
        · have hw := hw.1 c_8
          refine lv_aload_n hx hb dX10_wide_56 rfl (lv_at hl 0 rfl) ?_
          refine gRX10_51 hx hb hown hts hK hP dX10_wide_57 ?_
          refine lv_iload_n hx hb dX10_wide_60 rfl (lv_at hl 2 rfl) ?_
          have h_11 := hw.1
          have hw := hw.2
          refine ld_a_wideAsked hx hb hK hP h_11 dX10_wide_61 ?_
          refine lv_goto (tgt := 82) hx hb dX10_wide_62 (by decide) ?_
          exact rw_i hx hb hr hlocks (fun t ht => ⟨ylaid_5, ywants_5, ywide_5, ywideAsked_5, ywideOnes_5, ysum_5, yflickers_5, ysumAt_5, hw, by rw [ht]; exact hP⟩) hS dX10_wide_82
      · have hw := hw.1 c_7
        refine lv_sipush (v := ((-1001) : Int32)) hx hb dX10_wide_48 (by decide +kernel) ?_
        exact rw_i hx hb hr hlocks (fun t ht => ⟨ylaid_5, ywants_5, ywide_5, ywideAsked_5, ywideOnes_5, ysum_5, yflickers_5, ysumAt_5, hw, by rw [ht]; exact hP⟩) hS dX10_wide_51
    · have hw := hw.1 c_4
      refine lv_sipush (v := ((-1001) : Int32)) hx hb dX10_wide_25 (by decide +kernel) ?_
      exact rw_i hx hb hr hlocks (fun t ht => ⟨i_laid, a_wants, i_wide, a_wideAsked, a_wideOnes, i_sum, i_flickers, a_sumAt, hw, by rw [ht]; exact hP⟩) hS dX10_wide_28
  · have hw := hw.1 c_2
    refine lv_sipush (v := ((-1003) : Int32)) hx hb dX10_wide_7 (by decide +kernel) ?_
    exact rw_i hx hb hr hlocks (fun t ht => ⟨i_laid, a_wants, i_wide, a_wideAsked, a_wideOnes, i_sum, i_flickers, a_sumAt, hw, by rw [ht]; exact hP⟩) hS dX10_wide_10
abbrev Z_X9_walk (D : va_G) (q : Nat → Nat) (cA : Nat → ClassId) (Fc_unkept : Int32) (Fc_tablesRead : Int32) (Pg_letters : Nat → Int32) (Pg_size : Int32) (Pg_fault : Int32) (Pg_rows : Int32) (Pg_inRow : Int32) (Pg_width : Int32) (Fl_entries : Nat → Int32) (Fl_states : Int32) (Fl_columns : Int32) (Fl_moves : Int32) (Fl_stables : Int32) (Fl_amiss : Int32) (Fl_normal : Int32) (Pt_lessers : Nat → Int32) (Pt_greaters : Nat → Int32) (Pt_size : Int32) (Lc_signals : Nat → Int32) (Lc_kept : Nat → Int64) (Lc_keptFrom : Nat → Int64) (Lc_candidates : Int32) (Lc_size : Int32) (Sc_signals : Nat → Int32) (Sc_codes : Nat → Int32) (Sc_size : Int32) (Ai_codes : Nat → Int32) (Ai_bits : Int32) (Cu_seen : Nat → Int32) (Cu_inThrees : Nat → Int32) (Cu_all : Int32) (Lo_asked : Nat → Nat → Int32) (Lo_ones : Nat → Nat → Int32) (Lo_sum : Nat → Nat → Int32) (Lo_wideSize : Nat → Int32) (Lo_sumSize : Nat → Int32) (Lo_flickers : Nat → Int32) (Lo_ready : Nat → Int32) (post : Int32 → Int32 → Int32 → Int32 → Prop) : Int32 → State → Prop := fun r t => ∃ (y_Wa_at : Int32) (y_Wa_turns : Int32) (y_Wa_changes : Int32), post r y_Wa_at y_Wa_turns y_Wa_changes ∧ va_P D vwCl (wC q cA Fc_unkept Fc_tablesRead Pg_letters Pg_size Pg_fault Pg_rows Pg_inRow Pg_width Fl_entries Fl_states Fl_columns Fl_moves Fl_stables Fl_amiss Fl_normal Pt_lessers Pt_greaters Pt_size Lc_signals Lc_kept Lc_keptFrom Lc_candidates Lc_size Sc_signals Sc_codes Sc_size Ai_codes Ai_bits Cu_seen Cu_inThrees Cu_all Lo_asked Lo_ones Lo_sum Lo_wideSize Lo_sumSize Lo_flickers Lo_ready y_Wa_at y_Wa_turns y_Wa_changes) t.heap
set_option maxHeartbeats 4000000 in
set_option maxRecDepth 100000 in
theorem c_X9_walk (l : Launch) {D : va_G} {q : Nat → Nat} {cA : Nat → ClassId} {Fc_unkept : Int32} {Fc_tablesRead : Int32} {Pg_letters : Nat → Int32} {Pg_size : Int32} {Pg_fault : Int32} {Pg_rows : Int32} {Pg_inRow : Int32} {Pg_width : Int32} {Fl_entries : Nat → Int32} {Fl_states : Int32} {Fl_columns : Int32} {Fl_moves : Int32} {Fl_stables : Int32} {Fl_amiss : Int32} {Fl_normal : Int32} {Pt_lessers : Nat → Int32} {Pt_greaters : Nat → Int32} {Pt_size : Int32} {Lc_signals : Nat → Int32} {Lc_kept : Nat → Int64} {Lc_keptFrom : Nat → Int64} {Lc_candidates : Int32} {Lc_size : Int32} {Sc_signals : Nat → Int32} {Sc_codes : Nat → Int32} {Sc_size : Int32} {Ai_codes : Nat → Int32} {Ai_bits : Int32} {Cu_seen : Nat → Int32} {Cu_inThrees : Nat → Int32} {Cu_all : Int32} {Lo_asked : Nat → Nat → Int32} {Lo_ones : Nat → Nat → Int32} {Lo_sum : Nat → Nat → Int32} {Lo_wideSize : Nat → Int32} {Lo_sumSize : Nat → Int32} {Lo_flickers : Nat → Int32} {Lo_ready : Nat → Int32} {Wa_at : Int32} {Wa_turns : Int32} {Wa_changes : Int32} {A : Nat → Prop} {post : Int32 → Int32 → Int32 → Int32 → Prop} {x1 : Int32} (hw : wp_X9_walk post Fl_states Wa_at Wa_turns Wa_changes x1) : Met l yX9_walk (Cond.code yX9_walk cX9_walk 3 (some .int) :: wsL_law) (rmH 1) (va_Pc [.ref (q 0), .int x1] (fun U => va_P D vwCl (wC q cA Fc_unkept Fc_tablesRead Pg_letters Pg_size Pg_fault Pg_rows Pg_inRow Pg_width Fl_entries Fl_states Fl_columns Fl_moves Fl_stables Fl_amiss Fl_normal Pt_lessers Pt_greaters Pt_size Lc_signals Lc_kept Lc_keptFrom Lc_candidates Lc_size Sc_signals Sc_codes Sc_size Ai_codes Ai_bits Cu_seen Cu_inThrees Cu_all Lo_asked Lo_ones Lo_sum Lo_wideSize Lo_sumSize Lo_flickers Lo_ready Wa_at Wa_turns Wa_changes) U.heap ∧ va_K D vwCl (tyC cA) U ∧ nwC U ∧ va_D A (wC q cA Fc_unkept Fc_tablesRead Pg_letters Pg_size Pg_fault Pg_rows Pg_inRow Pg_width Fl_entries Fl_states Fl_columns Fl_moves Fl_stables Fl_amiss Fl_normal Pt_lessers Pt_greaters Pt_size Lc_signals Lc_kept Lc_keptFrom Lc_candidates Lc_size Sc_signals Sc_codes Sc_size Ai_codes Ai_bits Cu_seen Cu_inThrees Cu_all Lo_asked Lo_ones Lo_sum Lo_wideSize Lo_sumSize Lo_flickers Lo_ready Wa_at Wa_turns Wa_changes))) (qWi (Z_X9_walk D q cA Fc_unkept Fc_tablesRead Pg_letters Pg_size Pg_fault Pg_rows Pg_inRow Pg_width Fl_entries Fl_states Fl_columns Fl_moves Fl_stables Fl_amiss Fl_normal Pt_lessers Pt_greaters Pt_size Lc_signals Lc_kept Lc_keptFrom Lc_candidates Lc_size Sc_signals Sc_codes Sc_size Ai_codes Ai_bits Cu_seen Cu_inThrees Cu_all Lo_asked Lo_ones Lo_sum Lo_wideSize Lo_sumSize Lo_flickers Lo_ready post) A) 0 0 A := by
  refine Met.ofW (cc := cX9_walk) (maxL := 3) (ret := (some .int)) (by decide) rfl ?_
  intro p e s m args below meth c s₁ B hml hv
  obtain ⟨rfl, hP, hK, hN, hD⟩ := hv
  have X : kC p (headSpec (Cond.code yX9_walk cX9_walk 3 (some .int) :: wsL_law) (rmH 1)).room s m _ meth c cX9_walk RX9 3 (some .int) 1 := ⟨B.exec, B.bytes, hml, findClass_of_methodNamed B.named, fun w h => atoms_spec (ws := Cond.code yX9_walk cX9_walk 3 (some .int) :: wsL_law) B.pre w (List.mem_cons_of_mem _ h), B.returns, B.notSynchronized, Nat.le_refl _, Nat.le_refl _⟩
  obtain ⟨hx, hb, hml, hown, hts, hr, hlocks, hRf, hRl⟩ := id X
  have hS : va_S A s.heap s.heap [] := va_S.rf
  have hl := lv_entry ([.ref (q 0), .int x1]) (n := 3) (Nat.le_of_ble_eq_true rfl)
  rw [lg_entry_eq]
  generalize (lg_sl ([.ref (q 0), .int x1]) ++ List.replicate (3 - (lg_sl ([.ref (q 0), .int x1])).length) Slot.unset).toArray = ls at hl ⊢
  have hl : lv_has ls 3 [(0, .ref (q 0)), (1, .int x1)] := hl
  refine lv_aload_n hx hb dX9_walk_0 rfl (lv_at hl 0 rfl) ?_
  refine gRX9_19 hx hb hown hts hK hP dX9_walk_1 ?_
  refine lv_iload_n hx hb dX9_walk_4 rfl (lv_at hl 1 rfl) ?_
  refine ro_i (va_runV (As := [.int x1]) (rest := []) ⟨hx, hb, hml, hown, hts⟩ (c_X2_hasState l hw) (kRX9_132 (h := 0) hts (Nat.le_trans (Nat.le_of_ble_eq_true rfl) hRf) (Nat.le_trans (Nat.le_of_ble_eq_true rfl) hRl)) (preX2 hK hN hP) rfl rfl hl.1 rfl (lv_room (Nat.le_of_ble_eq_true rfl)) dX9_walk_5 ⟨Nat.zero_le _, Nat.zero_le _⟩) (fun r_1 hw => ?_)
  refine lv_if_ne (tgt := 15) hx hb dX9_walk_8 (by decide) (fun c_2 => ?_) (fun c_2 => ?_)
  · have hw := hw.2 c_2
    refine lv_aload_n hx hb dX9_walk_15 rfl (lv_at hl 0 rfl) ?_
    refine gRX9_68 hx hb hown hts hK hP dX9_walk_16 ?_
    refine gRX9_224 hx hb hown hts hK hN hP dX9_walk_19 ?_
    refine lv_istore_n (lv' := [(2, .int Wa_at), (0, .ref (q 0)), (1, .int x1)]) hx hb dX9_walk_22 rfl hl (by decide) rfl (fun ls hl => ?_)
    refine lv_aload_n hx hb dX9_walk_23 rfl (lv_at hl 1 rfl) ?_
    refine gRX9_68 hx hb hown hts hK hP dX9_walk_24 ?_
    refine lv_iload_n hx hb dX9_walk_27 rfl (lv_at hl 2 rfl) ?_
    refine wr_v (va_runV (As := [.int x1]) (rest := []) ⟨hx, hb, hml, hown, hts⟩ (c_X8_start l hw) (kRX9_100 (h := 0) hts (Nat.le_trans (Nat.le_of_ble_eq_true rfl) hRf) (Nat.le_trans (Nat.le_of_ble_eq_true rfl) hRl)) (preX8w hK hN hP hD) rfl rfl hl.1 rfl (lv_room (Nat.le_of_ble_eq_true rfl)) dX9_walk_28 ⟨Nat.zero_le _, Nat.zero_le _⟩) hS (fun t H locs ht hw hS => ?_)
    obtain ⟨yat_3, yturns_3, ychanges_3, hw, hP⟩ := hw
    rw [ht] at hP
    have hP : va_P D vwCl (wC q cA Fc_unkept Fc_tablesRead Pg_letters Pg_size Pg_fault Pg_rows Pg_inRow Pg_width Fl_entries Fl_states Fl_columns Fl_moves Fl_stables Fl_amiss Fl_normal Pt_lessers Pt_greaters Pt_size Lc_signals Lc_kept Lc_keptFrom Lc_candidates Lc_size Sc_signals Sc_codes Sc_size Ai_codes Ai_bits Cu_seen Cu_inThrees Cu_all Lo_asked Lo_ones Lo_sum Lo_wideSize Lo_sumSize Lo_flickers Lo_ready yat_3 yturns_3 ychanges_3) H := hP
    have hD : va_D A (wC q cA Fc_unkept Fc_tablesRead Pg_letters Pg_size Pg_fault Pg_rows Pg_inRow Pg_width Fl_entries Fl_states Fl_columns Fl_moves Fl_stables Fl_amiss Fl_normal Pt_lessers Pt_greaters Pt_size Lc_signals Lc_kept Lc_keptFrom Lc_candidates Lc_size Sc_signals Sc_codes Sc_size Ai_codes Ai_bits Cu_seen Cu_inThrees Cu_all Lo_asked Lo_ones Lo_sum Lo_wideSize Lo_sumSize Lo_flickers Lo_ready yat_3 yturns_3 ychanges_3) := dC hD
    refine lv_iload_n hx hb dX9_walk_31 rfl (lv_at hl 0 rfl) ?_
    exact rw_i hx hb hr hlocks (fun t ht => ⟨yat_3, yturns_3, ychanges_3, hw, by rw [ht]; exact hP⟩) hS dX9_walk_32
  · have hw := hw.1 c_2
    refine lv_sipush (v := ((-1001) : Int32)) hx hb dX9_walk_11 (by decide +kernel) ?_
    exact rw_i hx hb hr hlocks (fun t ht => ⟨Wa_at, Wa_turns, Wa_changes, hw, by rw [ht]; exact hP⟩) hS dX9_walk_14
abbrev Z_X10_walk (D : va_G) (q : Nat → Nat) (cA : Nat → ClassId) (i_pageLength : Int32) (a_page : Nat → Int32) (i_states : Int32) (i_columns : Int32) (a_entries : Nat → Int32) (i_signals : Int32) (a_signalAt : Nat → Int32) (i_read : Int32) (i_newRows : Int32) (i_newEntries : Int32) (i_newColumns : Int32) (i_greatest : Int32) (a_newAt : Nat → Int32) (i_partings : Int32) (a_lowSet : Nat → Int32) (a_highSet : Nat → Int32) (i_leastMany : Int32) (a_leastAt : Nat → Int32) (a_tried : Nat → Int32) (a_keptLow : Nat → Int64) (a_keptHigh : Nat → Int64) (i_laid : Int32) (a_wants : Nat → Int32) (i_wide : Int32) (a_wideAsked : Nat → Int32) (a_wideOnes : Nat → Int32) (i_sum : Int32) (i_flickers : Int32) (a_sumAt : Nat → Int32) (j_h : Int64) (post : Int32 → Int32 → Int32 → Int32 → Prop) : Int32 → State → Prop := fun r t => ∃ (y_i_walksAt : Int32) (y_i_turned : Int32) (y_i_changed : Int32), post r y_i_walksAt y_i_turned y_i_changed ∧ va_P D vwCl (wM q cA i_pageLength a_page i_states i_columns a_entries i_signals a_signalAt y_i_walksAt y_i_turned y_i_changed i_read i_newRows i_newEntries i_newColumns i_greatest a_newAt i_partings a_lowSet a_highSet i_leastMany a_leastAt a_tried a_keptLow a_keptHigh i_laid a_wants i_wide a_wideAsked a_wideOnes i_sum i_flickers a_sumAt j_h) t.heap
set_option maxHeartbeats 4000000 in
set_option maxRecDepth 100000 in
theorem c_X10_walk (l : Launch) {D : va_G} {q : Nat → Nat} {cA : Nat → ClassId} {i_pageLength : Int32} {a_page : Nat → Int32} {i_states : Int32} {i_columns : Int32} {a_entries : Nat → Int32} {i_signals : Int32} {a_signalAt : Nat → Int32} {i_walksAt : Int32} {i_turned : Int32} {i_changed : Int32} {i_read : Int32} {i_newRows : Int32} {i_newEntries : Int32} {i_newColumns : Int32} {i_greatest : Int32} {a_newAt : Nat → Int32} {i_partings : Int32} {a_lowSet : Nat → Int32} {a_highSet : Nat → Int32} {i_leastMany : Int32} {a_leastAt : Nat → Int32} {a_tried : Nat → Int32} {a_keptLow : Nat → Int64} {a_keptHigh : Nat → Int64} {i_laid : Int32} {a_wants : Nat → Int32} {i_wide : Int32} {a_wideAsked : Nat → Int32} {a_wideOnes : Nat → Int32} {i_sum : Int32} {i_flickers : Int32} {a_sumAt : Nat → Int32} {j_h : Int64} {A : Nat → Prop} {post : Int32 → Int32 → Int32 → Int32 → Prop} {x1 : Int32} (hw : wp_X10_walk post i_states i_walksAt i_turned i_changed x1) : Met l yX10_walk (Cond.code yX10_walk cX10_walk 3 (some .int) :: wsL_law) (rmH 1) (va_Pc [.ref (q 0), .int x1] (fun U => va_P D vwCl (wM q cA i_pageLength a_page i_states i_columns a_entries i_signals a_signalAt i_walksAt i_turned i_changed i_read i_newRows i_newEntries i_newColumns i_greatest a_newAt i_partings a_lowSet a_highSet i_leastMany a_leastAt a_tried a_keptLow a_keptHigh i_laid a_wants i_wide a_wideAsked a_wideOnes i_sum i_flickers a_sumAt j_h) U.heap ∧ va_K D vwCl (tyM cA) U ∧ va_D A (wM q cA i_pageLength a_page i_states i_columns a_entries i_signals a_signalAt i_walksAt i_turned i_changed i_read i_newRows i_newEntries i_newColumns i_greatest a_newAt i_partings a_lowSet a_highSet i_leastMany a_leastAt a_tried a_keptLow a_keptHigh i_laid a_wants i_wide a_wideAsked a_wideOnes i_sum i_flickers a_sumAt j_h))) (qWi (Z_X10_walk D q cA i_pageLength a_page i_states i_columns a_entries i_signals a_signalAt i_read i_newRows i_newEntries i_newColumns i_greatest a_newAt i_partings a_lowSet a_highSet i_leastMany a_leastAt a_tried a_keptLow a_keptHigh i_laid a_wants i_wide a_wideAsked a_wideOnes i_sum i_flickers a_sumAt j_h post) A) 0 0 A := by
  refine Met.ofW (cc := cX10_walk) (maxL := 3) (ret := (some .int)) (by decide) rfl ?_
  intro p e s m args below meth c s₁ B hml hv
  obtain ⟨rfl, hP, hK, hD⟩ := hv
  have X : kC p (headSpec (Cond.code yX10_walk cX10_walk 3 (some .int) :: wsL_law) (rmH 1)).room s m _ meth c cX10_walk RX10 3 (some .int) 1 := ⟨B.exec, B.bytes, hml, findClass_of_methodNamed B.named, fun w h => atoms_spec (ws := Cond.code yX10_walk cX10_walk 3 (some .int) :: wsL_law) B.pre w (List.mem_cons_of_mem _ h), B.returns, B.notSynchronized, Nat.le_refl _, Nat.le_refl _⟩
  obtain ⟨hx, hb, hml, hown, hts, hr, hlocks, hRf, hRl⟩ := id X
  have hS : va_S A s.heap s.heap [] := va_S.rf
  have hl := lv_entry ([.ref (q 0), .int x1]) (n := 3) (Nat.le_of_ble_eq_true rfl)
  rw [lg_entry_eq]
  generalize (lg_sl ([.ref (q 0), .int x1]) ++ List.replicate (3 - (lg_sl ([.ref (q 0), .int x1])).length) Slot.unset).toArray = ls at hl ⊢
  have hl : lv_has ls 3 [(0, .ref (q 0)), (1, .int x1)] := hl
  refine lv_iload_n hx hb dX10_walk_0 rfl (lv_at hl 1 rfl) ?_
  refine lv_iconst (v := (0 : Int32)) hx hb dX10_walk_1 (by decide) ?_
  refine lv_aload_n hx hb dX10_walk_2 rfl (lv_at hl 0 rfl) ?_
  refine gRX10_87 hx hb hown hts hK hP dX10_walk_3 ?_
  refine lv_iconst (v := (1 : Int32)) hx hb dX10_walk_6 (by decide) ?_
  refine lv_isub hx hb dX10_walk_7 ?_
  refine ro_i (va_runS (As := [.int x1, .int (0 : Int32), .int (i_states - (1 : Int32))]) (rest := []) ⟨hx, hb, hml, hown, hts⟩ (c_X10_within l hw) (kRX10_60 (h := 0) hts (Nat.le_trans (Nat.le_of_ble_eq_true rfl) hRf) (Nat.le_trans (Nat.le_of_ble_eq_true rfl) hRl)) pre_0 rfl rfl hl.1 rfl (lv_room (Nat.le_of_ble_eq_true rfl)) dX10_walk_8 ⟨Nat.zero_le _, Nat.zero_le _⟩) (fun r_1 hw => ?_)
  refine lv_if_ne (tgt := 18) hx hb dX10_walk_11 (by decide) (fun c_2 => ?_) (fun c_2 => ?_)
  · have hw := hw.2 c_2
    refine lv_aload_n hx hb dX10_walk_18 rfl (lv_at hl 0 rfl) ?_
    refine gRX10_19 hx hb hown hts hK hP dX10_walk_19 ?_
    refine lv_istore_n (lv' := [(2, .int i_walksAt), (0, .ref (q 0)), (1, .int x1)]) hx hb dX10_walk_22 rfl hl (by decide) rfl (fun ls hl => ?_)
    refine lv_aload_n hx hb dX10_walk_23 rfl (lv_at hl 1 rfl) ?_
    refine lv_iload_n hx hb dX10_walk_24 rfl (lv_at hl 2 rfl) ?_
    refine pRX10_19 hx hb hown hts hK hP hD hS dX10_walk_25 (fun H locs hP hD hS => ?_)
    refine lv_aload_n hx hb dX10_walk_28 rfl (lv_at hl 1 rfl) ?_
    refine lv_iconst (v := (0 : Int32)) hx hb dX10_walk_29 (by decide) ?_
    refine pRX10_93 hx hb hown hts hK hP hD hS dX10_walk_30 (fun H locs hP hD hS => ?_)
    refine lv_aload_n hx hb dX10_walk_33 rfl (lv_at hl 1 rfl) ?_
    refine lv_iconst (v := (0 : Int32)) hx hb dX10_walk_34 (by decide) ?_
    refine pRX10_96 hx hb hown hts hK hP hD hS dX10_walk_35 (fun H locs hP hD hS => ?_)
    refine lv_iload_n hx hb dX10_walk_38 rfl (lv_at hl 0 rfl) ?_
    exact rw_i hx hb hr hlocks (fun t ht => ⟨x1, (0 : Int32), (0 : Int32), hw, by rw [ht]; exact hP⟩) hS dX10_walk_39
  · have hw := hw.1 c_2
    refine lv_sipush (v := ((-1001) : Int32)) hx hb dX10_walk_14 (by decide +kernel) ?_
    exact rw_i hx hb hr hlocks (fun t ht => ⟨i_walksAt, i_turned, i_changed, hw, by rw [ht]; exact hP⟩) hS dX10_walk_17
abbrev Z_X8_go (D : va_G) (q : Nat → Nat) (cA : Nat → ClassId) (Fc_unkept : Int32) (Fc_tablesRead : Int32) (Pg_letters : Nat → Int32) (Pg_size : Int32) (Pg_fault : Int32) (Pg_rows : Int32) (Pg_inRow : Int32) (Pg_width : Int32) (Fl_entries : Nat → Int32) (Fl_states : Int32) (Fl_columns : Int32) (Fl_moves : Int32) (Fl_stables : Int32) (Fl_amiss : Int32) (Fl_normal : Int32) (Pt_lessers : Nat → Int32) (Pt_greaters : Nat → Int32) (Pt_size : Int32) (Lc_signals : Nat → Int32) (Lc_kept : Nat → Int64) (Lc_keptFrom : Nat → Int64) (Lc_candidates : Int32) (Lc_size : Int32) (Sc_signals : Nat → Int32) (Sc_codes : Nat → Int32) (Sc_size : Int32) (Ai_codes : Nat → Int32) (Ai_bits : Int32) (Cu_seen : Nat → Int32) (Cu_inThrees : Nat → Int32) (Cu_all : Int32) (Lo_asked : Nat → Nat → Int32) (Lo_ones : Nat → Nat → Int32) (Lo_sum : Nat → Nat → Int32) (Lo_wideSize : Nat → Int32) (Lo_sumSize : Nat → Int32) (Lo_flickers : Nat → Int32) (Lo_ready : Nat → Int32) (post : Int32 → Int32 → Int32 → Prop) : State → Prop := fun t => ∃ (y_Wa_at : Int32) (y_Wa_turns : Int32) (y_Wa_changes : Int32), post y_Wa_at y_Wa_turns y_Wa_changes ∧ va_P D vwCl (wC q cA Fc_unkept Fc_tablesRead Pg_letters Pg_size Pg_fault Pg_rows Pg_inRow Pg_width Fl_entries Fl_states Fl_columns Fl_moves Fl_stables Fl_amiss Fl_normal Pt_lessers Pt_greaters Pt_size Lc_signals Lc_kept Lc_keptFrom Lc_candidates Lc_size Sc_signals Sc_codes Sc_size Ai_codes Ai_bits Cu_seen Cu_inThrees Cu_all Lo_asked Lo_ones Lo_sum Lo_wideSize Lo_sumSize Lo_flickers Lo_ready y_Wa_at y_Wa_turns y_Wa_changes) t.heap
set_option maxHeartbeats 4000000 in
set_option maxRecDepth 100000 in
theorem c_X8_go (l : Launch) {D : va_G} {q : Nat → Nat} {cA : Nat → ClassId} {Fc_unkept : Int32} {Fc_tablesRead : Int32} {Pg_letters : Nat → Int32} {Pg_size : Int32} {Pg_fault : Int32} {Pg_rows : Int32} {Pg_inRow : Int32} {Pg_width : Int32} {Fl_entries : Nat → Int32} {Fl_states : Int32} {Fl_columns : Int32} {Fl_moves : Int32} {Fl_stables : Int32} {Fl_amiss : Int32} {Fl_normal : Int32} {Pt_lessers : Nat → Int32} {Pt_greaters : Nat → Int32} {Pt_size : Int32} {Lc_signals : Nat → Int32} {Lc_kept : Nat → Int64} {Lc_keptFrom : Nat → Int64} {Lc_candidates : Int32} {Lc_size : Int32} {Sc_signals : Nat → Int32} {Sc_codes : Nat → Int32} {Sc_size : Int32} {Ai_codes : Nat → Int32} {Ai_bits : Int32} {Cu_seen : Nat → Int32} {Cu_inThrees : Nat → Int32} {Cu_all : Int32} {Lo_asked : Nat → Nat → Int32} {Lo_ones : Nat → Nat → Int32} {Lo_sum : Nat → Nat → Int32} {Lo_wideSize : Nat → Int32} {Lo_sumSize : Nat → Int32} {Lo_flickers : Nat → Int32} {Lo_ready : Nat → Int32} {Wa_at : Int32} {Wa_turns : Int32} {Wa_changes : Int32} {A : Nat → Prop} {post : Int32 → Int32 → Int32 → Prop} {x1 : Int32} {x2 : Int32} (hw : wp_X8_go post Wa_at Wa_turns Wa_changes x1 x2) : Met l yX8_go (Cond.code yX8_go cX8_go 3 none :: wsL_law) (rmH 0) (va_Pc [.ref (q 21), .int x1, .int x2] (fun U => va_P D vwCl (wC q cA Fc_unkept Fc_tablesRead Pg_letters Pg_size Pg_fault Pg_rows Pg_inRow Pg_width Fl_entries Fl_states Fl_columns Fl_moves Fl_stables Fl_amiss Fl_normal Pt_lessers Pt_greaters Pt_size Lc_signals Lc_kept Lc_keptFrom Lc_candidates Lc_size Sc_signals Sc_codes Sc_size Ai_codes Ai_bits Cu_seen Cu_inThrees Cu_all Lo_asked Lo_ones Lo_sum Lo_wideSize Lo_sumSize Lo_flickers Lo_ready Wa_at Wa_turns Wa_changes) U.heap ∧ va_K D vwCl (tyC cA) U ∧ nwC U ∧ va_D A (wC q cA Fc_unkept Fc_tablesRead Pg_letters Pg_size Pg_fault Pg_rows Pg_inRow Pg_width Fl_entries Fl_states Fl_columns Fl_moves Fl_stables Fl_amiss Fl_normal Pt_lessers Pt_greaters Pt_size Lc_signals Lc_kept Lc_keptFrom Lc_candidates Lc_size Sc_signals Sc_codes Sc_size Ai_codes Ai_bits Cu_seen Cu_inThrees Cu_all Lo_asked Lo_ones Lo_sum Lo_wideSize Lo_sumSize Lo_flickers Lo_ready Wa_at Wa_turns Wa_changes))) (qWv (Z_X8_go D q cA Fc_unkept Fc_tablesRead Pg_letters Pg_size Pg_fault Pg_rows Pg_inRow Pg_width Fl_entries Fl_states Fl_columns Fl_moves Fl_stables Fl_amiss Fl_normal Pt_lessers Pt_greaters Pt_size Lc_signals Lc_kept Lc_keptFrom Lc_candidates Lc_size Sc_signals Sc_codes Sc_size Ai_codes Ai_bits Cu_seen Cu_inThrees Cu_all Lo_asked Lo_ones Lo_sum Lo_wideSize Lo_sumSize Lo_flickers Lo_ready post) A) 0 0 A := by
  refine Met.ofW (cc := cX8_go) (maxL := 3) (ret := none) (by decide) rfl ?_
  intro p e s m args below meth c s₁ B hml hv
  obtain ⟨rfl, hP, hK, hN, hD⟩ := hv
  have X : kC p (headSpec (Cond.code yX8_go cX8_go 3 none :: wsL_law) (rmH 0)).room s m _ meth c cX8_go RX8 3 none 0 := ⟨B.exec, B.bytes, hml, findClass_of_methodNamed B.named, fun w h => atoms_spec (ws := Cond.code yX8_go cX8_go 3 none :: wsL_law) B.pre w (List.mem_cons_of_mem _ h), B.returns, B.notSynchronized, Nat.le_refl _, Nat.le_refl _⟩
  obtain ⟨hx, hb, hml, hown, hts, hr, hlocks, hRf, hRl⟩ := id X
  have hS : va_S A s.heap s.heap [] := va_S.rf
  have hl := lv_entry ([.ref (q 21), .int x1, .int x2]) (n := 3) (Nat.le_of_ble_eq_true rfl)
  rw [lg_entry_eq]
  generalize (lg_sl ([.ref (q 21), .int x1, .int x2]) ++ List.replicate (3 - (lg_sl ([.ref (q 21), .int x1, .int x2])).length) Slot.unset).toArray = ls at hl ⊢
  have hl : lv_has ls 3 [(0, .ref (q 21)), (1, .int x1), (2, .int x2)] := hl
  refine lv_aload_n hx hb dX8_go_0 rfl (lv_at hl 0 rfl) ?_
  refine lv_iload_n hx hb dX8_go_1 rfl (lv_at hl 1 rfl) ?_
  refine pRX8_9 hx hb hown hts hK hP hD hS dX8_go_2 (fun H locs hP hD hS => ?_)
  refine lv_aload_n hx hb dX8_go_5 rfl (lv_at hl 0 rfl) ?_
  refine lv_dup hx hb dX8_go_6 rfl ?_
  refine gRX8_15 hx hb hown hts hK hP dX8_go_7 ?_
  refine lv_iconst (v := (1 : Int32)) hx hb dX8_go_10 (by decide) ?_
  refine lv_iadd hx hb dX8_go_11 ?_
  refine lv_topi (fun f_1 e_1 => ?_)
  have hw := hw f_1 e_1
  refine pRX8_15 hx hb hown hts hK hP hD hS dX8_go_12 (fun H locs hP hD hS => ?_)
  refine lv_aload_n hx hb dX8_go_15 rfl (lv_at hl 0 rfl) ?_
  refine lv_dup hx hb dX8_go_16 rfl ?_
  refine gRX8_18 hx hb hown hts hK hP dX8_go_17 ?_
  refine lv_iload_n hx hb dX8_go_20 rfl (lv_at hl 2 rfl) ?_
  refine lv_iadd hx hb dX8_go_21 ?_
  refine lv_topi (fun f_2 e_2 => ?_)
  have hw := hw f_2 e_2
  refine pRX8_18 hx hb hown hts hK hP hD hS dX8_go_22 (fun H locs hP hD hS => ?_)
  exact rw_v hx hb hr hlocks (fun t ht => ⟨x1, f_1, f_2, hw, by rw [ht]; exact hP⟩) hS dX8_go_25
