set_option maxHeartbeats 4000000 in
set_option maxRecDepth 100000 in
theorem c_X10_isNormal (l : Launch) {D : va_G} {q : Nat → Nat} {cA : Nat → ClassId} {i_pageLength : Int32} {a_page : Nat → Int32} {i_states : Int32} {i_columns : Int32} {a_entries : Nat → Int32} {i_signals : Int32} {a_signalAt : Nat → Int32} {i_walksAt : Int32} {i_turned : Int32} {i_changed : Int32} {i_read : Int32} {i_newRows : Int32} {i_newEntries : Int32} {i_newColumns : Int32} {i_greatest : Int32} {a_newAt : Nat → Int32} {i_partings : Int32} {a_lowSet : Nat → Int32} {a_highSet : Nat → Int32} {i_leastMany : Int32} {a_leastAt : Nat → Int32} {a_tried : Nat → Int32} {a_keptLow : Nat → Int64} {a_keptHigh : Nat → Int64} {i_laid : Int32} {a_wants : Nat → Int32} {i_wide : Int32} {a_wideAsked : Nat → Int32} {a_wideOnes : Nat → Int32} {i_sum : Int32} {i_flickers : Int32} {a_sumAt : Nat → Int32} {j_h : Int64} {post : Int32 → Prop}  (hw : wp_X10_isNormal post i_states i_columns a_entries ) : Met l yX10_isNormal (Cond.code yX10_isNormal cX10_isNormal 1 (some .boolean) :: wsL_law) (rmH 2) (va_Pc [.ref (q 0)] (fun U => va_P D vwCl (wM q cA i_pageLength a_page i_states i_columns a_entries i_signals a_signalAt i_walksAt i_turned i_changed i_read i_newRows i_newEntries i_newColumns i_greatest a_newAt i_partings a_lowSet a_highSet i_leastMany a_leastAt a_tried a_keptLow a_keptHigh i_laid a_wants i_wide a_wideAsked a_wideOnes i_sum i_flickers a_sumAt j_h) U.heap ∧ va_K D vwCl (tyM cA) U)) (qRi post) 0 0 (fun _ => False) := by
  refine Met.ofW (cc := cX10_isNormal) (maxL := 1) (ret := (some .boolean)) (by decide) rfl ?_
  intro p e s m args below meth c s₁ B hml hv
  obtain ⟨rfl, hP, hK⟩ := hv
  have X : kC p (headSpec (Cond.code yX10_isNormal cX10_isNormal 1 (some .boolean) :: wsL_law) (rmH 2)).room s m _ meth c cX10_isNormal RX10 1 (some .boolean) 2 := ⟨B.exec, B.bytes, hml, findClass_of_methodNamed B.named, fun w h => atoms_spec (ws := Cond.code yX10_isNormal cX10_isNormal 1 (some .boolean) :: wsL_law) B.pre w (List.mem_cons_of_mem _ h), B.returns, B.notSynchronized, Nat.le_refl _, Nat.le_refl _⟩
  obtain ⟨hx, hb, hml, hown, hts, hr, hlocks, hRf, hRl⟩ := id X
  have hl := lv_entry ([.ref (q 0)]) (n := 1) (Nat.le_of_ble_eq_true rfl)
  rw [lg_entry_eq]
  generalize (lg_sl ([.ref (q 0)]) ++ List.replicate (1 - (lg_sl ([.ref (q 0)])).length) Slot.unset).toArray = ls at hl ⊢
  have hl : lv_has ls 1 [(0, .ref (q 0))] := hl
  refine lv_aload_n hx hb dX10_isNormal_0 rfl (lv_at hl 0 rfl) ?_
  refine gRX10_87 hx hb hown hts hK hP dX10_isNormal_1 ?_
  refine lv_if_le (tgt := 19) hx hb dX10_isNormal_4 (by decide) (fun c_1 => ?_) (fun c_1 => ?_)
  · have hw := hw.1 c_1
    refine lv_iconst (v := (0 : Int32)) hx hb dX10_isNormal_19 (by decide) ?_
    exact rt_z hx hb hr hlocks rfl hw dX10_isNormal_20
  · have hw := hw.2 c_1
    refine lv_aload_n hx hb dX10_isNormal_7 rfl (lv_at hl 0 rfl) ?_
    refine ro_i (va_runV (As := []) (rest := []) ⟨hx, hb, hml, hown, hts⟩ (c_X10_amiss l hw) (kRX10_122 (h := 1) hts (Nat.le_trans (Nat.le_of_ble_eq_true rfl) hRf) (Nat.le_trans (Nat.le_of_ble_eq_true rfl) hRl)) (preM hK hP) rfl rfl hl.1 rfl (lv_room (Nat.le_of_ble_eq_true rfl)) dX10_isNormal_8 ⟨Nat.zero_le _, Nat.zero_le _⟩) (fun r_2 hw => ?_)
    refine lv_iconst (v := ((-1) : Int32)) hx hb dX10_isNormal_11 (by decide) ?_
    refine lv_icmp_ne (tgt := 19) hx hb dX10_isNormal_12 (by decide) (fun c_3 => ?_) (fun c_3 => ?_)
    · have hw := hw.2 c_3
      refine lv_iconst (v := (0 : Int32)) hx hb dX10_isNormal_19 (by decide) ?_
      exact rt_z hx hb hr hlocks rfl hw dX10_isNormal_20
    · have hw := hw.1 c_3
      refine lv_iconst (v := (1 : Int32)) hx hb dX10_isNormal_15 (by decide) ?_
      refine lv_goto (tgt := 20) hx hb dX10_isNormal_16 (by decide) ?_
      exact rt_z hx hb hr hlocks rfl hw dX10_isNormal_20
set_option maxHeartbeats 4000000 in
set_option maxRecDepth 100000 in
theorem t_X10_isIn_16 {p : Program} {l : Launch} {e : Env} {R : Room} {s : State} {m : MethodId} {args : Array Value} {below : List Frame} {meth : Method} {c : Code}  {post : Int32 → Prop} {x0 : Int32} {x1 : Int32} {x2 : Int32} {x3 : Int32} (X : kC p R s m args meth c cX10_isIn RX10 4 (some .boolean) 0) (hw : j_X10_isIn_16 post x0 x1 x2 x3) (ls : Array Slot) (hl : lv_has ls 4 [(0, .int x0), (1, .int x1), (2, .int x2), (3, .int x3)]) : W p l e R s m args below meth c s.heap [] 0 0 (MQ below (qRi post) args s 0 0 (fun _ => False)) (F0 m 16 ls []) := by
  obtain ⟨hx, hb, hml, hown, hts, hr, hlocks, hRf, hRl⟩ := id X
  refine lv_iload_n hx hb dX10_isIn_16 rfl (lv_at hl 0 rfl) ?_
  refine lv_iload_n hx hb dX10_isIn_17 rfl (lv_at hl 3 rfl) ?_
  refine lv_iconst (v := ((-1) : Int32)) hx hb dX10_isIn_18 (by decide) ?_
  refine lv_ixor hx hb dX10_isIn_19 ?_
  refine lv_iand hx hb dX10_isIn_20 ?_
  refine lv_if_ne (tgt := 36) hx hb dX10_isIn_21 (by decide) (fun c_2 => ?_) (fun c_2 => ?_)
  · have hw := hw.2 c_2
    refine lv_iconst (v := (0 : Int32)) hx hb dX10_isIn_36 (by decide) ?_
    exact rt_z hx hb hr hlocks rfl hw dX10_isIn_37
  · have hw := hw.1 c_2
    refine lv_iload_n hx hb dX10_isIn_24 rfl (lv_at hl 1 rfl) ?_
    refine lv_iload_n hx hb dX10_isIn_25 rfl (lv_at hl 2 rfl) ?_
    refine lv_iconst (v := ((-1) : Int32)) hx hb dX10_isIn_26 (by decide) ?_
    refine lv_ixor hx hb dX10_isIn_27 ?_
    refine lv_iand hx hb dX10_isIn_28 ?_
    refine lv_if_ne (tgt := 36) hx hb dX10_isIn_29 (by decide) (fun c_3 => ?_) (fun c_3 => ?_)
    · have hw := hw.2 c_3
      refine lv_iconst (v := (0 : Int32)) hx hb dX10_isIn_36 (by decide) ?_
      exact rt_z hx hb hr hlocks rfl hw dX10_isIn_37
    · have hw := hw.1 c_3
      refine lv_iconst (v := (1 : Int32)) hx hb dX10_isIn_32 (by decide) ?_
      refine lv_goto (tgt := 37) hx hb dX10_isIn_33 (by decide) ?_
      exact rt_z hx hb hr hlocks rfl hw dX10_isIn_37
set_option maxHeartbeats 4000000 in
set_option maxRecDepth 100000 in
theorem c_X10_isIn (l : Launch)  {post : Int32 → Prop} {x0 : Int32} {x1 : Int32} {x2 : Int32} {x3 : Int32} (hw : wp_X10_isIn post  x0 x1 x2 x3) : Met l yX10_isIn (Cond.code yX10_isIn cX10_isIn 4 (some .boolean) :: wsL_law) (rmH 0) (va_Pc [.int x0, .int x1, .int x2, .int x3] (fun _ => True)) (qRi post) 0 0 (fun _ => False) := by
  refine Met.ofW (cc := cX10_isIn) (maxL := 4) (ret := (some .boolean)) (by decide) rfl ?_
  intro p e s m args below meth c s₁ B hml hv
  obtain ⟨rfl, -⟩ := hv
  have X : kC p (headSpec (Cond.code yX10_isIn cX10_isIn 4 (some .boolean) :: wsL_law) (rmH 0)).room s m _ meth c cX10_isIn RX10 4 (some .boolean) 0 := ⟨B.exec, B.bytes, hml, findClass_of_methodNamed B.named, fun w h => atoms_spec (ws := Cond.code yX10_isIn cX10_isIn 4 (some .boolean) :: wsL_law) B.pre w (List.mem_cons_of_mem _ h), B.returns, B.notSynchronized, Nat.le_refl _, Nat.le_refl _⟩
  obtain ⟨hx, hb, hml, hown, hts, hr, hlocks, hRf, hRl⟩ := id X
  have hl := lv_entry ([.int x0, .int x1, .int x2, .int x3]) (n := 4) (Nat.le_of_ble_eq_true rfl)
  rw [lg_entry_eq]
  generalize (lg_sl ([.int x0, .int x1, .int x2, .int x3]) ++ List.replicate (4 - (lg_sl ([.int x0, .int x1, .int x2, .int x3])).length) Slot.unset).toArray = ls at hl ⊢
  have hl : lv_has ls 4 [(0, .int x0), (1, .int x1), (2, .int x2), (3, .int x3)] := hl
  refine lv_iload_n hx hb dX10_isIn_0 rfl (lv_at hl 0 rfl) ?_
  refine lv_iload_n hx hb dX10_isIn_1 rfl (lv_at hl 2 rfl) ?_
  refine lv_iconst (v := ((-1) : Int32)) hx hb dX10_isIn_2 (by decide) ?_
  refine lv_ixor hx hb dX10_isIn_3 ?_
  refine lv_iand hx hb dX10_isIn_4 ?_
  refine lv_if_ne (tgt := 16) hx hb dX10_isIn_5 (by decide) (fun c_1 => ?_) (fun c_1 => ?_)
  · have hw := hw.2 c_1
    exact t_X10_isIn_16 X hw ls (lv_sub hl [0, 1, 2, 3] rfl)
  · have hw := hw.1 c_1
    refine lv_iload_n hx hb dX10_isIn_8 rfl (lv_at hl 1 rfl) ?_
    refine lv_iload_n hx hb dX10_isIn_9 rfl (lv_at hl 3 rfl) ?_
    refine lv_iconst (v := ((-1) : Int32)) hx hb dX10_isIn_10 (by decide) ?_
    refine lv_ixor hx hb dX10_isIn_11 ?_
    refine lv_iand hx hb dX10_isIn_12 ?_
    refine lv_if_eq (tgt := 32) hx hb dX10_isIn_13 (by decide) (fun c_4 => ?_) (fun c_4 => ?_)
    · have hw := hw.1 c_4
      refine lv_iconst (v := (1 : Int32)) hx hb dX10_isIn_32 (by decide) ?_
      refine lv_goto (tgt := 37) hx hb dX10_isIn_33 (by decide) ?_
      exact rt_z hx hb hr hlocks rfl hw dX10_isIn_37
    · have hw := hw.2 c_4
      exact t_X10_isIn_16 X hw ls (lv_sub hl [0, 1, 2, 3] rfl)
abbrev Z_X10_addParting (D : va_G) (q : Nat → Nat) (cA : Nat → ClassId) (i_pageLength : Int32) (a_page : Nat → Int32) (i_states : Int32) (i_columns : Int32) (a_entries : Nat → Int32) (i_signals : Int32) (a_signalAt : Nat → Int32) (i_walksAt : Int32) (i_turned : Int32) (i_changed : Int32) (i_read : Int32) (i_newRows : Int32) (i_newEntries : Int32) (i_newColumns : Int32) (i_greatest : Int32) (a_newAt : Nat → Int32) (i_leastMany : Int32) (a_leastAt : Nat → Int32) (a_tried : Nat → Int32) (a_keptLow : Nat → Int64) (a_keptHigh : Nat → Int64) (i_laid : Int32) (a_wants : Nat → Int32) (i_wide : Int32) (a_wideAsked : Nat → Int32) (a_wideOnes : Nat → Int32) (i_sum : Int32) (i_flickers : Int32) (a_sumAt : Nat → Int32) (j_h : Int64) (post : Int32 → (Nat → Int32) → (Nat → Int32) → Prop) : State → Prop := fun t => ∃ (y_i_partings : Int32) (y_a_lowSet : Nat → Int32) (y_a_highSet : Nat → Int32), post y_i_partings y_a_lowSet y_a_highSet ∧ va_P D vwCl (wM q cA i_pageLength a_page i_states i_columns a_entries i_signals a_signalAt i_walksAt i_turned i_changed i_read i_newRows i_newEntries i_newColumns i_greatest a_newAt y_i_partings y_a_lowSet y_a_highSet i_leastMany a_leastAt a_tried a_keptLow a_keptHigh i_laid a_wants i_wide a_wideAsked a_wideOnes i_sum i_flickers a_sumAt j_h) t.heap
set_option maxHeartbeats 4000000 in
set_option maxRecDepth 100000 in
theorem t_X10_addParting_29 {p : Program} {l : Launch} {e : Env} {R : Room} {s : State} {m : MethodId} {args : Array Value} {below : List Frame} {meth : Method} {c : Code} {A : Nat → Prop} {D : va_G} {q : Nat → Nat} {cA : Nat → ClassId} {i_pageLength : Int32} {a_page : Nat → Int32} {i_states : Int32} {i_columns : Int32} {a_entries : Nat → Int32} {i_signals : Int32} {a_signalAt : Nat → Int32} {i_walksAt : Int32} {i_turned : Int32} {i_changed : Int32} {i_read : Int32} {i_newRows : Int32} {i_newEntries : Int32} {i_newColumns : Int32} {i_greatest : Int32} {a_newAt : Nat → Int32} {i_partings : Int32} {a_lowSet : Nat → Int32} {a_highSet : Nat → Int32} {i_leastMany : Int32} {a_leastAt : Nat → Int32} {a_tried : Nat → Int32} {a_keptLow : Nat → Int64} {a_keptHigh : Nat → Int64} {i_laid : Int32} {a_wants : Nat → Int32} {i_wide : Int32} {a_wideAsked : Nat → Int32} {a_wideOnes : Nat → Int32} {i_sum : Int32} {i_flickers : Int32} {a_sumAt : Nat → Int32} {j_h : Int64} {post : Int32 → (Nat → Int32) → (Nat → Int32) → Prop} {KE : Prop} {x3 : Int32} {x4 : Int32} {x5 : Int32} (X : kC p R s m args meth c cX10_addParting RX10 7 none 1) (hK : va_K D vwCl (tyM cA) s) (hE : KE → ∀ (ls : Array Slot) (H : Heap) (locs : List Loc), lv_has ls 7 [(0, .ref (q 0)), (3, .int x3), (4, .int x4), (5, .int x5)] → va_P D vwCl (wM q cA i_pageLength a_page i_states i_columns a_entries i_signals a_signalAt i_walksAt i_turned i_changed i_read i_newRows i_newEntries i_newColumns i_greatest a_newAt i_partings a_lowSet a_highSet i_leastMany a_leastAt a_tried a_keptLow a_keptHigh i_laid a_wants i_wide a_wideAsked a_wideOnes i_sum i_flickers a_sumAt j_h) H → va_D A (wM q cA i_pageLength a_page i_states i_columns a_entries i_signals a_signalAt i_walksAt i_turned i_changed i_read i_newRows i_newEntries i_newColumns i_greatest a_newAt i_partings a_lowSet a_highSet i_leastMany a_leastAt a_tried a_keptLow a_keptHigh i_laid a_wants i_wide a_wideAsked a_wideOnes i_sum i_flickers a_sumAt j_h) → va_S A s.heap H locs → W p l e R s m args below meth c H locs 0 0 (MQ below (qWv (Z_X10_addParting D q cA i_pageLength a_page i_states i_columns a_entries i_signals a_signalAt i_walksAt i_turned i_changed i_read i_newRows i_newEntries i_newColumns i_greatest a_newAt i_leastMany a_leastAt a_tried a_keptLow a_keptHigh i_laid a_wants i_wide a_wideAsked a_wideOnes i_sum i_flickers a_sumAt j_h post) A) args s 0 0 A) (F0 m 68 ls [])) : ∀ (n : Nat) (x6 : Int32), w_X10_addParting_29 post KE i_partings a_lowSet a_highSet x3 x4 n x6 → ∀ (ls : Array Slot) (H : Heap) (locs : List Loc), lv_has ls 7 [(0, .ref (q 0)), (3, .int x3), (4, .int x4), (5, .int x5), (6, .int x6)] → va_P D vwCl (wM q cA i_pageLength a_page i_states i_columns a_entries i_signals a_signalAt i_walksAt i_turned i_changed i_read i_newRows i_newEntries i_newColumns i_greatest a_newAt i_partings a_lowSet a_highSet i_leastMany a_leastAt a_tried a_keptLow a_keptHigh i_laid a_wants i_wide a_wideAsked a_wideOnes i_sum i_flickers a_sumAt j_h) H → va_D A (wM q cA i_pageLength a_page i_states i_columns a_entries i_signals a_signalAt i_walksAt i_turned i_changed i_read i_newRows i_newEntries i_newColumns i_greatest a_newAt i_partings a_lowSet a_highSet i_leastMany a_leastAt a_tried a_keptLow a_keptHigh i_laid a_wants i_wide a_wideAsked a_wideOnes i_sum i_flickers a_sumAt j_h) → va_S A s.heap H locs → W p l e R s m args below meth c H locs 0 0 (MQ below (qWv (Z_X10_addParting D q cA i_pageLength a_page i_states i_columns a_entries i_signals a_signalAt i_walksAt i_turned i_changed i_read i_newRows i_newEntries i_newColumns i_greatest a_newAt i_leastMany a_leastAt a_tried a_keptLow a_keptHigh i_laid a_wants i_wide a_wideAsked a_wideOnes i_sum i_flickers a_sumAt j_h post) A) args s 0 0 A) (F0 m 29 ls []) := by
  obtain ⟨hx, hb, hml, hown, hts, hr, hlocks, hRf, hRl⟩ := id X
  intro n
  induction n with
  | zero => intro x6 hw; exact (show False from hw).elim
  | succ n ih =>
    intro x6 hw ls H locs hl hP hD hS
    refine lv_iload hx hb dX10_addParting_29 (lv_at hl 4 rfl) ?_
    refine lv_aload_n hx hb dX10_addParting_31 rfl (lv_at hl 0 rfl) ?_
    refine gRX10_133 hx hb hown hts hK hP dX10_addParting_32 ?_
    refine lv_icmp_ge (tgt := 68) hx hb dX10_addParting_35 (by decide) (fun c_3 => ?_) (fun c_3 => ?_)
    · have hw := hw.1 c_3
      exact hE hw ls _ _ (lv_sub hl [0, 1, 2, 3] rfl) hP hD hS
    · have hw := hw.2 c_3
      refine lv_iload_n hx hb dX10_addParting_38 rfl (lv_at hl 1 rfl) ?_
      refine lv_iload hx hb dX10_addParting_39 (lv_at hl 2 rfl) ?_
      refine lv_aload_n hx hb dX10_addParting_41 rfl (lv_at hl 0 rfl) ?_
      refine gRX10_26 hx hb hown hts hK hP dX10_addParting_42 ?_
      refine lv_iload hx hb dX10_addParting_45 (lv_at hl 4 rfl) ?_
      have h_4 := hw.1
      have hw := hw.2
      refine ld_a_lowSet hx hb hK hP h_4 dX10_addParting_47 ?_
      refine lv_aload_n hx hb dX10_addParting_48 rfl (lv_at hl 0 rfl) ?_
      refine gRX10_29 hx hb hown hts hK hP dX10_addParting_49 ?_
      refine lv_iload hx hb dX10_addParting_52 (lv_at hl 4 rfl) ?_
      have h_5 := hw.1
      have hw := hw.2
      refine ld_a_highSet hx hb hK hP h_5 dX10_addParting_54 ?_
      refine ro_i (va_runS (As := [.int x3, .int x4, .int (a_lowSet x6.toNatClampNeg), .int (a_highSet x6.toNatClampNeg)]) (rest := []) ⟨hx, hb, hml, hown, hts⟩ (c_X10_isIn l hw) (kRX10_140 (h := 0) hts (Nat.le_trans (Nat.le_of_ble_eq_true rfl) hRf) (Nat.le_trans (Nat.le_of_ble_eq_true rfl) hRl)) pre_0 rfl rfl hl.1 rfl (lv_room (Nat.le_of_ble_eq_true rfl)) dX10_addParting_55 ⟨Nat.zero_le _, Nat.zero_le _⟩) (fun r_6 hw => ?_)
      refine lv_if_eq (tgt := 62) hx hb dX10_addParting_58 (by decide) (fun c_7 => ?_) (fun c_7 => ?_)
      · have hw := hw.1 c_7
        obtain ⟨x6_8, e_8⟩ : ∃ z : Int32, z = x6 + (1 : Int32) := ⟨_, rfl⟩
        have hw := hw x6_8 e_8
        refine lv_iinc (v := x6_8) (lv' := [(6, .int x6_8), (0, .ref (q 0)), (3, .int x3), (4, .int x4), (5, .int x5)]) hx hb dX10_addParting_62 hl (k := 4) rfl (by rw [e_8]; rfl) (by decide) rfl (fun ls hl => ?_)
        refine lv_goto (tgt := 29) hx hb dX10_addParting_65 (by decide) ?_
        exact ih _ hw ls _ _ (lv_sub hl [1, 2, 3, 4, 0] rfl) hP hD hS
      · have hw := hw.2 c_7
        exact rw_v hx hb hr hlocks (fun t ht => ⟨i_partings, a_lowSet, a_highSet, hw, by rw [ht]; exact hP⟩) hS dX10_addParting_61
set_option maxHeartbeats 4000000 in
set_option maxRecDepth 100000 in
theorem t_X10_addParting_71 {p : Program} {l : Launch} {e : Env} {R : Room} {s : State} {m : MethodId} {args : Array Value} {below : List Frame} {meth : Method} {c : Code} {A : Nat → Prop} {D : va_G} {q : Nat → Nat} {cA : Nat → ClassId} {i_pageLength : Int32} {a_page : Nat → Int32} {i_states : Int32} {i_columns : Int32} {a_entries : Nat → Int32} {i_signals : Int32} {a_signalAt : Nat → Int32} {i_walksAt : Int32} {i_turned : Int32} {i_changed : Int32} {i_read : Int32} {i_newRows : Int32} {i_newEntries : Int32} {i_newColumns : Int32} {i_greatest : Int32} {a_newAt : Nat → Int32} {i_partings : Int32} {i_leastMany : Int32} {a_leastAt : Nat → Int32} {a_tried : Nat → Int32} {a_keptLow : Nat → Int64} {a_keptHigh : Nat → Int64} {i_laid : Int32} {a_wants : Nat → Int32} {i_wide : Int32} {a_wideAsked : Nat → Int32} {a_wideOnes : Nat → Int32} {i_sum : Int32} {i_flickers : Int32} {a_sumAt : Nat → Int32} {j_h : Int64} {post : Int32 → (Nat → Int32) → (Nat → Int32) → Prop} {KE : Int32 → (Nat → Int32) → (Nat → Int32) → Prop} {x3 : Int32} {x4 : Int32} (X : kC p R s m args meth c cX10_addParting RX10 7 none 1) (hK : va_K D vwCl (tyM cA) s) (hE : ∀ (x5 : Int32) (a_lowSet : Nat → Int32) (a_highSet : Nat → Int32), KE x5 a_lowSet a_highSet → ∀ (ls : Array Slot) (H : Heap) (locs : List Loc), lv_has ls 7 [(0, .ref (q 0)), (3, .int x3), (4, .int x4), (5, .int x5)] → va_P D vwCl (wM q cA i_pageLength a_page i_states i_columns a_entries i_signals a_signalAt i_walksAt i_turned i_changed i_read i_newRows i_newEntries i_newColumns i_greatest a_newAt i_partings a_lowSet a_highSet i_leastMany a_leastAt a_tried a_keptLow a_keptHigh i_laid a_wants i_wide a_wideAsked a_wideOnes i_sum i_flickers a_sumAt j_h) H → va_D A (wM q cA i_pageLength a_page i_states i_columns a_entries i_signals a_signalAt i_walksAt i_turned i_changed i_read i_newRows i_newEntries i_newColumns i_greatest a_newAt i_partings a_lowSet a_highSet i_leastMany a_leastAt a_tried a_keptLow a_keptHigh i_laid a_wants i_wide a_wideAsked a_wideOnes i_sum i_flickers a_sumAt j_h) → va_S A s.heap H locs → W p l e R s m args below meth c H locs 0 0 (MQ below (qWv (Z_X10_addParting D q cA i_pageLength a_page i_states i_columns a_entries i_signals a_signalAt i_walksAt i_turned i_changed i_read i_newRows i_newEntries i_newColumns i_greatest a_newAt i_leastMany a_leastAt a_tried a_keptLow a_keptHigh i_laid a_wants i_wide a_wideAsked a_wideOnes i_sum i_flickers a_sumAt j_h post) A) args s 0 0 A) (F0 m 140 ls [])) : ∀ (n : Nat) (x5 : Int32) (x6 : Int32) (a_lowSet : Nat → Int32) (a_highSet : Nat → Int32), w_X10_addParting_71 KE i_partings x3 x4 n x5 x6 a_lowSet a_highSet → ∀ (ls : Array Slot) (H : Heap) (locs : List Loc), lv_has ls 7 [(0, .ref (q 0)), (3, .int x3), (4, .int x4), (5, .int x5), (6, .int x6)] → va_P D vwCl (wM q cA i_pageLength a_page i_states i_columns a_entries i_signals a_signalAt i_walksAt i_turned i_changed i_read i_newRows i_newEntries i_newColumns i_greatest a_newAt i_partings a_lowSet a_highSet i_leastMany a_leastAt a_tried a_keptLow a_keptHigh i_laid a_wants i_wide a_wideAsked a_wideOnes i_sum i_flickers a_sumAt j_h) H → va_D A (wM q cA i_pageLength a_page i_states i_columns a_entries i_signals a_signalAt i_walksAt i_turned i_changed i_read i_newRows i_newEntries i_newColumns i_greatest a_newAt i_partings a_lowSet a_highSet i_leastMany a_leastAt a_tried a_keptLow a_keptHigh i_laid a_wants i_wide a_wideAsked a_wideOnes i_sum i_flickers a_sumAt j_h) → va_S A s.heap H locs → W p l e R s m args below meth c H locs 0 0 (MQ below (qWv (Z_X10_addParting D q cA i_pageLength a_page i_states i_columns a_entries i_signals a_signalAt i_walksAt i_turned i_changed i_read i_newRows i_newEntries i_newColumns i_greatest a_newAt i_leastMany a_leastAt a_tried a_keptLow a_keptHigh i_laid a_wants i_wide a_wideAsked a_wideOnes i_sum i_flickers a_sumAt j_h post) A) args s 0 0 A) (F0 m 71 ls []) := by
  obtain ⟨hx, hb, hml, hown, hts, hr, hlocks, hRf, hRl⟩ := id X
  intro n
  induction n with
  | zero => intro x5 x6 a_lowSet a_highSet hw; exact (show False from hw).elim
  | succ n ih =>
    intro x5 x6 a_lowSet a_highSet hw ls H locs hl hP hD hS
    refine lv_iload hx hb dX10_addParting_71 (lv_at hl 4 rfl) ?_
    refine lv_aload_n hx hb dX10_addParting_73 rfl (lv_at hl 0 rfl) ?_
    refine gRX10_133 hx hb hown hts hK hP dX10_addParting_74 ?_
    refine lv_icmp_ge (tgt := 140) hx hb dX10_addParting_77 (by decide) (fun c_10 => ?_) (fun c_10 => ?_)
    · have hw := hw.1 c_10
      exact hE _ _ _ hw ls _ _ (lv_sub hl [0, 1, 2, 3] rfl) hP hD hS
    · have hw := hw.2 c_10
      refine lv_aload_n hx hb dX10_addParting_80 rfl (lv_at hl 0 rfl) ?_
      refine gRX10_26 hx hb hown hts hK hP dX10_addParting_81 ?_
      refine lv_iload hx hb dX10_addParting_84 (lv_at hl 4 rfl) ?_
      have h_11 := hw.1
      have hw := hw.2
      refine ld_a_lowSet hx hb hK hP h_11 dX10_addParting_86 ?_
      refine lv_aload_n hx hb dX10_addParting_87 rfl (lv_at hl 0 rfl) ?_
      refine gRX10_29 hx hb hown hts hK hP dX10_addParting_88 ?_
      refine lv_iload hx hb dX10_addParting_91 (lv_at hl 4 rfl) ?_
      have h_12 := hw.1
      have hw := hw.2
      refine ld_a_highSet hx hb hK hP h_12 dX10_addParting_93 ?_
      refine lv_iload_n hx hb dX10_addParting_94 rfl (lv_at hl 1 rfl) ?_
      refine lv_iload hx hb dX10_addParting_95 (lv_at hl 2 rfl) ?_
      refine ro_i (va_runS (As := [.int (a_lowSet x6.toNatClampNeg), .int (a_highSet x6.toNatClampNeg), .int x3, .int x4]) (rest := []) ⟨hx, hb, hml, hown, hts⟩ (c_X10_isIn l hw) (kRX10_140 (h := 0) hts (Nat.le_trans (Nat.le_of_ble_eq_true rfl) hRf) (Nat.le_trans (Nat.le_of_ble_eq_true rfl) hRl)) pre_0 rfl rfl hl.1 rfl (lv_room (Nat.le_of_ble_eq_true rfl)) dX10_addParting_97 ⟨Nat.zero_le _, Nat.zero_le _⟩) (fun r_13 hw => ?_)
      refine lv_if_ne (tgt := 134) hx hb dX10_addParting_100 (by decide) (fun c_14 => ?_) (fun c_14 => ?_)
      · have hw := hw.2 c_14
        obtain ⟨x6_15, e_15⟩ : ∃ z : Int32, z = x6 + (1 : Int32) := ⟨_, rfl⟩
        have hw := hw x6_15 e_15
        refine lv_iinc (v := x6_15) (lv' := [(6, .int x6_15), (0, .ref (q 0)), (3, .int x3), (4, .int x4), (5, .int x5)]) hx hb dX10_addParting_134 hl (k := 4) rfl (by rw [e_15]; rfl) (by decide) rfl (fun ls hl => ?_)
        refine lv_goto (tgt := 71) hx hb dX10_addParting_137 (by decide) ?_
        exact ih _ _ _ _ hw ls _ _ (lv_sub hl [1, 2, 3, 4, 0] rfl) hP hD hS
      · have hw := hw.1 c_14
        refine lv_aload_n hx hb dX10_addParting_103 rfl (lv_at hl 0 rfl) ?_
        refine gRX10_26 hx hb hown hts hK hP dX10_addParting_104 ?_
        refine lv_iload hx hb dX10_addParting_107 (lv_at hl 3 rfl) ?_
        refine lv_aload_n hx hb dX10_addParting_109 rfl (lv_at hl 0 rfl) ?_
        refine gRX10_26 hx hb hown hts hK hP dX10_addParting_110 ?_
        refine lv_iload hx hb dX10_addParting_113 (lv_at hl 4 rfl) ?_
        have h_16 := hw.1
        have hw := hw.2
        refine ld_a_lowSet hx hb hK hP h_16 dX10_addParting_115 ?_
        have h_17 := hw.1
        have hw := hw.2
        refine st_a_lowSet hx hb hK hP hD hS h_17 dX10_addParting_116 (fun H locs a_17 e_17 hP hD hS => ?_)
        have hw := hw a_17 e_17
        refine lv_aload_n hx hb dX10_addParting_117 rfl (lv_at hl 0 rfl) ?_
        refine gRX10_29 hx hb hown hts hK hP dX10_addParting_118 ?_
        refine lv_iload hx hb dX10_addParting_121 (lv_at hl 3 rfl) ?_
        refine lv_aload_n hx hb dX10_addParting_123 rfl (lv_at hl 0 rfl) ?_
        refine gRX10_29 hx hb hown hts hK hP dX10_addParting_124 ?_
        refine lv_iload hx hb dX10_addParting_127 (lv_at hl 4 rfl) ?_
        have h_18 := hw.1
        have hw := hw.2
        refine ld_a_highSet hx hb hK hP h_18 dX10_addParting_129 ?_
        have h_19 := hw.1
        have hw := hw.2
        refine st_a_highSet hx hb hK hP hD hS h_19 dX10_addParting_130 (fun H locs a_19 e_19 hP hD hS => ?_)
        have hw := hw a_19 e_19
        obtain ⟨x5_20, e_20⟩ : ∃ z : Int32, z = x5 + (1 : Int32) := ⟨_, rfl⟩
        have hw := hw x5_20 e_20
        refine lv_iinc (v := x5_20) (lv' := [(5, .int x5_20), (0, .ref (q 0)), (3, .int x3), (4, .int x4), (6, .int x6)]) hx hb dX10_addParting_131 hl (k := 3) rfl (by rw [e_20]; rfl) (by decide) rfl (fun ls hl => ?_)
        obtain ⟨x6_21, e_21⟩ : ∃ z : Int32, z = x6 + (1 : Int32) := ⟨_, rfl⟩
        have hw := hw x6_21 e_21
        refine lv_iinc (v := x6_21) (lv' := [(6, .int x6_21), (5, .int x5_20), (0, .ref (q 0)), (3, .int x3), (4, .int x4)]) hx hb dX10_addParting_134 hl (k := 4) rfl (by rw [e_21]; rfl) (by decide) rfl (fun ls hl => ?_)
        refine lv_goto (tgt := 71) hx hb dX10_addParting_137 (by decide) ?_
        exact ih _ _ _ _ hw ls _ _ (lv_sub hl [2, 3, 4, 1, 0] rfl) hP hD hS
set_option maxHeartbeats 4000000 in
set_option maxRecDepth 100000 in
theorem t_X10_addParting_189 {p : Program} {l : Launch} {e : Env} {R : Room} {s : State} {m : MethodId} {args : Array Value} {below : List Frame} {meth : Method} {c : Code} {A : Nat → Prop} {D : va_G} {q : Nat → Nat} {cA : Nat → ClassId} {i_pageLength : Int32} {a_page : Nat → Int32} {i_states : Int32} {i_columns : Int32} {a_entries : Nat → Int32} {i_signals : Int32} {a_signalAt : Nat → Int32} {i_walksAt : Int32} {i_turned : Int32} {i_changed : Int32} {i_read : Int32} {i_newRows : Int32} {i_newEntries : Int32} {i_newColumns : Int32} {i_greatest : Int32} {a_newAt : Nat → Int32} {i_partings : Int32} {a_lowSet : Nat → Int32} {a_highSet : Nat → Int32} {i_leastMany : Int32} {a_leastAt : Nat → Int32} {a_tried : Nat → Int32} {a_keptLow : Nat → Int64} {a_keptHigh : Nat → Int64} {i_laid : Int32} {a_wants : Nat → Int32} {i_wide : Int32} {a_wideAsked : Nat → Int32} {a_wideOnes : Nat → Int32} {i_sum : Int32} {i_flickers : Int32} {a_sumAt : Nat → Int32} {j_h : Int64} {post : Int32 → (Nat → Int32) → (Nat → Int32) → Prop} {KL : Int32 → (Nat → Int32) → (Nat → Int32) → Prop} {x3 : Int32} {x4 : Int32} {x5 : Int32} {x6 : Int32} (X : kC p R s m args meth c cX10_addParting RX10 7 none 1) (hK : va_K D vwCl (tyM cA) s) (hL : ∀ (x6 : Int32) (a_lowSet : Nat → Int32) (a_highSet : Nat → Int32), KL x6 a_lowSet a_highSet → ∀ (ls : Array Slot) (H : Heap) (locs : List Loc), lv_has ls 7 [(0, .ref (q 0)), (3, .int x3), (4, .int x4), (5, .int x5), (6, .int x6)] → va_P D vwCl (wM q cA i_pageLength a_page i_states i_columns a_entries i_signals a_signalAt i_walksAt i_turned i_changed i_read i_newRows i_newEntries i_newColumns i_greatest a_newAt i_partings a_lowSet a_highSet i_leastMany a_leastAt a_tried a_keptLow a_keptHigh i_laid a_wants i_wide a_wideAsked a_wideOnes i_sum i_flickers a_sumAt j_h) H → va_D A (wM q cA i_pageLength a_page i_states i_columns a_entries i_signals a_signalAt i_walksAt i_turned i_changed i_read i_newRows i_newEntries i_newColumns i_greatest a_newAt i_partings a_lowSet a_highSet i_leastMany a_leastAt a_tried a_keptLow a_keptHigh i_laid a_wants i_wide a_wideAsked a_wideOnes i_sum i_flickers a_sumAt j_h) → va_S A s.heap H locs → W p l e R s m args below meth c H locs 0 0 (MQ below (qWv (Z_X10_addParting D q cA i_pageLength a_page i_states i_columns a_entries i_signals a_signalAt i_walksAt i_turned i_changed i_read i_newRows i_newEntries i_newColumns i_greatest a_newAt i_leastMany a_leastAt a_tried a_keptLow a_keptHigh i_laid a_wants i_wide a_wideAsked a_wideOnes i_sum i_flickers a_sumAt j_h post) A) args s 0 0 A) (F0 m 144 ls [])) (hw : j_X10_addParting_189 KL a_lowSet a_highSet x6) (ls : Array Slot) (H : Heap) (locs : List Loc) (hl : lv_has ls 7 [(0, .ref (q 0)), (3, .int x3), (4, .int x4), (5, .int x5), (6, .int x6)]) (hP : va_P D vwCl (wM q cA i_pageLength a_page i_states i_columns a_entries i_signals a_signalAt i_walksAt i_turned i_changed i_read i_newRows i_newEntries i_newColumns i_greatest a_newAt i_partings a_lowSet a_highSet i_leastMany a_leastAt a_tried a_keptLow a_keptHigh i_laid a_wants i_wide a_wideAsked a_wideOnes i_sum i_flickers a_sumAt j_h) H) (hD : va_D A (wM q cA i_pageLength a_page i_states i_columns a_entries i_signals a_signalAt i_walksAt i_turned i_changed i_read i_newRows i_newEntries i_newColumns i_greatest a_newAt i_partings a_lowSet a_highSet i_leastMany a_leastAt a_tried a_keptLow a_keptHigh i_laid a_wants i_wide a_wideAsked a_wideOnes i_sum i_flickers a_sumAt j_h)) (hS : va_S A s.heap H locs) : W p l e R s m args below meth c H locs 0 0 (MQ below (qWv (Z_X10_addParting D q cA i_pageLength a_page i_states i_columns a_entries i_signals a_signalAt i_walksAt i_turned i_changed i_read i_newRows i_newEntries i_newColumns i_greatest a_newAt i_leastMany a_leastAt a_tried a_keptLow a_keptHigh i_laid a_wants i_wide a_wideAsked a_wideOnes i_sum i_flickers a_sumAt j_h post) A) args s 0 0 A) (F0 m 189 ls []) := by
  obtain ⟨hx, hb, hml, hown, hts, hr, hlocks, hRf, hRl⟩ := id X
  refine lv_aload_n hx hb dX10_addParting_189 rfl (lv_at hl 0 rfl) ?_
  refine gRX10_26 hx hb hown hts hK hP dX10_addParting_190 ?_
  refine lv_iload hx hb dX10_addParting_193 (lv_at hl 4 rfl) ?_
  refine lv_aload_n hx hb dX10_addParting_195 rfl (lv_at hl 0 rfl) ?_
  refine gRX10_26 hx hb hown hts hK hP dX10_addParting_196 ?_
  refine lv_iload hx hb dX10_addParting_199 (lv_at hl 4 rfl) ?_
  refine lv_iconst (v := (1 : Int32)) hx hb dX10_addParting_201 (by decide) ?_
  refine lv_isub hx hb dX10_addParting_202 ?_
  have h_26 := hw.1
  have hw := hw.2
  refine ld_a_lowSet hx hb hK hP h_26 dX10_addParting_203 ?_
  have h_27 := hw.1
  have hw := hw.2
  refine st_a_lowSet hx hb hK hP hD hS h_27 dX10_addParting_204 (fun H locs a_27 e_27 hP hD hS => ?_)
  have hw := hw a_27 e_27
  refine lv_aload_n hx hb dX10_addParting_205 rfl (lv_at hl 0 rfl) ?_
  refine gRX10_29 hx hb hown hts hK hP dX10_addParting_206 ?_
  refine lv_iload hx hb dX10_addParting_209 (lv_at hl 4 rfl) ?_
  refine lv_aload_n hx hb dX10_addParting_211 rfl (lv_at hl 0 rfl) ?_
  refine gRX10_29 hx hb hown hts hK hP dX10_addParting_212 ?_
  refine lv_iload hx hb dX10_addParting_215 (lv_at hl 4 rfl) ?_
  refine lv_iconst (v := (1 : Int32)) hx hb dX10_addParting_217 (by decide) ?_
  refine lv_isub hx hb dX10_addParting_218 ?_
  have h_28 := hw.1
  have hw := hw.2
  refine ld_a_highSet hx hb hK hP h_28 dX10_addParting_219 ?_
  have h_29 := hw.1
  have hw := hw.2
  refine st_a_highSet hx hb hK hP hD hS h_29 dX10_addParting_220 (fun H locs a_29 e_29 hP hD hS => ?_)
  have hw := hw a_29 e_29
  obtain ⟨x6_30, e_30⟩ : ∃ z : Int32, z = x6 + ((-1) : Int32) := ⟨_, rfl⟩
  have hw := hw x6_30 e_30
  refine lv_iinc (v := x6_30) (lv' := [(6, .int x6_30), (0, .ref (q 0)), (3, .int x3), (4, .int x4), (5, .int x5)]) hx hb dX10_addParting_221 hl (k := 4) rfl (by rw [e_30]; rfl) (by decide) rfl (fun ls hl => ?_)
  refine lv_goto (tgt := 144) hx hb dX10_addParting_224 (by decide) ?_
  exact hL _ _ _ hw ls _ _ (lv_sub hl [1, 2, 3, 4, 0] rfl) hP hD hS
set_option maxHeartbeats 4000000 in
set_option maxRecDepth 100000 in
theorem t_X10_addParting_144 {p : Program} {l : Launch} {e : Env} {R : Room} {s : State} {m : MethodId} {args : Array Value} {below : List Frame} {meth : Method} {c : Code} {A : Nat → Prop} {D : va_G} {q : Nat → Nat} {cA : Nat → ClassId} {i_pageLength : Int32} {a_page : Nat → Int32} {i_states : Int32} {i_columns : Int32} {a_entries : Nat → Int32} {i_signals : Int32} {a_signalAt : Nat → Int32} {i_walksAt : Int32} {i_turned : Int32} {i_changed : Int32} {i_read : Int32} {i_newRows : Int32} {i_newEntries : Int32} {i_newColumns : Int32} {i_greatest : Int32} {a_newAt : Nat → Int32} {i_partings : Int32} {i_leastMany : Int32} {a_leastAt : Nat → Int32} {a_tried : Nat → Int32} {a_keptLow : Nat → Int64} {a_keptHigh : Nat → Int64} {i_laid : Int32} {a_wants : Nat → Int32} {i_wide : Int32} {a_wideAsked : Nat → Int32} {a_wideOnes : Nat → Int32} {i_sum : Int32} {i_flickers : Int32} {a_sumAt : Nat → Int32} {j_h : Int64} {post : Int32 → (Nat → Int32) → (Nat → Int32) → Prop} {KE : Int32 → (Nat → Int32) → (Nat → Int32) → Prop} {x3 : Int32} {x4 : Int32} {x5 : Int32} (X : kC p R s m args meth c cX10_addParting RX10 7 none 1) (hK : va_K D vwCl (tyM cA) s) (hE : ∀ (x6 : Int32) (a_lowSet : Nat → Int32) (a_highSet : Nat → Int32), KE x6 a_lowSet a_highSet → ∀ (ls : Array Slot) (H : Heap) (locs : List Loc), lv_has ls 7 [(0, .ref (q 0)), (3, .int x3), (4, .int x4), (5, .int x5), (6, .int x6)] → va_P D vwCl (wM q cA i_pageLength a_page i_states i_columns a_entries i_signals a_signalAt i_walksAt i_turned i_changed i_read i_newRows i_newEntries i_newColumns i_greatest a_newAt i_partings a_lowSet a_highSet i_leastMany a_leastAt a_tried a_keptLow a_keptHigh i_laid a_wants i_wide a_wideAsked a_wideOnes i_sum i_flickers a_sumAt j_h) H → va_D A (wM q cA i_pageLength a_page i_states i_columns a_entries i_signals a_signalAt i_walksAt i_turned i_changed i_read i_newRows i_newEntries i_newColumns i_greatest a_newAt i_partings a_lowSet a_highSet i_leastMany a_leastAt a_tried a_keptLow a_keptHigh i_laid a_wants i_wide a_wideAsked a_wideOnes i_sum i_flickers a_sumAt j_h) → va_S A s.heap H locs → W p l e R s m args below meth c H locs 0 0 (MQ below (qWv (Z_X10_addParting D q cA i_pageLength a_page i_states i_columns a_entries i_signals a_signalAt i_walksAt i_turned i_changed i_read i_newRows i_newEntries i_newColumns i_greatest a_newAt i_leastMany a_leastAt a_tried a_keptLow a_keptHigh i_laid a_wants i_wide a_wideAsked a_wideOnes i_sum i_flickers a_sumAt j_h post) A) args s 0 0 A) (F0 m 227 ls [])) : ∀ (n : Nat) (x6 : Int32) (a_lowSet : Nat → Int32) (a_highSet : Nat → Int32), w_X10_addParting_144 KE x3 x4 n x6 a_lowSet a_highSet → ∀ (ls : Array Slot) (H : Heap) (locs : List Loc), lv_has ls 7 [(0, .ref (q 0)), (3, .int x3), (4, .int x4), (5, .int x5), (6, .int x6)] → va_P D vwCl (wM q cA i_pageLength a_page i_states i_columns a_entries i_signals a_signalAt i_walksAt i_turned i_changed i_read i_newRows i_newEntries i_newColumns i_greatest a_newAt i_partings a_lowSet a_highSet i_leastMany a_leastAt a_tried a_keptLow a_keptHigh i_laid a_wants i_wide a_wideAsked a_wideOnes i_sum i_flickers a_sumAt j_h) H → va_D A (wM q cA i_pageLength a_page i_states i_columns a_entries i_signals a_signalAt i_walksAt i_turned i_changed i_read i_newRows i_newEntries i_newColumns i_greatest a_newAt i_partings a_lowSet a_highSet i_leastMany a_leastAt a_tried a_keptLow a_keptHigh i_laid a_wants i_wide a_wideAsked a_wideOnes i_sum i_flickers a_sumAt j_h) → va_S A s.heap H locs → W p l e R s m args below meth c H locs 0 0 (MQ below (qWv (Z_X10_addParting D q cA i_pageLength a_page i_states i_columns a_entries i_signals a_signalAt i_walksAt i_turned i_changed i_read i_newRows i_newEntries i_newColumns i_greatest a_newAt i_leastMany a_leastAt a_tried a_keptLow a_keptHigh i_laid a_wants i_wide a_wideAsked a_wideOnes i_sum i_flickers a_sumAt j_h post) A) args s 0 0 A) (F0 m 144 ls []) := by
  obtain ⟨hx, hb, hml, hown, hts, hr, hlocks, hRf, hRl⟩ := id X
  intro n
  induction n with
  | zero => intro x6 a_lowSet a_highSet hw; exact (show False from hw).elim
  | succ n ih =>
    intro x6 a_lowSet a_highSet hw ls H locs hl hP hD hS
    refine lv_iload hx hb dX10_addParting_144 (lv_at hl 4 rfl) ?_
    refine lv_if_le (tgt := 227) hx hb dX10_addParting_146 (by decide) (fun c_23 => ?_) (fun c_23 => ?_)
    · have hw := hw.1 c_23
      exact hE _ _ _ hw ls _ _ (lv_sub hl [0, 1, 2, 3, 4] rfl) hP hD hS
    · have hw := hw.2 c_23
      refine lv_aload_n hx hb dX10_addParting_149 rfl (lv_at hl 0 rfl) ?_
      refine gRX10_26 hx hb hown hts hK hP dX10_addParting_150 ?_
      refine lv_iload hx hb dX10_addParting_153 (lv_at hl 4 rfl) ?_
      refine lv_iconst (v := (1 : Int32)) hx hb dX10_addParting_155 (by decide) ?_
      refine lv_isub hx hb dX10_addParting_156 ?_
      have h_24 := hw.1
      have hw := hw.2
      refine ld_a_lowSet hx hb hK hP h_24 dX10_addParting_157 ?_
      refine lv_iload_n hx hb dX10_addParting_158 rfl (lv_at hl 1 rfl) ?_
      refine lv_icmp_gt (tgt := 189) hx hb dX10_addParting_159 (by decide) (fun c_25 => ?_) (fun c_25 => ?_)
      · have hw := hw.1 c_25
        exact t_X10_addParting_189 X hK ih hw ls _ _ (lv_sub hl [0, 1, 2, 3, 4] rfl) hP hD hS
      · have hw := hw.2 c_25
        refine lv_aload_n hx hb dX10_addParting_162 rfl (lv_at hl 0 rfl) ?_
        refine gRX10_26 hx hb hown hts hK hP dX10_addParting_163 ?_
        refine lv_iload hx hb dX10_addParting_166 (lv_at hl 4 rfl) ?_
        refine lv_iconst (v := (1 : Int32)) hx hb dX10_addParting_168 (by decide) ?_
        refine lv_isub hx hb dX10_addParting_169 ?_
        have h_31 := hw.1
        have hw := hw.2
        refine ld_a_lowSet hx hb hK hP h_31 dX10_addParting_170 ?_
        refine lv_iload_n hx hb dX10_addParting_171 rfl (lv_at hl 1 rfl) ?_
        refine lv_icmp_ne (tgt := 227) hx hb dX10_addParting_172 (by decide) (fun c_32 => ?_) (fun c_32 => ?_)
        · have hw := hw.2 c_32
          exact hE _ _ _ hw ls _ _ (lv_sub hl [0, 1, 2, 3, 4] rfl) hP hD hS
        · have hw := hw.1 c_32
          refine lv_aload_n hx hb dX10_addParting_175 rfl (lv_at hl 0 rfl) ?_
          refine gRX10_29 hx hb hown hts hK hP dX10_addParting_176 ?_
          refine lv_iload hx hb dX10_addParting_179 (lv_at hl 4 rfl) ?_
          refine lv_iconst (v := (1 : Int32)) hx hb dX10_addParting_181 (by decide) ?_
          refine lv_isub hx hb dX10_addParting_182 ?_
          have h_33 := hw.1
          have hw := hw.2
          refine ld_a_highSet hx hb hK hP h_33 dX10_addParting_183 ?_
          refine lv_iload hx hb dX10_addParting_184 (lv_at hl 2 rfl) ?_
          refine lv_icmp_le (tgt := 227) hx hb dX10_addParting_186 (by decide) (fun c_34 => ?_) (fun c_34 => ?_)
          · have hw := hw.1 c_34
            exact hE _ _ _ hw ls _ _ (lv_sub hl [0, 1, 2, 3, 4] rfl) hP hD hS
          · have hw := hw.2 c_34
            exact t_X10_addParting_189 X hK ih hw ls _ _ (lv_sub hl [0, 1, 2, 3, 4] rfl) hP hD hS
set_option maxHeartbeats 4000000 in
set_option maxRecDepth 100000 in
theorem t_X10_addParting_227 {p : Program} {l : Launch} {e : Env} {R : Room} {s : State} {m : MethodId} {args : Array Value} {below : List Frame} {meth : Method} {c : Code} {A : Nat → Prop} {D : va_G} {q : Nat → Nat} {cA : Nat → ClassId} {i_pageLength : Int32} {a_page : Nat → Int32} {i_states : Int32} {i_columns : Int32} {a_entries : Nat → Int32} {i_signals : Int32} {a_signalAt : Nat → Int32} {i_walksAt : Int32} {i_turned : Int32} {i_changed : Int32} {i_read : Int32} {i_newRows : Int32} {i_newEntries : Int32} {i_newColumns : Int32} {i_greatest : Int32} {a_newAt : Nat → Int32} {i_partings : Int32} {a_lowSet : Nat → Int32} {a_highSet : Nat → Int32} {i_leastMany : Int32} {a_leastAt : Nat → Int32} {a_tried : Nat → Int32} {a_keptLow : Nat → Int64} {a_keptHigh : Nat → Int64} {i_laid : Int32} {a_wants : Nat → Int32} {i_wide : Int32} {a_wideAsked : Nat → Int32} {a_wideOnes : Nat → Int32} {i_sum : Int32} {i_flickers : Int32} {a_sumAt : Nat → Int32} {j_h : Int64} {post : Int32 → (Nat → Int32) → (Nat → Int32) → Prop} {x3 : Int32} {x4 : Int32} {x5 : Int32} {x6 : Int32} (X : kC p R s m args meth c cX10_addParting RX10 7 none 1) (hK : va_K D vwCl (tyM cA) s) (hw : j_X10_addParting_227 post a_lowSet a_highSet x3 x4 x5 x6) (ls : Array Slot) (H : Heap) (locs : List Loc) (hl : lv_has ls 7 [(0, .ref (q 0)), (3, .int x3), (4, .int x4), (5, .int x5), (6, .int x6)]) (hP : va_P D vwCl (wM q cA i_pageLength a_page i_states i_columns a_entries i_signals a_signalAt i_walksAt i_turned i_changed i_read i_newRows i_newEntries i_newColumns i_greatest a_newAt i_partings a_lowSet a_highSet i_leastMany a_leastAt a_tried a_keptLow a_keptHigh i_laid a_wants i_wide a_wideAsked a_wideOnes i_sum i_flickers a_sumAt j_h) H) (hD : va_D A (wM q cA i_pageLength a_page i_states i_columns a_entries i_signals a_signalAt i_walksAt i_turned i_changed i_read i_newRows i_newEntries i_newColumns i_greatest a_newAt i_partings a_lowSet a_highSet i_leastMany a_leastAt a_tried a_keptLow a_keptHigh i_laid a_wants i_wide a_wideAsked a_wideOnes i_sum i_flickers a_sumAt j_h)) (hS : va_S A s.heap H locs) : W p l e R s m args below meth c H locs 0 0 (MQ below (qWv (Z_X10_addParting D q cA i_pageLength a_page i_states i_columns a_entries i_signals a_signalAt i_walksAt i_turned i_changed i_read i_newRows i_newEntries i_newColumns i_greatest a_newAt i_leastMany a_leastAt a_tried a_keptLow a_keptHigh i_laid a_wants i_wide a_wideAsked a_wideOnes i_sum i_flickers a_sumAt j_h post) A) args s 0 0 A) (F0 m 227 ls []) := by
  obtain ⟨hx, hb, hml, hown, hts, hr, hlocks, hRf, hRl⟩ := id X
  refine lv_aload_n hx hb dX10_addParting_227 rfl (lv_at hl 0 rfl) ?_
  refine gRX10_26 hx hb hown hts hK hP dX10_addParting_228 ?_
  refine lv_iload hx hb dX10_addParting_231 (lv_at hl 4 rfl) ?_
  refine lv_iload_n hx hb dX10_addParting_233 rfl (lv_at hl 1 rfl) ?_
  have h_36 := hw.1
  have hw := hw.2
  refine st_a_lowSet hx hb hK hP hD hS h_36 dX10_addParting_234 (fun H locs a_36 e_36 hP hD hS => ?_)
  have hw := hw a_36 e_36
  refine lv_aload_n hx hb dX10_addParting_235 rfl (lv_at hl 0 rfl) ?_
  refine gRX10_29 hx hb hown hts hK hP dX10_addParting_236 ?_
  refine lv_iload hx hb dX10_addParting_239 (lv_at hl 4 rfl) ?_
  refine lv_iload hx hb dX10_addParting_241 (lv_at hl 2 rfl) ?_
  have h_37 := hw.1
  have hw := hw.2
  refine st_a_highSet hx hb hK hP hD hS h_37 dX10_addParting_243 (fun H locs a_37 e_37 hP hD hS => ?_)
  have hw := hw a_37 e_37
  refine lv_aload_n hx hb dX10_addParting_244 rfl (lv_at hl 0 rfl) ?_
  refine lv_iload hx hb dX10_addParting_245 (lv_at hl 3 rfl) ?_
  refine lv_iconst (v := (1 : Int32)) hx hb dX10_addParting_247 (by decide) ?_
  refine lv_iadd hx hb dX10_addParting_248 ?_
  refine lv_topi (fun f_38 e_38 => ?_)
  have hw := hw f_38 e_38
  refine pRX10_133 hx hb hown hts hK hP hD hS dX10_addParting_249 (fun H locs hP hD hS => ?_)
  exact rw_v hx hb hr hlocks (fun t ht => ⟨f_38, a_36, a_37, hw, by rw [ht]; exact hP⟩) hS dX10_addParting_252
set_option maxHeartbeats 4000000 in
set_option maxRecDepth 100000 in
theorem c_X10_addParting (l : Launch) {D : va_G} {q : Nat → Nat} {cA : Nat → ClassId} {i_pageLength : Int32} {a_page : Nat → Int32} {i_states : Int32} {i_columns : Int32} {a_entries : Nat → Int32} {i_signals : Int32} {a_signalAt : Nat → Int32} {i_walksAt : Int32} {i_turned : Int32} {i_changed : Int32} {i_read : Int32} {i_newRows : Int32} {i_newEntries : Int32} {i_newColumns : Int32} {i_greatest : Int32} {a_newAt : Nat → Int32} {i_partings : Int32} {a_lowSet : Nat → Int32} {a_highSet : Nat → Int32} {i_leastMany : Int32} {a_leastAt : Nat → Int32} {a_tried : Nat → Int32} {a_keptLow : Nat → Int64} {a_keptHigh : Nat → Int64} {i_laid : Int32} {a_wants : Nat → Int32} {i_wide : Int32} {a_wideAsked : Nat → Int32} {a_wideOnes : Nat → Int32} {i_sum : Int32} {i_flickers : Int32} {a_sumAt : Nat → Int32} {j_h : Int64} {A : Nat → Prop} {post : Int32 → (Nat → Int32) → (Nat → Int32) → Prop} {x1 : Int32} {x2 : Int32} (hw : wp_X10_addParting post i_partings a_lowSet a_highSet x1 x2) : Met l yX10_addParting (Cond.code yX10_addParting cX10_addParting 7 none :: wsL_law) (rmH 1) (va_Pc [.ref (q 0), .int x1, .int x2] (fun U => va_P D vwCl (wM q cA i_pageLength a_page i_states i_columns a_entries i_signals a_signalAt i_walksAt i_turned i_changed i_read i_newRows i_newEntries i_newColumns i_greatest a_newAt i_partings a_lowSet a_highSet i_leastMany a_leastAt a_tried a_keptLow a_keptHigh i_laid a_wants i_wide a_wideAsked a_wideOnes i_sum i_flickers a_sumAt j_h) U.heap ∧ va_K D vwCl (tyM cA) U ∧ va_D A (wM q cA i_pageLength a_page i_states i_columns a_entries i_signals a_signalAt i_walksAt i_turned i_changed i_read i_newRows i_newEntries i_newColumns i_greatest a_newAt i_partings a_lowSet a_highSet i_leastMany a_leastAt a_tried a_keptLow a_keptHigh i_laid a_wants i_wide a_wideAsked a_wideOnes i_sum i_flickers a_sumAt j_h))) (qWv (Z_X10_addParting D q cA i_pageLength a_page i_states i_columns a_entries i_signals a_signalAt i_walksAt i_turned i_changed i_read i_newRows i_newEntries i_newColumns i_greatest a_newAt i_leastMany a_leastAt a_tried a_keptLow a_keptHigh i_laid a_wants i_wide a_wideAsked a_wideOnes i_sum i_flickers a_sumAt j_h post) A) 0 0 A := by
  refine Met.ofW (cc := cX10_addParting) (maxL := 7) (ret := none) (by decide) rfl ?_
  intro p e s m args below meth c s₁ B hml hv
  obtain ⟨rfl, hP, hK, hD⟩ := hv
  have X : kC p (headSpec (Cond.code yX10_addParting cX10_addParting 7 none :: wsL_law) (rmH 1)).room s m _ meth c cX10_addParting RX10 7 none 1 := ⟨B.exec, B.bytes, hml, findClass_of_methodNamed B.named, fun w h => atoms_spec (ws := Cond.code yX10_addParting cX10_addParting 7 none :: wsL_law) B.pre w (List.mem_cons_of_mem _ h), B.returns, B.notSynchronized, Nat.le_refl _, Nat.le_refl _⟩
  obtain ⟨hx, hb, hml, hown, hts, hr, hlocks, hRf, hRl⟩ := id X
  have hS : va_S A s.heap s.heap [] := va_S.rf
  have hl := lv_entry ([.ref (q 0), .int x1, .int x2]) (n := 7) (Nat.le_of_ble_eq_true rfl)
  rw [lg_entry_eq]
  generalize (lg_sl ([.ref (q 0), .int x1, .int x2]) ++ List.replicate (7 - (lg_sl ([.ref (q 0), .int x1, .int x2])).length) Slot.unset).toArray = ls at hl ⊢
  have hl : lv_has ls 7 [(0, .ref (q 0)), (1, .int x1), (2, .int x2)] := hl
  refine lv_iload_n hx hb dX10_addParting_0 rfl (lv_at hl 1 rfl) ?_
  refine lv_iload_n hx hb dX10_addParting_1 rfl (lv_at hl 2 rfl) ?_
  refine lv_icmp_ge (tgt := 9) hx hb dX10_addParting_2 (by decide) (fun c_1 => ?_) (fun c_1 => ?_)
  · have hw := hw.1 c_1
    refine lv_iload_n hx hb dX10_addParting_9 rfl (lv_at hl 2 rfl) ?_
    refine lv_istore_n (lv' := [(3, .int x2), (0, .ref (q 0)), (1, .int x1), (2, .int x2)]) hx hb dX10_addParting_10 rfl hl (by decide) rfl (fun ls hl => ?_)
    refine lv_iload_n hx hb dX10_addParting_11 rfl (lv_at hl 2 rfl) ?_
    refine lv_iload_n hx hb dX10_addParting_12 rfl (lv_at hl 3 rfl) ?_
    refine lv_icmp_ge (tgt := 20) hx hb dX10_addParting_13 (by decide) (fun c_2 => ?_) (fun c_2 => ?_)
    · have hw := hw.1 c_2
      refine lv_iload_n hx hb dX10_addParting_20 rfl (lv_at hl 2 rfl) ?_
      refine lv_istore (lv' := [(4, .int x1), (3, .int x2), (0, .ref (q 0)), (1, .int x1), (2, .int x2)]) hx hb dX10_addParting_21 hl (by decide) rfl (fun ls hl => ?_)
      refine lv_iconst (v := (0 : Int32)) hx hb dX10_addParting_23 (by decide) ?_
      refine lv_istore (lv' := [(5, .int (0 : Int32)), (4, .int x1), (3, .int x2), (0, .ref (q 0)), (1, .int x1), (2, .int x2)]) hx hb dX10_addParting_24 hl (by decide) rfl (fun ls hl => ?_)
      refine lv_iconst (v := (0 : Int32)) hx hb dX10_addParting_26 (by decide) ?_
      refine lv_istore (lv' := [(6, .int (0 : Int32)), (5, .int (0 : Int32)), (4, .int x1), (3, .int x2), (0, .ref (q 0)), (1, .int x1), (2, .int x2)]) hx hb dX10_addParting_27 hl (by decide) rfl (fun ls hl => ?_)
      obtain ⟨n_9, hw⟩ := hw
      refine t_X10_addParting_29 X hK (fun  hw ls H locs hl hP hD hS => ?_) n_9 _ hw ls _ _ (lv_sub hl [4, 3, 2, 1, 0] rfl) hP hD hS
      refine lv_iconst (v := (0 : Int32)) hx hb dX10_addParting_68 (by decide) ?_
      refine lv_istore (lv' := [(6, .int (0 : Int32)), (0, .ref (q 0)), (3, .int x2), (4, .int x1), (5, .int (0 : Int32))]) hx hb dX10_addParting_69 hl (by decide) rfl (fun ls hl => ?_)
      obtain ⟨n_22, hw⟩ := hw
      refine t_X10_addParting_71 X hK (fun x5_22 ylowSet_22 yhighSet_22 hw ls H locs hl hP hD hS => ?_) n_22 _ _ _ _ hw ls _ _ (lv_sub hl [1, 2, 3, 4, 0] rfl) hP hD hS
      refine lv_iload hx hb dX10_addParting_140 (lv_at hl 3 rfl) ?_
      refine lv_istore (lv' := [(6, .int x5_22), (0, .ref (q 0)), (3, .int x2), (4, .int x1), (5, .int x5_22)]) hx hb dX10_addParting_142 hl (by decide) rfl (fun ls hl => ?_)
      obtain ⟨n_35, hw⟩ := hw
      refine t_X10_addParting_144 X hK (fun x6_35 ylowSet_35 yhighSet_35 hw ls H locs hl hP hD hS => ?_) n_35 _ _ _ hw ls _ _ (lv_sub hl [1, 2, 3, 4, 0] rfl) hP hD hS
      exact t_X10_addParting_227 X hK hw ls _ _ (lv_sub hl [0, 1, 2, 3, 4] rfl) hP hD hS
    · have hw := hw.2 c_2
      refine lv_iload_n hx hb dX10_addParting_16 rfl (lv_at hl 3 rfl) ?_
      refine lv_goto (tgt := 21) hx hb dX10_addParting_17 (by decide) ?_
      refine lv_istore (lv' := [(4, .int x2), (3, .int x2), (0, .ref (q 0)), (1, .int x1), (2, .int x2)]) hx hb dX10_addParting_21 hl (by decide) rfl (fun ls hl => ?_)
      refine lv_iconst (v := (0 : Int32)) hx hb dX10_addParting_23 (by decide) ?_
      refine lv_istore (lv' := [(5, .int (0 : Int32)), (4, .int x2), (3, .int x2), (0, .ref (q 0)), (1, .int x1), (2, .int x2)]) hx hb dX10_addParting_24 hl (by decide) rfl (fun ls hl => ?_)
      refine lv_iconst (v := (0 : Int32)) hx hb dX10_addParting_26 (by decide) ?_
      refine lv_istore (lv' := [(6, .int (0 : Int32)), (5, .int (0 : Int32)), (4, .int x2), (3, .int x2), (0, .ref (q 0)), (1, .int x1), (2, .int x2)]) hx hb dX10_addParting_27 hl (by decide) rfl (fun ls hl => ?_)
      obtain ⟨n_39, hw⟩ := hw
      refine t_X10_addParting_29 X hK (fun  hw ls H locs hl hP hD hS => ?_) n_39 _ hw ls _ _ (lv_sub hl [4, 3, 2, 1, 0] rfl) hP hD hS
      refine lv_iconst (v := (0 : Int32)) hx hb dX10_addParting_68 (by decide) ?_
      refine lv_istore (lv' := [(6, .int (0 : Int32)), (0, .ref (q 0)), (3, .int x2), (4, .int x2), (5, .int (0 : Int32))]) hx hb dX10_addParting_69 hl (by decide) rfl (fun ls hl => ?_)
      obtain ⟨n_40, hw⟩ := hw
      refine t_X10_addParting_71 X hK (fun x5_40 ylowSet_40 yhighSet_40 hw ls H locs hl hP hD hS => ?_) n_40 _ _ _ _ hw ls _ _ (lv_sub hl [1, 2, 3, 4, 0] rfl) hP hD hS
      refine lv_iload hx hb dX10_addParting_140 (lv_at hl 3 rfl) ?_
      refine lv_istore (lv' := [(6, .int x5_40), (0, .ref (q 0)), (3, .int x2), (4, .int x2), (5, .int x5_40)]) hx hb dX10_addParting_142 hl (by decide) rfl (fun ls hl => ?_)
      obtain ⟨n_41, hw⟩ := hw
      refine t_X10_addParting_144 X hK (fun x6_41 ylowSet_41 yhighSet_41 hw ls H locs hl hP hD hS => ?_) n_41 _ _ _ hw ls _ _ (lv_sub hl [1, 2, 3, 4, 0] rfl) hP hD hS
      exact t_X10_addParting_227 X hK hw ls _ _ (lv_sub hl [0, 1, 2, 3, 4] rfl) hP hD hS
  · have hw := hw.2 c_1
    refine lv_iload_n hx hb dX10_addParting_5 rfl (lv_at hl 1 rfl) ?_
    refine lv_goto (tgt := 10) hx hb dX10_addParting_6 (by decide) ?_
    refine lv_istore_n (lv' := [(3, .int x1), (0, .ref (q 0)), (1, .int x1), (2, .int x2)]) hx hb dX10_addParting_10 rfl hl (by decide) rfl (fun ls hl => ?_)
    refine lv_iload_n hx hb dX10_addParting_11 rfl (lv_at hl 2 rfl) ?_
    refine lv_iload_n hx hb dX10_addParting_12 rfl (lv_at hl 3 rfl) ?_
    refine lv_icmp_ge (tgt := 20) hx hb dX10_addParting_13 (by decide) (fun c_42 => ?_) (fun c_42 => ?_)
    · have hw := hw.1 c_42
      refine lv_iload_n hx hb dX10_addParting_20 rfl (lv_at hl 2 rfl) ?_
      refine lv_istore (lv' := [(4, .int x1), (3, .int x1), (0, .ref (q 0)), (1, .int x1), (2, .int x2)]) hx hb dX10_addParting_21 hl (by decide) rfl (fun ls hl => ?_)
      refine lv_iconst (v := (0 : Int32)) hx hb dX10_addParting_23 (by decide) ?_
      refine lv_istore (lv' := [(5, .int (0 : Int32)), (4, .int x1), (3, .int x1), (0, .ref (q 0)), (1, .int x1), (2, .int x2)]) hx hb dX10_addParting_24 hl (by decide) rfl (fun ls hl => ?_)
      refine lv_iconst (v := (0 : Int32)) hx hb dX10_addParting_26 (by decide) ?_
      refine lv_istore (lv' := [(6, .int (0 : Int32)), (5, .int (0 : Int32)), (4, .int x1), (3, .int x1), (0, .ref (q 0)), (1, .int x1), (2, .int x2)]) hx hb dX10_addParting_27 hl (by decide) rfl (fun ls hl => ?_)
      obtain ⟨n_43, hw⟩ := hw
      refine t_X10_addParting_29 X hK (fun  hw ls H locs hl hP hD hS => ?_) n_43 _ hw ls _ _ (lv_sub hl [4, 3, 2, 1, 0] rfl) hP hD hS
      refine lv_iconst (v := (0 : Int32)) hx hb dX10_addParting_68 (by decide) ?_
      refine lv_istore (lv' := [(6, .int (0 : Int32)), (0, .ref (q 0)), (3, .int x1), (4, .int x1), (5, .int (0 : Int32))]) hx hb dX10_addParting_69 hl (by decide) rfl (fun ls hl => ?_)
      obtain ⟨n_44, hw⟩ := hw
      refine t_X10_addParting_71 X hK (fun x5_44 ylowSet_44 yhighSet_44 hw ls H locs hl hP hD hS => ?_) n_44 _ _ _ _ hw ls _ _ (lv_sub hl [1, 2, 3, 4, 0] rfl) hP hD hS
      refine lv_iload hx hb dX10_addParting_140 (lv_at hl 3 rfl) ?_
      refine lv_istore (lv' := [(6, .int x5_44), (0, .ref (q 0)), (3, .int x1), (4, .int x1), (5, .int x5_44)]) hx hb dX10_addParting_142 hl (by decide) rfl (fun ls hl => ?_)
      obtain ⟨n_45, hw⟩ := hw
      refine t_X10_addParting_144 X hK (fun x6_45 ylowSet_45 yhighSet_45 hw ls H locs hl hP hD hS => ?_) n_45 _ _ _ hw ls _ _ (lv_sub hl [1, 2, 3, 4, 0] rfl) hP hD hS
      exact t_X10_addParting_227 X hK hw ls _ _ (lv_sub hl [0, 1, 2, 3, 4] rfl) hP hD hS
    · have hw := hw.2 c_42
      refine lv_iload_n hx hb dX10_addParting_16 rfl (lv_at hl 3 rfl) ?_
      refine lv_goto (tgt := 21) hx hb dX10_addParting_17 (by decide) ?_
      refine lv_istore (lv' := [(4, .int x2), (3, .int x1), (0, .ref (q 0)), (1, .int x1), (2, .int x2)]) hx hb dX10_addParting_21 hl (by decide) rfl (fun ls hl => ?_)
      refine lv_iconst (v := (0 : Int32)) hx hb dX10_addParting_23 (by decide) ?_
      refine lv_istore (lv' := [(5, .int (0 : Int32)), (4, .int x2), (3, .int x1), (0, .ref (q 0)), (1, .int x1), (2, .int x2)]) hx hb dX10_addParting_24 hl (by decide) rfl (fun ls hl => ?_)
      refine lv_iconst (v := (0 : Int32)) hx hb dX10_addParting_26 (by decide) ?_
      refine lv_istore (lv' := [(6, .int (0 : Int32)), (5, .int (0 : Int32)), (4, .int x2), (3, .int x1), (0, .ref (q 0)), (1, .int x1), (2, .int x2)]) hx hb dX10_addParting_27 hl (by decide) rfl (fun ls hl => ?_)
      obtain ⟨n_46, hw⟩ := hw
      refine t_X10_addParting_29 X hK (fun  hw ls H locs hl hP hD hS => ?_) n_46 _ hw ls _ _ (lv_sub hl [4, 3, 2, 1, 0] rfl) hP hD hS
      refine lv_iconst (v := (0 : Int32)) hx hb dX10_addParting_68 (by decide) ?_
      refine lv_istore (lv' := [(6, .int (0 : Int32)), (0, .ref (q 0)), (3, .int x1), (4, .int x2), (5, .int (0 : Int32))]) hx hb dX10_addParting_69 hl (by decide) rfl (fun ls hl => ?_)
      obtain ⟨n_47, hw⟩ := hw
      refine t_X10_addParting_71 X hK (fun x5_47 ylowSet_47 yhighSet_47 hw ls H locs hl hP hD hS => ?_) n_47 _ _ _ _ hw ls _ _ (lv_sub hl [1, 2, 3, 4, 0] rfl) hP hD hS
      refine lv_iload hx hb dX10_addParting_140 (lv_at hl 3 rfl) ?_
      refine lv_istore (lv' := [(6, .int x5_47), (0, .ref (q 0)), (3, .int x1), (4, .int x2), (5, .int x5_47)]) hx hb dX10_addParting_142 hl (by decide) rfl (fun ls hl => ?_)
      obtain ⟨n_48, hw⟩ := hw
      refine t_X10_addParting_144 X hK (fun x6_48 ylowSet_48 yhighSet_48 hw ls H locs hl hP hD hS => ?_) n_48 _ _ _ hw ls _ _ (lv_sub hl [1, 2, 3, 4, 0] rfl) hP hD hS
      exact t_X10_addParting_227 X hK hw ls _ _ (lv_sub hl [0, 1, 2, 3, 4] rfl) hP hD hS
abbrev Z_X10_addOfColumn (D : va_G) (q : Nat → Nat) (cA : Nat → ClassId) (i_pageLength : Int32) (a_page : Nat → Int32) (i_states : Int32) (i_columns : Int32) (a_entries : Nat → Int32) (i_signals : Int32) (a_signalAt : Nat → Int32) (i_walksAt : Int32) (i_turned : Int32) (i_changed : Int32) (i_read : Int32) (i_newRows : Int32) (i_newEntries : Int32) (i_newColumns : Int32) (i_greatest : Int32) (a_newAt : Nat → Int32) (i_leastMany : Int32) (a_leastAt : Nat → Int32) (a_tried : Nat → Int32) (a_keptLow : Nat → Int64) (a_keptHigh : Nat → Int64) (i_laid : Int32) (a_wants : Nat → Int32) (i_wide : Int32) (a_wideAsked : Nat → Int32) (a_wideOnes : Nat → Int32) (i_sum : Int32) (i_flickers : Int32) (a_sumAt : Nat → Int32) (j_h : Int64) (post : Int32 → (Nat → Int32) → (Nat → Int32) → Prop) : State → Prop := fun t => ∃ (y_i_partings : Int32) (y_a_lowSet : Nat → Int32) (y_a_highSet : Nat → Int32), post y_i_partings y_a_lowSet y_a_highSet ∧ va_P D vwCl (wM q cA i_pageLength a_page i_states i_columns a_entries i_signals a_signalAt i_walksAt i_turned i_changed i_read i_newRows i_newEntries i_newColumns i_greatest a_newAt y_i_partings y_a_lowSet y_a_highSet i_leastMany a_leastAt a_tried a_keptLow a_keptHigh i_laid a_wants i_wide a_wideAsked a_wideOnes i_sum i_flickers a_sumAt j_h) t.heap
set_option maxHeartbeats 4000000 in
set_option maxRecDepth 100000 in
theorem c_X10_addOfColumn (l : Launch) {D : va_G} {q : Nat → Nat} {cA : Nat → ClassId} {i_pageLength : Int32} {a_page : Nat → Int32} {i_states : Int32} {i_columns : Int32} {a_entries : Nat → Int32} {i_signals : Int32} {a_signalAt : Nat → Int32} {i_walksAt : Int32} {i_turned : Int32} {i_changed : Int32} {i_read : Int32} {i_newRows : Int32} {i_newEntries : Int32} {i_newColumns : Int32} {i_greatest : Int32} {a_newAt : Nat → Int32} {i_partings : Int32} {a_lowSet : Nat → Int32} {a_highSet : Nat → Int32} {i_leastMany : Int32} {a_leastAt : Nat → Int32} {a_tried : Nat → Int32} {a_keptLow : Nat → Int64} {a_keptHigh : Nat → Int64} {i_laid : Int32} {a_wants : Nat → Int32} {i_wide : Int32} {a_wideAsked : Nat → Int32} {a_wideOnes : Nat → Int32} {i_sum : Int32} {i_flickers : Int32} {a_sumAt : Nat → Int32} {j_h : Int64} {A : Nat → Prop} {post : Int32 → (Nat → Int32) → (Nat → Int32) → Prop} {x1 : Int32} {x2 : Int32} {x3 : Int32} (hw : wp_X10_addOfColumn post a_entries i_partings a_lowSet a_highSet x1 x2 x3) : Met l yX10_addOfColumn (Cond.code yX10_addOfColumn cX10_addOfColumn 6 none :: wsL_law) (rmH 2) (va_Pc [.ref (q 0), .int x1, .int x2, .int x3] (fun U => va_P D vwCl (wM q cA i_pageLength a_page i_states i_columns a_entries i_signals a_signalAt i_walksAt i_turned i_changed i_read i_newRows i_newEntries i_newColumns i_greatest a_newAt i_partings a_lowSet a_highSet i_leastMany a_leastAt a_tried a_keptLow a_keptHigh i_laid a_wants i_wide a_wideAsked a_wideOnes i_sum i_flickers a_sumAt j_h) U.heap ∧ va_K D vwCl (tyM cA) U ∧ va_D A (wM q cA i_pageLength a_page i_states i_columns a_entries i_signals a_signalAt i_walksAt i_turned i_changed i_read i_newRows i_newEntries i_newColumns i_greatest a_newAt i_partings a_lowSet a_highSet i_leastMany a_leastAt a_tried a_keptLow a_keptHigh i_laid a_wants i_wide a_wideAsked a_wideOnes i_sum i_flickers a_sumAt j_h))) (qWv (Z_X10_addOfColumn D q cA i_pageLength a_page i_states i_columns a_entries i_signals a_signalAt i_walksAt i_turned i_changed i_read i_newRows i_newEntries i_newColumns i_greatest a_newAt i_leastMany a_leastAt a_tried a_keptLow a_keptHigh i_laid a_wants i_wide a_wideAsked a_wideOnes i_sum i_flickers a_sumAt j_h post) A) 0 0 A := by
  refine Met.ofW (cc := cX10_addOfColumn) (maxL := 6) (ret := none) (by decide) rfl ?_
  intro p e s m args below meth c s₁ B hml hv
  obtain ⟨rfl, hP, hK, hD⟩ := hv
  have X : kC p (headSpec (Cond.code yX10_addOfColumn cX10_addOfColumn 6 none :: wsL_law) (rmH 2)).room s m _ meth c cX10_addOfColumn RX10 6 none 2 := ⟨B.exec, B.bytes, hml, findClass_of_methodNamed B.named, fun w h => atoms_spec (ws := Cond.code yX10_addOfColumn cX10_addOfColumn 6 none :: wsL_law) B.pre w (List.mem_cons_of_mem _ h), B.returns, B.notSynchronized, Nat.le_refl _, Nat.le_refl _⟩
  obtain ⟨hx, hb, hml, hown, hts, hr, hlocks, hRf, hRl⟩ := id X
  have hS : va_S A s.heap s.heap [] := va_S.rf
  have hl := lv_entry ([.ref (q 0), .int x1, .int x2, .int x3]) (n := 6) (Nat.le_of_ble_eq_true rfl)
  rw [lg_entry_eq]
  generalize (lg_sl ([.ref (q 0), .int x1, .int x2, .int x3]) ++ List.replicate (6 - (lg_sl ([.ref (q 0), .int x1, .int x2, .int x3])).length) Slot.unset).toArray = ls at hl ⊢
  have hl : lv_has ls 6 [(0, .ref (q 0)), (1, .int x1), (2, .int x2), (3, .int x3)] := hl
  refine lv_aload_n hx hb dX10_addOfColumn_0 rfl (lv_at hl 0 rfl) ?_
  refine lv_iload_n hx hb dX10_addOfColumn_1 rfl (lv_at hl 2 rfl) ?_
  refine lv_iload_n hx hb dX10_addOfColumn_2 rfl (lv_at hl 1 rfl) ?_
  refine ro_i (va_runV (As := [.int x2, .int x1]) (rest := []) ⟨hx, hb, hml, hown, hts⟩ (c_X10_entryAt l hw) (kRX10_118 (h := 0) hts (Nat.le_trans (Nat.le_of_ble_eq_true rfl) hRf) (Nat.le_trans (Nat.le_of_ble_eq_true rfl) hRl)) (preM hK hP) rfl rfl hl.1 rfl (lv_room (Nat.le_of_ble_eq_true rfl)) dX10_addOfColumn_3 ⟨Nat.zero_le _, Nat.zero_le _⟩) (fun r_1 hw => ?_)
  refine lv_istore (lv' := [(4, .int r_1), (0, .ref (q 0)), (1, .int x1), (2, .int x2), (3, .int x3)]) hx hb dX10_addOfColumn_6 hl (by decide) rfl (fun ls hl => ?_)
  refine lv_aload_n hx hb dX10_addOfColumn_8 rfl (lv_at hl 1 rfl) ?_
  refine lv_iload_n hx hb dX10_addOfColumn_9 rfl (lv_at hl 4 rfl) ?_
  refine lv_iload_n hx hb dX10_addOfColumn_10 rfl (lv_at hl 2 rfl) ?_
  refine ro_i (va_runV (As := [.int x3, .int x1]) (rest := []) ⟨hx, hb, hml, hown, hts⟩ (c_X10_entryAt l hw) (kRX10_118 (h := 0) hts (Nat.le_trans (Nat.le_of_ble_eq_true rfl) hRf) (Nat.le_trans (Nat.le_of_ble_eq_true rfl) hRl)) (preM hK hP) rfl rfl hl.1 rfl (lv_room (Nat.le_of_ble_eq_true rfl)) dX10_addOfColumn_11 ⟨Nat.zero_le _, Nat.zero_le _⟩) (fun r_2 hw => ?_)
  refine lv_istore (lv' := [(5, .int r_2), (4, .int r_1), (0, .ref (q 0)), (1, .int x1), (2, .int x2), (3, .int x3)]) hx hb dX10_addOfColumn_14 hl (by decide) rfl (fun ls hl => ?_)
  refine lv_iload hx hb dX10_addOfColumn_16 (lv_at hl 1 rfl) ?_
  refine lv_iconst (v := ((-1) : Int32)) hx hb dX10_addOfColumn_18 (by decide) ?_
  refine lv_icmp_eq (tgt := 55) hx hb dX10_addOfColumn_19 (by decide) (fun c_3 => ?_) (fun c_3 => ?_)
  · have hw := hw.1 c_3
    exact rw_v hx hb hr hlocks (fun t ht => ⟨i_partings, a_lowSet, a_highSet, hw, by rw [ht]; exact hP⟩) hS dX10_addOfColumn_55
  · have hw := hw.2 c_3
    refine lv_iload hx hb dX10_addOfColumn_22 (lv_at hl 0 rfl) ?_
    refine lv_iconst (v := ((-1) : Int32)) hx hb dX10_addOfColumn_24 (by decide) ?_
    refine lv_icmp_eq (tgt := 55) hx hb dX10_addOfColumn_25 (by decide) (fun c_4 => ?_) (fun c_4 => ?_)
    · have hw := hw.1 c_4
      exact rw_v hx hb hr hlocks (fun t ht => ⟨i_partings, a_lowSet, a_highSet, hw, by rw [ht]; exact hP⟩) hS dX10_addOfColumn_55
    · have hw := hw.2 c_4
      refine lv_iload hx hb dX10_addOfColumn_28 (lv_at hl 1 rfl) ?_
      refine lv_iload hx hb dX10_addOfColumn_30 (lv_at hl 0 rfl) ?_
      refine lv_icmp_eq (tgt := 55) hx hb dX10_addOfColumn_32 (by decide) (fun c_5 => ?_) (fun c_5 => ?_)
      · have hw := hw.1 c_5
        exact rw_v hx hb hr hlocks (fun t ht => ⟨i_partings, a_lowSet, a_highSet, hw, by rw [ht]; exact hP⟩) hS dX10_addOfColumn_55
      · have hw := hw.2 c_5
        refine lv_aload_n hx hb dX10_addOfColumn_35 rfl (lv_at hl 2 rfl) ?_
        refine lv_iconst (v := (1 : Int32)) hx hb dX10_addOfColumn_36 (by decide) ?_
        refine lv_iload_n hx hb dX10_addOfColumn_37 rfl (lv_at hl 4 rfl) ?_
        refine lv_ishl hx hb dX10_addOfColumn_38 ?_
        refine lv_iconst (v := (1 : Int32)) hx hb dX10_addOfColumn_39 (by decide) ?_
        refine lv_iload hx hb dX10_addOfColumn_40 (lv_at hl 1 rfl) ?_
        refine lv_ishl hx hb dX10_addOfColumn_42 ?_
        refine lv_ior hx hb dX10_addOfColumn_43 ?_
        refine lv_iconst (v := (1 : Int32)) hx hb dX10_addOfColumn_44 (by decide) ?_
        refine lv_iload_n hx hb dX10_addOfColumn_45 rfl (lv_at hl 5 rfl) ?_
        refine lv_ishl hx hb dX10_addOfColumn_46 ?_
        refine lv_iconst (v := (1 : Int32)) hx hb dX10_addOfColumn_47 (by decide) ?_
        refine lv_iload hx hb dX10_addOfColumn_48 (lv_at hl 0 rfl) ?_
        refine lv_ishl hx hb dX10_addOfColumn_50 ?_
        refine lv_ior hx hb dX10_addOfColumn_51 ?_
        refine wr_v (va_runV (As := [.int (((1 : Int32) <<< (x2 &&& 31)) ||| ((1 : Int32) <<< (r_1 &&& 31))), .int (((1 : Int32) <<< (x3 &&& 31)) ||| ((1 : Int32) <<< (r_2 &&& 31)))]) (rest := []) ⟨hx, hb, hml, hown, hts⟩ (c_X10_addParting l hw) (kRX10_144 (h := 1) hts (Nat.le_trans (Nat.le_of_ble_eq_true rfl) hRf) (Nat.le_trans (Nat.le_of_ble_eq_true rfl) hRl)) (preMw hK hP hD) rfl rfl hl.1 rfl (lv_room (Nat.le_of_ble_eq_true rfl)) dX10_addOfColumn_52 ⟨Nat.zero_le _, Nat.zero_le _⟩) hS (fun t H locs ht hw hS => ?_)
        obtain ⟨ypartings_6, ylowSet_6, yhighSet_6, hw, hP⟩ := hw
        rw [ht] at hP
        have hP : va_P D vwCl (wM q cA i_pageLength a_page i_states i_columns a_entries i_signals a_signalAt i_walksAt i_turned i_changed i_read i_newRows i_newEntries i_newColumns i_greatest a_newAt ypartings_6 ylowSet_6 yhighSet_6 i_leastMany a_leastAt a_tried a_keptLow a_keptHigh i_laid a_wants i_wide a_wideAsked a_wideOnes i_sum i_flickers a_sumAt j_h) H := hP
        have hD : va_D A (wM q cA i_pageLength a_page i_states i_columns a_entries i_signals a_signalAt i_walksAt i_turned i_changed i_read i_newRows i_newEntries i_newColumns i_greatest a_newAt ypartings_6 ylowSet_6 yhighSet_6 i_leastMany a_leastAt a_tried a_keptLow a_keptHigh i_laid a_wants i_wide a_wideAsked a_wideOnes i_sum i_flickers a_sumAt j_h) := dM hD
        exact rw_v hx hb hr hlocks (fun t ht => ⟨ypartings_6, ylowSet_6, yhighSet_6, hw, by rw [ht]; exact hP⟩) hS dX10_addOfColumn_55
abbrev Z_X10_layPartings (D : va_G) (q : Nat → Nat) (cA : Nat → ClassId) (i_pageLength : Int32) (a_page : Nat → Int32) (i_states : Int32) (i_columns : Int32) (a_entries : Nat → Int32) (i_signals : Int32) (a_signalAt : Nat → Int32) (i_walksAt : Int32) (i_turned : Int32) (i_changed : Int32) (i_read : Int32) (i_newRows : Int32) (i_newEntries : Int32) (i_newColumns : Int32) (i_greatest : Int32) (a_newAt : Nat → Int32) (i_leastMany : Int32) (a_leastAt : Nat → Int32) (a_tried : Nat → Int32) (a_keptLow : Nat → Int64) (a_keptHigh : Nat → Int64) (i_laid : Int32) (a_wants : Nat → Int32) (i_wide : Int32) (a_wideAsked : Nat → Int32) (a_wideOnes : Nat → Int32) (i_sum : Int32) (i_flickers : Int32) (a_sumAt : Nat → Int32) (j_h : Int64) (post : Int32 → (Nat → Int32) → (Nat → Int32) → Prop) : State → Prop := fun t => ∃ (y_i_partings : Int32) (y_a_lowSet : Nat → Int32) (y_a_highSet : Nat → Int32), post y_i_partings y_a_lowSet y_a_highSet ∧ va_P D vwCl (wM q cA i_pageLength a_page i_states i_columns a_entries i_signals a_signalAt i_walksAt i_turned i_changed i_read i_newRows i_newEntries i_newColumns i_greatest a_newAt y_i_partings y_a_lowSet y_a_highSet i_leastMany a_leastAt a_tried a_keptLow a_keptHigh i_laid a_wants i_wide a_wideAsked a_wideOnes i_sum i_flickers a_sumAt j_h) t.heap
set_option maxHeartbeats 4000000 in
set_option maxRecDepth 100000 in
theorem t_X10_layPartings_47 {p : Program} {l : Launch} {e : Env} {R : Room} {s : State} {m : MethodId} {args : Array Value} {below : List Frame} {meth : Method} {c : Code} {A : Nat → Prop} {D : va_G} {q : Nat → Nat} {cA : Nat → ClassId} {i_pageLength : Int32} {a_page : Nat → Int32} {i_states : Int32} {i_columns : Int32} {a_entries : Nat → Int32} {i_signals : Int32} {a_signalAt : Nat → Int32} {i_walksAt : Int32} {i_turned : Int32} {i_changed : Int32} {i_read : Int32} {i_newRows : Int32} {i_newEntries : Int32} {i_newColumns : Int32} {i_greatest : Int32} {a_newAt : Nat → Int32} {i_leastMany : Int32} {a_leastAt : Nat → Int32} {a_tried : Nat → Int32} {a_keptLow : Nat → Int64} {a_keptHigh : Nat → Int64} {i_laid : Int32} {a_wants : Nat → Int32} {i_wide : Int32} {a_wideAsked : Nat → Int32} {a_wideOnes : Nat → Int32} {i_sum : Int32} {i_flickers : Int32} {a_sumAt : Nat → Int32} {j_h : Int64} {post : Int32 → (Nat → Int32) → (Nat → Int32) → Prop} {KE : Int32 → (Nat → Int32) → (Nat → Int32) → Prop} {x1 : Int32} {x2 : Int32} (X : kC p R s m args meth c cX10_layPartings RX10 4 none 3) (hK : va_K D vwCl (tyM cA) s) (hE : ∀ (i_partings : Int32) (a_lowSet : Nat → Int32) (a_highSet : Nat → Int32), KE i_partings a_lowSet a_highSet → ∀ (ls : Array Slot) (H : Heap) (locs : List Loc), lv_has ls 4 [(0, .ref (q 0)), (1, .int x1), (2, .int x2)] → va_P D vwCl (wM q cA i_pageLength a_page i_states i_columns a_entries i_signals a_signalAt i_walksAt i_turned i_changed i_read i_newRows i_newEntries i_newColumns i_greatest a_newAt i_partings a_lowSet a_highSet i_leastMany a_leastAt a_tried a_keptLow a_keptHigh i_laid a_wants i_wide a_wideAsked a_wideOnes i_sum i_flickers a_sumAt j_h) H → va_D A (wM q cA i_pageLength a_page i_states i_columns a_entries i_signals a_signalAt i_walksAt i_turned i_changed i_read i_newRows i_newEntries i_newColumns i_greatest a_newAt i_partings a_lowSet a_highSet i_leastMany a_leastAt a_tried a_keptLow a_keptHigh i_laid a_wants i_wide a_wideAsked a_wideOnes i_sum i_flickers a_sumAt j_h) → va_S A s.heap H locs → W p l e R s m args below meth c H locs 0 0 (MQ below (qWv (Z_X10_layPartings D q cA i_pageLength a_page i_states i_columns a_entries i_signals a_signalAt i_walksAt i_turned i_changed i_read i_newRows i_newEntries i_newColumns i_greatest a_newAt i_leastMany a_leastAt a_tried a_keptLow a_keptHigh i_laid a_wants i_wide a_wideAsked a_wideOnes i_sum i_flickers a_sumAt j_h post) A) args s 0 0 A) (F0 m 68 ls [])) : ∀ (n : Nat) (x3 : Int32) (i_partings : Int32) (a_lowSet : Nat → Int32) (a_highSet : Nat → Int32), w_X10_layPartings_47 KE i_columns a_entries x1 x2 n x3 i_partings a_lowSet a_highSet → ∀ (ls : Array Slot) (H : Heap) (locs : List Loc), lv_has ls 4 [(0, .ref (q 0)), (1, .int x1), (2, .int x2), (3, .int x3)] → va_P D vwCl (wM q cA i_pageLength a_page i_states i_columns a_entries i_signals a_signalAt i_walksAt i_turned i_changed i_read i_newRows i_newEntries i_newColumns i_greatest a_newAt i_partings a_lowSet a_highSet i_leastMany a_leastAt a_tried a_keptLow a_keptHigh i_laid a_wants i_wide a_wideAsked a_wideOnes i_sum i_flickers a_sumAt j_h) H → va_D A (wM q cA i_pageLength a_page i_states i_columns a_entries i_signals a_signalAt i_walksAt i_turned i_changed i_read i_newRows i_newEntries i_newColumns i_greatest a_newAt i_partings a_lowSet a_highSet i_leastMany a_leastAt a_tried a_keptLow a_keptHigh i_laid a_wants i_wide a_wideAsked a_wideOnes i_sum i_flickers a_sumAt j_h) → va_S A s.heap H locs → W p l e R s m args below meth c H locs 0 0 (MQ below (qWv (Z_X10_layPartings D q cA i_pageLength a_page i_states i_columns a_entries i_signals a_signalAt i_walksAt i_turned i_changed i_read i_newRows i_newEntries i_newColumns i_greatest a_newAt i_leastMany a_leastAt a_tried a_keptLow a_keptHigh i_laid a_wants i_wide a_wideAsked a_wideOnes i_sum i_flickers a_sumAt j_h post) A) args s 0 0 A) (F0 m 47 ls []) := by
  obtain ⟨hx, hb, hml, hown, hts, hr, hlocks, hRf, hRl⟩ := id X
  intro n
  induction n with
  | zero => intro x3 i_partings a_lowSet a_highSet hw; exact (show False from hw).elim
  | succ n ih =>
    intro x3 i_partings a_lowSet a_highSet hw ls H locs hl hP hD hS
    refine lv_iload_n hx hb dX10_layPartings_47 rfl (lv_at hl 3 rfl) ?_
    refine lv_aload_n hx hb dX10_layPartings_48 rfl (lv_at hl 0 rfl) ?_
    refine gRX10_90 hx hb hown hts hK hP dX10_layPartings_49 ?_
    refine lv_icmp_ge (tgt := 68) hx hb dX10_layPartings_52 (by decide) (fun c_7 => ?_) (fun c_7 => ?_)
    · have hw := hw.1 c_7
      exact hE _ _ _ hw ls _ _ (lv_sub hl [0, 1, 2] rfl) hP hD hS
    · have hw := hw.2 c_7
      refine lv_aload_n hx hb dX10_layPartings_55 rfl (lv_at hl 0 rfl) ?_
      refine lv_iload_n hx hb dX10_layPartings_56 rfl (lv_at hl 3 rfl) ?_
      refine lv_iload_n hx hb dX10_layPartings_57 rfl (lv_at hl 1 rfl) ?_
      refine lv_iload_n hx hb dX10_layPartings_58 rfl (lv_at hl 2 rfl) ?_
      refine wr_v (va_runV (As := [.int x3, .int x1, .int x2]) (rest := []) ⟨hx, hb, hml, hown, hts⟩ (c_X10_addOfColumn l hw) (kRX10_148 (h := 2) hts (Nat.le_trans (Nat.le_of_ble_eq_true rfl) hRf) (Nat.le_trans (Nat.le_of_ble_eq_true rfl) hRl)) (preMw hK hP hD) rfl rfl hl.1 rfl (lv_room (Nat.le_of_ble_eq_true rfl)) dX10_layPartings_59 ⟨Nat.zero_le _, Nat.zero_le _⟩) hS (fun t H locs ht hw hS => ?_)
      obtain ⟨ypartings_8, ylowSet_8, yhighSet_8, hw, hP⟩ := hw
      rw [ht] at hP
      have hP : va_P D vwCl (wM q cA i_pageLength a_page i_states i_columns a_entries i_signals a_signalAt i_walksAt i_turned i_changed i_read i_newRows i_newEntries i_newColumns i_greatest a_newAt ypartings_8 ylowSet_8 yhighSet_8 i_leastMany a_leastAt a_tried a_keptLow a_keptHigh i_laid a_wants i_wide a_wideAsked a_wideOnes i_sum i_flickers a_sumAt j_h) H := hP
      have hD : va_D A (wM q cA i_pageLength a_page i_states i_columns a_entries i_signals a_signalAt i_walksAt i_turned i_changed i_read i_newRows i_newEntries i_newColumns i_greatest a_newAt ypartings_8 ylowSet_8 yhighSet_8 i_leastMany a_leastAt a_tried a_keptLow a_keptHigh i_laid a_wants i_wide a_wideAsked a_wideOnes i_sum i_flickers a_sumAt j_h) := dM hD
      obtain ⟨x3_9, e_9⟩ : ∃ z : Int32, z = x3 + (1 : Int32) := ⟨_, rfl⟩
      have hw := hw x3_9 e_9
      refine lv_iinc (v := x3_9) (lv' := [(3, .int x3_9), (0, .ref (q 0)), (1, .int x1), (2, .int x2)]) hx hb dX10_layPartings_62 hl (k := 3) rfl (by rw [e_9]; rfl) (by decide) rfl (fun ls hl => ?_)
      refine lv_goto (tgt := 47) hx hb dX10_layPartings_65 (by decide) ?_
      exact ih _ _ _ _ hw ls _ _ (lv_sub hl [1, 2, 3, 0] rfl) hP hD hS
set_option maxHeartbeats 4000000 in
set_option maxRecDepth 100000 in
theorem t_X10_layPartings_27 {p : Program} {l : Launch} {e : Env} {R : Room} {s : State} {m : MethodId} {args : Array Value} {below : List Frame} {meth : Method} {c : Code} {A : Nat → Prop} {D : va_G} {q : Nat → Nat} {cA : Nat → ClassId} {i_pageLength : Int32} {a_page : Nat → Int32} {i_states : Int32} {i_columns : Int32} {a_entries : Nat → Int32} {i_signals : Int32} {a_signalAt : Nat → Int32} {i_walksAt : Int32} {i_turned : Int32} {i_changed : Int32} {i_read : Int32} {i_newRows : Int32} {i_newEntries : Int32} {i_newColumns : Int32} {i_greatest : Int32} {a_newAt : Nat → Int32} {i_leastMany : Int32} {a_leastAt : Nat → Int32} {a_tried : Nat → Int32} {a_keptLow : Nat → Int64} {a_keptHigh : Nat → Int64} {i_laid : Int32} {a_wants : Nat → Int32} {i_wide : Int32} {a_wideAsked : Nat → Int32} {a_wideOnes : Nat → Int32} {i_sum : Int32} {i_flickers : Int32} {a_sumAt : Nat → Int32} {j_h : Int64} {post : Int32 → (Nat → Int32) → (Nat → Int32) → Prop} {KE : Int32 → (Nat → Int32) → (Nat → Int32) → Prop} {x1 : Int32} (X : kC p R s m args meth c cX10_layPartings RX10 4 none 3) (hK : va_K D vwCl (tyM cA) s) (hE : ∀ (i_partings : Int32) (a_lowSet : Nat → Int32) (a_highSet : Nat → Int32), KE i_partings a_lowSet a_highSet → ∀ (ls : Array Slot) (H : Heap) (locs : List Loc), lv_has ls 4 [(0, .ref (q 0)), (1, .int x1)] → va_P D vwCl (wM q cA i_pageLength a_page i_states i_columns a_entries i_signals a_signalAt i_walksAt i_turned i_changed i_read i_newRows i_newEntries i_newColumns i_greatest a_newAt i_partings a_lowSet a_highSet i_leastMany a_leastAt a_tried a_keptLow a_keptHigh i_laid a_wants i_wide a_wideAsked a_wideOnes i_sum i_flickers a_sumAt j_h) H → va_D A (wM q cA i_pageLength a_page i_states i_columns a_entries i_signals a_signalAt i_walksAt i_turned i_changed i_read i_newRows i_newEntries i_newColumns i_greatest a_newAt i_partings a_lowSet a_highSet i_leastMany a_leastAt a_tried a_keptLow a_keptHigh i_laid a_wants i_wide a_wideAsked a_wideOnes i_sum i_flickers a_sumAt j_h) → va_S A s.heap H locs → W p l e R s m args below meth c H locs 0 0 (MQ below (qWv (Z_X10_layPartings D q cA i_pageLength a_page i_states i_columns a_entries i_signals a_signalAt i_walksAt i_turned i_changed i_read i_newRows i_newEntries i_newColumns i_greatest a_newAt i_leastMany a_leastAt a_tried a_keptLow a_keptHigh i_laid a_wants i_wide a_wideAsked a_wideOnes i_sum i_flickers a_sumAt j_h post) A) args s 0 0 A) (F0 m 74 ls [])) : ∀ (n : Nat) (x2 : Int32) (i_partings : Int32) (a_lowSet : Nat → Int32) (a_highSet : Nat → Int32), w_X10_layPartings_27 KE i_states i_columns a_entries x1 n x2 i_partings a_lowSet a_highSet → ∀ (ls : Array Slot) (H : Heap) (locs : List Loc), lv_has ls 4 [(0, .ref (q 0)), (1, .int x1), (2, .int x2)] → va_P D vwCl (wM q cA i_pageLength a_page i_states i_columns a_entries i_signals a_signalAt i_walksAt i_turned i_changed i_read i_newRows i_newEntries i_newColumns i_greatest a_newAt i_partings a_lowSet a_highSet i_leastMany a_leastAt a_tried a_keptLow a_keptHigh i_laid a_wants i_wide a_wideAsked a_wideOnes i_sum i_flickers a_sumAt j_h) H → va_D A (wM q cA i_pageLength a_page i_states i_columns a_entries i_signals a_signalAt i_walksAt i_turned i_changed i_read i_newRows i_newEntries i_newColumns i_greatest a_newAt i_partings a_lowSet a_highSet i_leastMany a_leastAt a_tried a_keptLow a_keptHigh i_laid a_wants i_wide a_wideAsked a_wideOnes i_sum i_flickers a_sumAt j_h) → va_S A s.heap H locs → W p l e R s m args below meth c H locs 0 0 (MQ below (qWv (Z_X10_layPartings D q cA i_pageLength a_page i_states i_columns a_entries i_signals a_signalAt i_walksAt i_turned i_changed i_read i_newRows i_newEntries i_newColumns i_greatest a_newAt i_leastMany a_leastAt a_tried a_keptLow a_keptHigh i_laid a_wants i_wide a_wideAsked a_wideOnes i_sum i_flickers a_sumAt j_h post) A) args s 0 0 A) (F0 m 27 ls []) := by
  obtain ⟨hx, hb, hml, hown, hts, hr, hlocks, hRf, hRl⟩ := id X
  intro n
  induction n with
  | zero => intro x2 i_partings a_lowSet a_highSet hw; exact (show False from hw).elim
  | succ n ih =>
    intro x2 i_partings a_lowSet a_highSet hw ls H locs hl hP hD hS
    refine lv_iload_n hx hb dX10_layPartings_27 rfl (lv_at hl 2 rfl) ?_
    refine lv_aload_n hx hb dX10_layPartings_28 rfl (lv_at hl 0 rfl) ?_
    refine gRX10_87 hx hb hown hts hK hP dX10_layPartings_29 ?_
    refine lv_icmp_ge (tgt := 74) hx hb dX10_layPartings_32 (by decide) (fun c_5 => ?_) (fun c_5 => ?_)
    · have hw := hw.1 c_5
      exact hE _ _ _ hw ls _ _ (lv_sub hl [0, 1] rfl) hP hD hS
    · have hw := hw.2 c_5
      refine lv_aload_n hx hb dX10_layPartings_35 rfl (lv_at hl 0 rfl) ?_
      refine lv_iconst (v := (1 : Int32)) hx hb dX10_layPartings_36 (by decide) ?_
      refine lv_iload_n hx hb dX10_layPartings_37 rfl (lv_at hl 1 rfl) ?_
      refine lv_ishl hx hb dX10_layPartings_38 ?_
      refine lv_iconst (v := (1 : Int32)) hx hb dX10_layPartings_39 (by decide) ?_
      refine lv_iload_n hx hb dX10_layPartings_40 rfl (lv_at hl 2 rfl) ?_
      refine lv_ishl hx hb dX10_layPartings_41 ?_
      refine wr_v (va_runV (As := [.int ((1 : Int32) <<< (x1 &&& 31)), .int ((1 : Int32) <<< (x2 &&& 31))]) (rest := []) ⟨hx, hb, hml, hown, hts⟩ (c_X10_addParting l hw) (kRX10_144 (h := 1) hts (Nat.le_trans (Nat.le_of_ble_eq_true rfl) hRf) (Nat.le_trans (Nat.le_of_ble_eq_true rfl) hRl)) (preMw hK hP hD) rfl rfl hl.1 rfl (lv_room (Nat.le_of_ble_eq_true rfl)) dX10_layPartings_42 ⟨Nat.zero_le _, Nat.zero_le _⟩) hS (fun t H locs ht hw hS => ?_)
      obtain ⟨ypartings_6, ylowSet_6, yhighSet_6, hw, hP⟩ := hw
      rw [ht] at hP
      have hP : va_P D vwCl (wM q cA i_pageLength a_page i_states i_columns a_entries i_signals a_signalAt i_walksAt i_turned i_changed i_read i_newRows i_newEntries i_newColumns i_greatest a_newAt ypartings_6 ylowSet_6 yhighSet_6 i_leastMany a_leastAt a_tried a_keptLow a_keptHigh i_laid a_wants i_wide a_wideAsked a_wideOnes i_sum i_flickers a_sumAt j_h) H := hP
      have hD : va_D A (wM q cA i_pageLength a_page i_states i_columns a_entries i_signals a_signalAt i_walksAt i_turned i_changed i_read i_newRows i_newEntries i_newColumns i_greatest a_newAt ypartings_6 ylowSet_6 yhighSet_6 i_leastMany a_leastAt a_tried a_keptLow a_keptHigh i_laid a_wants i_wide a_wideAsked a_wideOnes i_sum i_flickers a_sumAt j_h) := dM hD
      refine lv_iconst (v := (0 : Int32)) hx hb dX10_layPartings_45 (by decide) ?_
      refine lv_istore_n (lv' := [(3, .int (0 : Int32)), (0, .ref (q 0)), (1, .int x1), (2, .int x2)]) hx hb dX10_layPartings_46 rfl hl (by decide) rfl (fun ls hl => ?_)
      obtain ⟨n_10, hw⟩ := hw
      refine t_X10_layPartings_47 X hK (fun ypartings_10 ylowSet_10 yhighSet_10 hw ls H locs hl hP hD hS => ?_) n_10 _ _ _ _ hw ls _ _ (lv_sub hl [1, 2, 3, 0] rfl) hP hD hS
      obtain ⟨x2_11, e_11⟩ : ∃ z : Int32, z = x2 + (1 : Int32) := ⟨_, rfl⟩
      have hw := hw x2_11 e_11
      refine lv_iinc (v := x2_11) (lv' := [(2, .int x2_11), (0, .ref (q 0)), (1, .int x1)]) hx hb dX10_layPartings_68 hl (k := 2) rfl (by rw [e_11]; rfl) (by decide) rfl (fun ls hl => ?_)
      refine lv_goto (tgt := 27) hx hb dX10_layPartings_71 (by decide) ?_
      exact ih _ _ _ _ hw ls _ _ (lv_sub hl [1, 2, 0] rfl) hP hD hS
set_option maxHeartbeats 4000000 in
set_option maxRecDepth 100000 in
theorem t_X10_layPartings_15 {p : Program} {l : Launch} {e : Env} {R : Room} {s : State} {m : MethodId} {args : Array Value} {below : List Frame} {meth : Method} {c : Code} {A : Nat → Prop} {D : va_G} {q : Nat → Nat} {cA : Nat → ClassId} {i_pageLength : Int32} {a_page : Nat → Int32} {i_states : Int32} {i_columns : Int32} {a_entries : Nat → Int32} {i_signals : Int32} {a_signalAt : Nat → Int32} {i_walksAt : Int32} {i_turned : Int32} {i_changed : Int32} {i_read : Int32} {i_newRows : Int32} {i_newEntries : Int32} {i_newColumns : Int32} {i_greatest : Int32} {a_newAt : Nat → Int32} {i_leastMany : Int32} {a_leastAt : Nat → Int32} {a_tried : Nat → Int32} {a_keptLow : Nat → Int64} {a_keptHigh : Nat → Int64} {i_laid : Int32} {a_wants : Nat → Int32} {i_wide : Int32} {a_wideAsked : Nat → Int32} {a_wideOnes : Nat → Int32} {i_sum : Int32} {i_flickers : Int32} {a_sumAt : Nat → Int32} {j_h : Int64} {post : Int32 → (Nat → Int32) → (Nat → Int32) → Prop} {KE : Int32 → (Nat → Int32) → (Nat → Int32) → Prop} (X : kC p R s m args meth c cX10_layPartings RX10 4 none 3) (hK : va_K D vwCl (tyM cA) s) (hE : ∀ (i_partings : Int32) (a_lowSet : Nat → Int32) (a_highSet : Nat → Int32), KE i_partings a_lowSet a_highSet → ∀ (ls : Array Slot) (H : Heap) (locs : List Loc), lv_has ls 4 [] → va_P D vwCl (wM q cA i_pageLength a_page i_states i_columns a_entries i_signals a_signalAt i_walksAt i_turned i_changed i_read i_newRows i_newEntries i_newColumns i_greatest a_newAt i_partings a_lowSet a_highSet i_leastMany a_leastAt a_tried a_keptLow a_keptHigh i_laid a_wants i_wide a_wideAsked a_wideOnes i_sum i_flickers a_sumAt j_h) H → va_D A (wM q cA i_pageLength a_page i_states i_columns a_entries i_signals a_signalAt i_walksAt i_turned i_changed i_read i_newRows i_newEntries i_newColumns i_greatest a_newAt i_partings a_lowSet a_highSet i_leastMany a_leastAt a_tried a_keptLow a_keptHigh i_laid a_wants i_wide a_wideAsked a_wideOnes i_sum i_flickers a_sumAt j_h) → va_S A s.heap H locs → W p l e R s m args below meth c H locs 0 0 (MQ below (qWv (Z_X10_layPartings D q cA i_pageLength a_page i_states i_columns a_entries i_signals a_signalAt i_walksAt i_turned i_changed i_read i_newRows i_newEntries i_newColumns i_greatest a_newAt i_leastMany a_leastAt a_tried a_keptLow a_keptHigh i_laid a_wants i_wide a_wideAsked a_wideOnes i_sum i_flickers a_sumAt j_h post) A) args s 0 0 A) (F0 m 80 ls [])) : ∀ (n : Nat) (x1 : Int32) (i_partings : Int32) (a_lowSet : Nat → Int32) (a_highSet : Nat → Int32), w_X10_layPartings_15 KE i_states i_columns a_entries n x1 i_partings a_lowSet a_highSet → ∀ (ls : Array Slot) (H : Heap) (locs : List Loc), lv_has ls 4 [(0, .ref (q 0)), (1, .int x1)] → va_P D vwCl (wM q cA i_pageLength a_page i_states i_columns a_entries i_signals a_signalAt i_walksAt i_turned i_changed i_read i_newRows i_newEntries i_newColumns i_greatest a_newAt i_partings a_lowSet a_highSet i_leastMany a_leastAt a_tried a_keptLow a_keptHigh i_laid a_wants i_wide a_wideAsked a_wideOnes i_sum i_flickers a_sumAt j_h) H → va_D A (wM q cA i_pageLength a_page i_states i_columns a_entries i_signals a_signalAt i_walksAt i_turned i_changed i_read i_newRows i_newEntries i_newColumns i_greatest a_newAt i_partings a_lowSet a_highSet i_leastMany a_leastAt a_tried a_keptLow a_keptHigh i_laid a_wants i_wide a_wideAsked a_wideOnes i_sum i_flickers a_sumAt j_h) → va_S A s.heap H locs → W p l e R s m args below meth c H locs 0 0 (MQ below (qWv (Z_X10_layPartings D q cA i_pageLength a_page i_states i_columns a_entries i_signals a_signalAt i_walksAt i_turned i_changed i_read i_newRows i_newEntries i_newColumns i_greatest a_newAt i_leastMany a_leastAt a_tried a_keptLow a_keptHigh i_laid a_wants i_wide a_wideAsked a_wideOnes i_sum i_flickers a_sumAt j_h post) A) args s 0 0 A) (F0 m 15 ls []) := by
  obtain ⟨hx, hb, hml, hown, hts, hr, hlocks, hRf, hRl⟩ := id X
  intro n
  induction n with
  | zero => intro x1 i_partings a_lowSet a_highSet hw; exact (show False from hw).elim
  | succ n ih =>
    intro x1 i_partings a_lowSet a_highSet hw ls H locs hl hP hD hS
    refine lv_iload_n hx hb dX10_layPartings_15 rfl (lv_at hl 1 rfl) ?_
    refine lv_aload_n hx hb dX10_layPartings_16 rfl (lv_at hl 0 rfl) ?_
    refine gRX10_87 hx hb hown hts hK hP dX10_layPartings_17 ?_
    refine lv_icmp_ge (tgt := 80) hx hb dX10_layPartings_20 (by decide) (fun c_3 => ?_) (fun c_3 => ?_)
    · have hw := hw.1 c_3
      exact hE _ _ _ hw ls _ _ (lv_sub hl [] rfl) hP hD hS
    · have hw := hw.2 c_3
      refine lv_iload_n hx hb dX10_layPartings_23 rfl (lv_at hl 1 rfl) ?_
      refine lv_iconst (v := (1 : Int32)) hx hb dX10_layPartings_24 (by decide) ?_
      refine lv_iadd hx hb dX10_layPartings_25 ?_
      refine lv_topi (fun x2_4 e_4 => ?_)
      have hw := hw x2_4 e_4
      refine lv_istore_n (lv' := [(2, .int x2_4), (0, .ref (q 0)), (1, .int x1)]) hx hb dX10_layPartings_26 rfl hl (by decide) rfl (fun ls hl => ?_)
      obtain ⟨n_12, hw⟩ := hw
      refine t_X10_layPartings_27 X hK (fun ypartings_12 ylowSet_12 yhighSet_12 hw ls H locs hl hP hD hS => ?_) n_12 _ _ _ _ hw ls _ _ (lv_sub hl [1, 2, 0] rfl) hP hD hS
      obtain ⟨x1_13, e_13⟩ : ∃ z : Int32, z = x1 + (1 : Int32) := ⟨_, rfl⟩
      have hw := hw x1_13 e_13
      refine lv_iinc (v := x1_13) (lv' := [(1, .int x1_13), (0, .ref (q 0))]) hx hb dX10_layPartings_74 hl (k := 1) rfl (by rw [e_13]; rfl) (by decide) rfl (fun ls hl => ?_)
      refine lv_goto (tgt := 15) hx hb dX10_layPartings_77 (by decide) ?_
      exact ih _ _ _ _ hw ls _ _ (lv_sub hl [1, 0] rfl) hP hD hS
set_option maxHeartbeats 4000000 in
set_option maxRecDepth 100000 in
theorem c_X10_layPartings (l : Launch) {D : va_G} {q : Nat → Nat} {cA : Nat → ClassId} {i_pageLength : Int32} {a_page : Nat → Int32} {i_states : Int32} {i_columns : Int32} {a_entries : Nat → Int32} {i_signals : Int32} {a_signalAt : Nat → Int32} {i_walksAt : Int32} {i_turned : Int32} {i_changed : Int32} {i_read : Int32} {i_newRows : Int32} {i_newEntries : Int32} {i_newColumns : Int32} {i_greatest : Int32} {a_newAt : Nat → Int32} {i_partings : Int32} {a_lowSet : Nat → Int32} {a_highSet : Nat → Int32} {i_leastMany : Int32} {a_leastAt : Nat → Int32} {a_tried : Nat → Int32} {a_keptLow : Nat → Int64} {a_keptHigh : Nat → Int64} {i_laid : Int32} {a_wants : Nat → Int32} {i_wide : Int32} {a_wideAsked : Nat → Int32} {a_wideOnes : Nat → Int32} {i_sum : Int32} {i_flickers : Int32} {a_sumAt : Nat → Int32} {j_h : Int64} {A : Nat → Prop} {post : Int32 → (Nat → Int32) → (Nat → Int32) → Prop}  (hw : wp_X10_layPartings post i_states i_columns a_entries i_partings a_lowSet a_highSet ) : Met l yX10_layPartings (Cond.code yX10_layPartings cX10_layPartings 4 none :: wsL_law) (rmH 3) (va_Pc [.ref (q 0)] (fun U => va_P D vwCl (wM q cA i_pageLength a_page i_states i_columns a_entries i_signals a_signalAt i_walksAt i_turned i_changed i_read i_newRows i_newEntries i_newColumns i_greatest a_newAt i_partings a_lowSet a_highSet i_leastMany a_leastAt a_tried a_keptLow a_keptHigh i_laid a_wants i_wide a_wideAsked a_wideOnes i_sum i_flickers a_sumAt j_h) U.heap ∧ va_K D vwCl (tyM cA) U ∧ va_D A (wM q cA i_pageLength a_page i_states i_columns a_entries i_signals a_signalAt i_walksAt i_turned i_changed i_read i_newRows i_newEntries i_newColumns i_greatest a_newAt i_partings a_lowSet a_highSet i_leastMany a_leastAt a_tried a_keptLow a_keptHigh i_laid a_wants i_wide a_wideAsked a_wideOnes i_sum i_flickers a_sumAt j_h))) (qWv (Z_X10_layPartings D q cA i_pageLength a_page i_states i_columns a_entries i_signals a_signalAt i_walksAt i_turned i_changed i_read i_newRows i_newEntries i_newColumns i_greatest a_newAt i_leastMany a_leastAt a_tried a_keptLow a_keptHigh i_laid a_wants i_wide a_wideAsked a_wideOnes i_sum i_flickers a_sumAt j_h post) A) 0 0 A := by
  refine Met.ofW (cc := cX10_layPartings) (maxL := 4) (ret := none) (by decide) rfl ?_
  intro p e s m args below meth c s₁ B hml hv
  obtain ⟨rfl, hP, hK, hD⟩ := hv
  have X : kC p (headSpec (Cond.code yX10_layPartings cX10_layPartings 4 none :: wsL_law) (rmH 3)).room s m _ meth c cX10_layPartings RX10 4 none 3 := ⟨B.exec, B.bytes, hml, findClass_of_methodNamed B.named, fun w h => atoms_spec (ws := Cond.code yX10_layPartings cX10_layPartings 4 none :: wsL_law) B.pre w (List.mem_cons_of_mem _ h), B.returns, B.notSynchronized, Nat.le_refl _, Nat.le_refl _⟩
  obtain ⟨hx, hb, hml, hown, hts, hr, hlocks, hRf, hRl⟩ := id X
  have hS : va_S A s.heap s.heap [] := va_S.rf
  have hl := lv_entry ([.ref (q 0)]) (n := 4) (Nat.le_of_ble_eq_true rfl)
  rw [lg_entry_eq]
  generalize (lg_sl ([.ref (q 0)]) ++ List.replicate (4 - (lg_sl ([.ref (q 0)])).length) Slot.unset).toArray = ls at hl ⊢
  have hl : lv_has ls 4 [(0, .ref (q 0))] := hl
  refine lv_aload_n hx hb dX10_layPartings_0 rfl (lv_at hl 0 rfl) ?_
  refine lv_iconst (v := (0 : Int32)) hx hb dX10_layPartings_1 (by decide) ?_
  refine pRX10_133 hx hb hown hts hK hP hD hS dX10_layPartings_2 (fun H locs hP hD hS => ?_)
  refine lv_aload_n hx hb dX10_layPartings_5 rfl (lv_at hl 0 rfl) ?_
  refine ro_i (va_runV (As := []) (rest := []) ⟨hx, hb, hml, hown, hts⟩ (c_X10_isNormal l hw) (kRX10_125 (h := 2) hts (Nat.le_trans (Nat.le_of_ble_eq_true rfl) hRf) (Nat.le_trans (Nat.le_of_ble_eq_true rfl) hRl)) (preM hK hP) rfl rfl hl.1 rfl (lv_room (Nat.le_of_ble_eq_true rfl)) dX10_layPartings_6 ⟨Nat.zero_le _, Nat.zero_le _⟩) (fun r_1 hw => ?_)
  refine lv_if_ne (tgt := 13) hx hb dX10_layPartings_9 (by decide) (fun c_2 => ?_) (fun c_2 => ?_)
  · have hw := hw.2 c_2
    refine lv_iconst (v := (0 : Int32)) hx hb dX10_layPartings_13 (by decide) ?_
    refine lv_istore_n (lv' := [(1, .int (0 : Int32)), (0, .ref (q 0))]) hx hb dX10_layPartings_14 rfl hl (by decide) rfl (fun ls hl => ?_)
    obtain ⟨n_14, hw⟩ := hw
    refine t_X10_layPartings_15 X hK (fun ypartings_14 ylowSet_14 yhighSet_14 hw ls H locs hl hP hD hS => ?_) n_14 _ _ _ _ hw ls _ _ (lv_sub hl [1, 0] rfl) hP hD hS
    exact rw_v hx hb hr hlocks (fun t ht => ⟨ypartings_14, ylowSet_14, yhighSet_14, hw, by rw [ht]; exact hP⟩) hS dX10_layPartings_80
  · have hw := hw.1 c_2
    exact rw_v hx hb hr hlocks (fun t ht => ⟨(0 : Int32), a_lowSet, a_highSet, hw, by rw [ht]; exact hP⟩) hS dX10_layPartings_12
set_option maxHeartbeats 4000000 in
set_option maxRecDepth 100000 in
theorem t_X10_keeps_13 {p : Program} {l : Launch} {e : Env} {R : Room} {s : State} {m : MethodId} {args : Array Value} {below : List Frame} {meth : Method} {c : Code}  {post : Int32 → Prop} {x0 : Int32} {x1 : Int32} {x2 : Int32} (X : kC p R s m args meth c cX10_keeps RX10 3 (some .boolean) 0) (hw : j_X10_keeps_13 post x0 x1 x2) (ls : Array Slot) (hl : lv_has ls 3 [(0, .int x0), (1, .int x1), (2, .int x2)]) : W p l e R s m args below meth c s.heap [] 0 0 (MQ below (qRi post) args s 0 0 (fun _ => False)) (F0 m 13 ls []) := by
  obtain ⟨hx, hb, hml, hown, hts, hr, hlocks, hRf, hRl⟩ := id X
  refine lv_iload_n hx hb dX10_keeps_13 rfl (lv_at hl 0 rfl) ?_
  refine lv_iload_n hx hb dX10_keeps_14 rfl (lv_at hl 2 rfl) ?_
  refine lv_iand hx hb dX10_keeps_15 ?_
  refine lv_if_ne (tgt := 30) hx hb dX10_keeps_16 (by decide) (fun c_2 => ?_) (fun c_2 => ?_)
  · have hw := hw.2 c_2
    refine lv_iconst (v := (0 : Int32)) hx hb dX10_keeps_30 (by decide) ?_
    exact rt_z hx hb hr hlocks rfl hw dX10_keeps_31
  · have hw := hw.1 c_2
    refine lv_iload_n hx hb dX10_keeps_19 rfl (lv_at hl 0 rfl) ?_
    refine lv_iload_n hx hb dX10_keeps_20 rfl (lv_at hl 1 rfl) ?_
    refine lv_iand hx hb dX10_keeps_21 ?_
    refine lv_iload_n hx hb dX10_keeps_22 rfl (lv_at hl 1 rfl) ?_
    refine lv_icmp_ne (tgt := 30) hx hb dX10_keeps_23 (by decide) (fun c_3 => ?_) (fun c_3 => ?_)
    · have hw := hw.2 c_3
      refine lv_iconst (v := (0 : Int32)) hx hb dX10_keeps_30 (by decide) ?_
      exact rt_z hx hb hr hlocks rfl hw dX10_keeps_31
    · have hw := hw.1 c_3
      refine lv_iconst (v := (1 : Int32)) hx hb dX10_keeps_26 (by decide) ?_
      refine lv_goto (tgt := 31) hx hb dX10_keeps_27 (by decide) ?_
      exact rt_z hx hb hr hlocks rfl hw dX10_keeps_31
set_option maxHeartbeats 4000000 in
set_option maxRecDepth 100000 in
theorem c_X10_keeps (l : Launch)  {post : Int32 → Prop} {x0 : Int32} {x1 : Int32} {x2 : Int32} (hw : wp_X10_keeps post  x0 x1 x2) : Met l yX10_keeps (Cond.code yX10_keeps cX10_keeps 3 (some .boolean) :: wsL_law) (rmH 0) (va_Pc [.int x0, .int x1, .int x2] (fun _ => True)) (qRi post) 0 0 (fun _ => False) := by
  refine Met.ofW (cc := cX10_keeps) (maxL := 3) (ret := (some .boolean)) (by decide) rfl ?_
  intro p e s m args below meth c s₁ B hml hv
  obtain ⟨rfl, -⟩ := hv
  have X : kC p (headSpec (Cond.code yX10_keeps cX10_keeps 3 (some .boolean) :: wsL_law) (rmH 0)).room s m _ meth c cX10_keeps RX10 3 (some .boolean) 0 := ⟨B.exec, B.bytes, hml, findClass_of_methodNamed B.named, fun w h => atoms_spec (ws := Cond.code yX10_keeps cX10_keeps 3 (some .boolean) :: wsL_law) B.pre w (List.mem_cons_of_mem _ h), B.returns, B.notSynchronized, Nat.le_refl _, Nat.le_refl _⟩
  obtain ⟨hx, hb, hml, hown, hts, hr, hlocks, hRf, hRl⟩ := id X
  have hl := lv_entry ([.int x0, .int x1, .int x2]) (n := 3) (Nat.le_of_ble_eq_true rfl)
  rw [lg_entry_eq]
  generalize (lg_sl ([.int x0, .int x1, .int x2]) ++ List.replicate (3 - (lg_sl ([.int x0, .int x1, .int x2])).length) Slot.unset).toArray = ls at hl ⊢
  have hl : lv_has ls 3 [(0, .int x0), (1, .int x1), (2, .int x2)] := hl
  refine lv_iload_n hx hb dX10_keeps_0 rfl (lv_at hl 0 rfl) ?_
  refine lv_iload_n hx hb dX10_keeps_1 rfl (lv_at hl 1 rfl) ?_
  refine lv_iand hx hb dX10_keeps_2 ?_
  refine lv_if_ne (tgt := 13) hx hb dX10_keeps_3 (by decide) (fun c_1 => ?_) (fun c_1 => ?_)
  · have hw := hw.2 c_1
    exact t_X10_keeps_13 X hw ls (lv_sub hl [0, 1, 2] rfl)
  · have hw := hw.1 c_1
    refine lv_iload_n hx hb dX10_keeps_6 rfl (lv_at hl 0 rfl) ?_
    refine lv_iload_n hx hb dX10_keeps_7 rfl (lv_at hl 2 rfl) ?_
    refine lv_iand hx hb dX10_keeps_8 ?_
    refine lv_iload_n hx hb dX10_keeps_9 rfl (lv_at hl 2 rfl) ?_
    refine lv_icmp_eq (tgt := 26) hx hb dX10_keeps_10 (by decide) (fun c_4 => ?_) (fun c_4 => ?_)
    · have hw := hw.1 c_4
      refine lv_iconst (v := (1 : Int32)) hx hb dX10_keeps_26 (by decide) ?_
      refine lv_goto (tgt := 31) hx hb dX10_keeps_27 (by decide) ?_
      exact rt_z hx hb hr hlocks rfl hw dX10_keeps_31
    · have hw := hw.2 c_4
      exact t_X10_keeps_13 X hw ls (lv_sub hl [0, 1, 2] rfl)
abbrev Z_X10_layKept (D : va_G) (q : Nat → Nat) (cA : Nat → ClassId) (i_pageLength : Int32) (a_page : Nat → Int32) (i_states : Int32) (i_columns : Int32) (a_entries : Nat → Int32) (i_signals : Int32) (a_signalAt : Nat → Int32) (i_walksAt : Int32) (i_turned : Int32) (i_changed : Int32) (i_read : Int32) (i_newRows : Int32) (i_newEntries : Int32) (i_newColumns : Int32) (i_greatest : Int32) (a_newAt : Nat → Int32) (i_partings : Int32) (a_lowSet : Nat → Int32) (a_highSet : Nat → Int32) (i_leastMany : Int32) (a_leastAt : Nat → Int32) (a_tried : Nat → Int32) (i_laid : Int32) (a_wants : Nat → Int32) (i_wide : Int32) (a_wideAsked : Nat → Int32) (a_wideOnes : Nat → Int32) (i_sum : Int32) (i_flickers : Int32) (a_sumAt : Nat → Int32) (j_h : Int64) (post : (Nat → Int64) → (Nat → Int64) → Prop) : State → Prop := fun t => ∃ (y_a_keptLow : Nat → Int64) (y_a_keptHigh : Nat → Int64), post y_a_keptLow y_a_keptHigh ∧ va_P D vwCl (wM q cA i_pageLength a_page i_states i_columns a_entries i_signals a_signalAt i_walksAt i_turned i_changed i_read i_newRows i_newEntries i_newColumns i_greatest a_newAt i_partings a_lowSet a_highSet i_leastMany a_leastAt a_tried y_a_keptLow y_a_keptHigh i_laid a_wants i_wide a_wideAsked a_wideOnes i_sum i_flickers a_sumAt j_h) t.heap
set_option maxHeartbeats 4000000 in
set_option maxRecDepth 100000 in
theorem t_X10_layKept_81 {p : Program} {l : Launch} {e : Env} {R : Room} {s : State} {m : MethodId} {args : Array Value} {below : List Frame} {meth : Method} {c : Code} {A : Nat → Prop} {D : va_G} {q : Nat → Nat} {cA : Nat → ClassId} {i_pageLength : Int32} {a_page : Nat → Int32} {i_states : Int32} {i_columns : Int32} {a_entries : Nat → Int32} {i_signals : Int32} {a_signalAt : Nat → Int32} {i_walksAt : Int32} {i_turned : Int32} {i_changed : Int32} {i_read : Int32} {i_newRows : Int32} {i_newEntries : Int32} {i_newColumns : Int32} {i_greatest : Int32} {a_newAt : Nat → Int32} {i_partings : Int32} {a_lowSet : Nat → Int32} {a_highSet : Nat → Int32} {i_leastMany : Int32} {a_leastAt : Nat → Int32} {a_tried : Nat → Int32} {a_keptLow : Nat → Int64} {a_keptHigh : Nat → Int64} {i_laid : Int32} {a_wants : Nat → Int32} {i_wide : Int32} {a_wideAsked : Nat → Int32} {a_wideOnes : Nat → Int32} {i_sum : Int32} {i_flickers : Int32} {a_sumAt : Nat → Int32} {j_h : Int64} {post : (Nat → Int64) → (Nat → Int64) → Prop} {KL : Int32 → (Nat → Int64) → (Nat → Int64) → Prop} {x1 : Int32} {x2 : Int32} {x3 : Int64} {v0 : Int64} {v1 : Int64} {v2 : Int32} (X : kC p R s m args meth c cX10_layKept RX10 5 none 1) (hK : va_K D vwCl (tyM cA) s) (hL : ∀ (x2 : Int32) (a_keptLow : Nat → Int64) (a_keptHigh : Nat → Int64), KL x2 a_keptLow a_keptHigh → ∀ (ls : Array Slot) (H : Heap) (locs : List Loc), lv_has ls 5 [(0, .ref (q 0)), (1, .int x1), (2, .int x2)] → va_P D vwCl (wM q cA i_pageLength a_page i_states i_columns a_entries i_signals a_signalAt i_walksAt i_turned i_changed i_read i_newRows i_newEntries i_newColumns i_greatest a_newAt i_partings a_lowSet a_highSet i_leastMany a_leastAt a_tried a_keptLow a_keptHigh i_laid a_wants i_wide a_wideAsked a_wideOnes i_sum i_flickers a_sumAt j_h) H → va_D A (wM q cA i_pageLength a_page i_states i_columns a_entries i_signals a_signalAt i_walksAt i_turned i_changed i_read i_newRows i_newEntries i_newColumns i_greatest a_newAt i_partings a_lowSet a_highSet i_leastMany a_leastAt a_tried a_keptLow a_keptHigh i_laid a_wants i_wide a_wideAsked a_wideOnes i_sum i_flickers a_sumAt j_h) → va_S A s.heap H locs → W p l e R s m args below meth c H locs 0 0 (MQ below (qWv (Z_X10_layKept D q cA i_pageLength a_page i_states i_columns a_entries i_signals a_signalAt i_walksAt i_turned i_changed i_read i_newRows i_newEntries i_newColumns i_greatest a_newAt i_partings a_lowSet a_highSet i_leastMany a_leastAt a_tried i_laid a_wants i_wide a_wideAsked a_wideOnes i_sum i_flickers a_sumAt j_h post) A) args s 0 0 A) (F0 m 28 ls [])) (hw : j_X10_layKept_81 KL a_keptLow a_keptHigh x1 x2 x3 v0 v1 v2) (ls : Array Slot) (H : Heap) (locs : List Loc) (hl : lv_has ls 5 [(0, .ref (q 0)), (1, .int x1), (2, .int x2), (3, .long x3)]) (hP : va_P D vwCl (wM q cA i_pageLength a_page i_states i_columns a_entries i_signals a_signalAt i_walksAt i_turned i_changed i_read i_newRows i_newEntries i_newColumns i_greatest a_newAt i_partings a_lowSet a_highSet i_leastMany a_leastAt a_tried a_keptLow a_keptHigh i_laid a_wants i_wide a_wideAsked a_wideOnes i_sum i_flickers a_sumAt j_h) H) (hD : va_D A (wM q cA i_pageLength a_page i_states i_columns a_entries i_signals a_signalAt i_walksAt i_turned i_changed i_read i_newRows i_newEntries i_newColumns i_greatest a_newAt i_partings a_lowSet a_highSet i_leastMany a_leastAt a_tried a_keptLow a_keptHigh i_laid a_wants i_wide a_wideAsked a_wideOnes i_sum i_flickers a_sumAt j_h)) (hS : va_S A s.heap H locs) : W p l e R s m args below meth c H locs 0 0 (MQ below (qWv (Z_X10_layKept D q cA i_pageLength a_page i_states i_columns a_entries i_signals a_signalAt i_walksAt i_turned i_changed i_read i_newRows i_newEntries i_newColumns i_greatest a_newAt i_partings a_lowSet a_highSet i_leastMany a_leastAt a_tried i_laid a_wants i_wide a_wideAsked a_wideOnes i_sum i_flickers a_sumAt j_h post) A) args s 0 0 A) (F0 m 81 ls [.long v0, .long v1, .int v2, .ref (q 9)]) := by
  obtain ⟨hx, hb, hml, hown, hts, hr, hlocks, hRf, hRl⟩ := id X
  refine lv_lor hx hb dX10_layKept_81 ?_
  have h_11 := hw.1
  have hw := hw.2
  refine st_a_keptLow hx hb hK hP hD hS h_11 dX10_layKept_82 (fun H locs a_11 e_11 hP hD hS => ?_)
  have hw := hw a_11 e_11
  refine lv_aload_n hx hb dX10_layKept_83 rfl (lv_at hl 0 rfl) ?_
  refine gRX10_45 hx hb hown hts hK hP dX10_layKept_84 ?_
  refine lv_iload_n hx hb dX10_layKept_87 rfl (lv_at hl 1 rfl) ?_
  refine lv_dup2_11 hx hb dX10_layKept_88 rfl rfl ?_
  have h_12 := hw.1
  have hw := hw.2
  refine ld_a_keptHigh hx hb hK hP h_12 dX10_layKept_89 ?_
  refine lv_iload_n hx hb dX10_layKept_90 rfl (lv_at hl 2 rfl) ?_
  refine lv_bipush (v := (40 : Int32)) hx hb dX10_layKept_91 (by decide +kernel) ?_
  refine lv_icmp_ge (tgt := 100) hx hb dX10_layKept_93 (by decide) (fun c_13 => ?_) (fun c_13 => ?_)
  · have hw := hw.1 c_13
    refine lv_lload_n hx hb dX10_layKept_100 rfl (lv_at hl 3 rfl) ?_
    refine lv_iload_n hx hb dX10_layKept_101 rfl (lv_at hl 2 rfl) ?_
    refine lv_bipush (v := (40 : Int32)) hx hb dX10_layKept_102 (by decide +kernel) ?_
    refine lv_isub hx hb dX10_layKept_104 ?_
    refine lv_lshl hx hb dX10_layKept_105 rfl ?_
    refine lv_lor hx hb dX10_layKept_106 ?_
    have h_14 := hw.1
    have hw := hw.2
    refine st_a_keptHigh hx hb hK hP hD hS h_14 dX10_layKept_107 (fun H locs a_14 e_14 hP hD hS => ?_)
    have hw := hw a_14 e_14
    obtain ⟨x2_15, e_15⟩ : ∃ z : Int32, z = x2 + (1 : Int32) := ⟨_, rfl⟩
    have hw := hw x2_15 e_15
    refine lv_iinc (v := x2_15) (lv' := [(2, .int x2_15), (0, .ref (q 0)), (1, .int x1), (3, .long x3)]) hx hb dX10_layKept_108 hl (k := 2) rfl (by rw [e_15]; rfl) (by decide) rfl (fun ls hl => ?_)
    refine lv_goto (tgt := 28) hx hb dX10_layKept_111 (by decide) ?_
    exact hL _ _ _ hw ls _ _ (lv_sub hl [1, 2, 0] rfl) hP hD hS
  · have hw := hw.2 c_13
    refine lv_lconst (v := (0 : Int64)) hx hb dX10_layKept_96 (by decide) ?_
    refine lv_goto (tgt := 106) hx hb dX10_layKept_97 (by decide) ?_
    refine lv_lor hx hb dX10_layKept_106 ?_
    have h_16 := hw.1
    have hw := hw.2
    refine st_a_keptHigh hx hb hK hP hD hS h_16 dX10_layKept_107 (fun H locs a_16 e_16 hP hD hS => ?_)
    have hw := hw a_16 e_16
    obtain ⟨x2_17, e_17⟩ : ∃ z : Int32, z = x2 + (1 : Int32) := ⟨_, rfl⟩
    have hw := hw x2_17 e_17
    refine lv_iinc (v := x2_17) (lv' := [(2, .int x2_17), (0, .ref (q 0)), (1, .int x1), (3, .long x3)]) hx hb dX10_layKept_108 hl (k := 2) rfl (by rw [e_17]; rfl) (by decide) rfl (fun ls hl => ?_)
    refine lv_goto (tgt := 28) hx hb dX10_layKept_111 (by decide) ?_
    exact hL _ _ _ hw ls _ _ (lv_sub hl [1, 2, 0] rfl) hP hD hS
set_option maxHeartbeats 4000000 in
set_option maxRecDepth 100000 in
theorem t_X10_layKept_60 {p : Program} {l : Launch} {e : Env} {R : Room} {s : State} {m : MethodId} {args : Array Value} {below : List Frame} {meth : Method} {c : Code} {A : Nat → Prop} {D : va_G} {q : Nat → Nat} {cA : Nat → ClassId} {i_pageLength : Int32} {a_page : Nat → Int32} {i_states : Int32} {i_columns : Int32} {a_entries : Nat → Int32} {i_signals : Int32} {a_signalAt : Nat → Int32} {i_walksAt : Int32} {i_turned : Int32} {i_changed : Int32} {i_read : Int32} {i_newRows : Int32} {i_newEntries : Int32} {i_newColumns : Int32} {i_greatest : Int32} {a_newAt : Nat → Int32} {i_partings : Int32} {a_lowSet : Nat → Int32} {a_highSet : Nat → Int32} {i_leastMany : Int32} {a_leastAt : Nat → Int32} {a_tried : Nat → Int32} {a_keptLow : Nat → Int64} {a_keptHigh : Nat → Int64} {i_laid : Int32} {a_wants : Nat → Int32} {i_wide : Int32} {a_wideAsked : Nat → Int32} {a_wideOnes : Nat → Int32} {i_sum : Int32} {i_flickers : Int32} {a_sumAt : Nat → Int32} {j_h : Int64} {post : (Nat → Int64) → (Nat → Int64) → Prop} {KL : Int32 → (Nat → Int64) → (Nat → Int64) → Prop} {x1 : Int32} {x2 : Int32} {v0 : Int64} (X : kC p R s m args meth c cX10_layKept RX10 5 none 1) (hK : va_K D vwCl (tyM cA) s) (hL : ∀ (x2 : Int32) (a_keptLow : Nat → Int64) (a_keptHigh : Nat → Int64), KL x2 a_keptLow a_keptHigh → ∀ (ls : Array Slot) (H : Heap) (locs : List Loc), lv_has ls 5 [(0, .ref (q 0)), (1, .int x1), (2, .int x2)] → va_P D vwCl (wM q cA i_pageLength a_page i_states i_columns a_entries i_signals a_signalAt i_walksAt i_turned i_changed i_read i_newRows i_newEntries i_newColumns i_greatest a_newAt i_partings a_lowSet a_highSet i_leastMany a_leastAt a_tried a_keptLow a_keptHigh i_laid a_wants i_wide a_wideAsked a_wideOnes i_sum i_flickers a_sumAt j_h) H → va_D A (wM q cA i_pageLength a_page i_states i_columns a_entries i_signals a_signalAt i_walksAt i_turned i_changed i_read i_newRows i_newEntries i_newColumns i_greatest a_newAt i_partings a_lowSet a_highSet i_leastMany a_leastAt a_tried a_keptLow a_keptHigh i_laid a_wants i_wide a_wideAsked a_wideOnes i_sum i_flickers a_sumAt j_h) → va_S A s.heap H locs → W p l e R s m args below meth c H locs 0 0 (MQ below (qWv (Z_X10_layKept D q cA i_pageLength a_page i_states i_columns a_entries i_signals a_signalAt i_walksAt i_turned i_changed i_read i_newRows i_newEntries i_newColumns i_greatest a_newAt i_partings a_lowSet a_highSet i_leastMany a_leastAt a_tried i_laid a_wants i_wide a_wideAsked a_wideOnes i_sum i_flickers a_sumAt j_h post) A) args s 0 0 A) (F0 m 28 ls [])) (hw : j_X10_layKept_60 KL a_keptLow a_keptHigh x1 x2 v0) (ls : Array Slot) (H : Heap) (locs : List Loc) (hl : lv_has ls 5 [(0, .ref (q 0)), (1, .int x1), (2, .int x2)]) (hP : va_P D vwCl (wM q cA i_pageLength a_page i_states i_columns a_entries i_signals a_signalAt i_walksAt i_turned i_changed i_read i_newRows i_newEntries i_newColumns i_greatest a_newAt i_partings a_lowSet a_highSet i_leastMany a_leastAt a_tried a_keptLow a_keptHigh i_laid a_wants i_wide a_wideAsked a_wideOnes i_sum i_flickers a_sumAt j_h) H) (hD : va_D A (wM q cA i_pageLength a_page i_states i_columns a_entries i_signals a_signalAt i_walksAt i_turned i_changed i_read i_newRows i_newEntries i_newColumns i_greatest a_newAt i_partings a_lowSet a_highSet i_leastMany a_leastAt a_tried a_keptLow a_keptHigh i_laid a_wants i_wide a_wideAsked a_wideOnes i_sum i_flickers a_sumAt j_h)) (hS : va_S A s.heap H locs) : W p l e R s m args below meth c H locs 0 0 (MQ below (qWv (Z_X10_layKept D q cA i_pageLength a_page i_states i_columns a_entries i_signals a_signalAt i_walksAt i_turned i_changed i_read i_newRows i_newEntries i_newColumns i_greatest a_newAt i_partings a_lowSet a_highSet i_leastMany a_leastAt a_tried i_laid a_wants i_wide a_wideAsked a_wideOnes i_sum i_flickers a_sumAt j_h post) A) args s 0 0 A) (F0 m 60 ls [.long v0]) := by
  obtain ⟨hx, hb, hml, hown, hts, hr, hlocks, hRf, hRl⟩ := id X
  refine lv_lstore_n (lv' := [(3, .long v0), (0, .ref (q 0)), (1, .int x1), (2, .int x2)]) hx hb dX10_layKept_60 rfl hl (by decide) rfl (fun ls hl => ?_)
  refine lv_aload_n hx hb dX10_layKept_61 rfl (lv_at hl 1 rfl) ?_
  refine gRX10_41 hx hb hown hts hK hP dX10_layKept_62 ?_
  refine lv_iload_n hx hb dX10_layKept_65 rfl (lv_at hl 2 rfl) ?_
  refine lv_dup2_11 hx hb dX10_layKept_66 rfl rfl ?_
  have h_9 := hw.1
  have hw := hw.2
  refine ld_a_keptLow hx hb hK hP h_9 dX10_layKept_67 ?_
  refine lv_iload_n hx hb dX10_layKept_68 rfl (lv_at hl 3 rfl) ?_
  refine lv_bipush (v := (40 : Int32)) hx hb dX10_layKept_69 (by decide +kernel) ?_
  refine lv_icmp_ge (tgt := 80) hx hb dX10_layKept_71 (by decide) (fun c_10 => ?_) (fun c_10 => ?_)
  · have hw := hw.1 c_10
    refine lv_lconst (v := (0 : Int64)) hx hb dX10_layKept_80 (by decide) ?_
    exact t_X10_layKept_81 X hK hL hw ls _ _ (lv_sub hl [1, 2, 3, 0] rfl) hP hD hS
  · have hw := hw.2 c_10
    refine lv_lload_n hx hb dX10_layKept_74 rfl (lv_at hl 0 rfl) ?_
    refine lv_iload_n hx hb dX10_layKept_75 rfl (lv_at hl 3 rfl) ?_
    refine lv_lshl hx hb dX10_layKept_76 rfl ?_
    refine lv_goto (tgt := 81) hx hb dX10_layKept_77 (by decide) ?_
    exact t_X10_layKept_81 X hK hL hw ls _ _ (lv_sub hl [1, 2, 3, 0] rfl) hP hD hS
set_option maxHeartbeats 4000000 in
set_option maxRecDepth 100000 in
theorem t_X10_layKept_28 {p : Program} {l : Launch} {e : Env} {R : Room} {s : State} {m : MethodId} {args : Array Value} {below : List Frame} {meth : Method} {c : Code} {A : Nat → Prop} {D : va_G} {q : Nat → Nat} {cA : Nat → ClassId} {i_pageLength : Int32} {a_page : Nat → Int32} {i_states : Int32} {i_columns : Int32} {a_entries : Nat → Int32} {i_signals : Int32} {a_signalAt : Nat → Int32} {i_walksAt : Int32} {i_turned : Int32} {i_changed : Int32} {i_read : Int32} {i_newRows : Int32} {i_newEntries : Int32} {i_newColumns : Int32} {i_greatest : Int32} {a_newAt : Nat → Int32} {i_partings : Int32} {a_lowSet : Nat → Int32} {a_highSet : Nat → Int32} {i_leastMany : Int32} {a_leastAt : Nat → Int32} {a_tried : Nat → Int32} {i_laid : Int32} {a_wants : Nat → Int32} {i_wide : Int32} {a_wideAsked : Nat → Int32} {a_wideOnes : Nat → Int32} {i_sum : Int32} {i_flickers : Int32} {a_sumAt : Nat → Int32} {j_h : Int64} {post : (Nat → Int64) → (Nat → Int64) → Prop} {KE : (Nat → Int64) → (Nat → Int64) → Prop} {x1 : Int32} (X : kC p R s m args meth c cX10_layKept RX10 5 none 1) (hK : va_K D vwCl (tyM cA) s) (hE : ∀ (a_keptLow : Nat → Int64) (a_keptHigh : Nat → Int64), KE a_keptLow a_keptHigh → ∀ (ls : Array Slot) (H : Heap) (locs : List Loc), lv_has ls 5 [(0, .ref (q 0)), (1, .int x1)] → va_P D vwCl (wM q cA i_pageLength a_page i_states i_columns a_entries i_signals a_signalAt i_walksAt i_turned i_changed i_read i_newRows i_newEntries i_newColumns i_greatest a_newAt i_partings a_lowSet a_highSet i_leastMany a_leastAt a_tried a_keptLow a_keptHigh i_laid a_wants i_wide a_wideAsked a_wideOnes i_sum i_flickers a_sumAt j_h) H → va_D A (wM q cA i_pageLength a_page i_states i_columns a_entries i_signals a_signalAt i_walksAt i_turned i_changed i_read i_newRows i_newEntries i_newColumns i_greatest a_newAt i_partings a_lowSet a_highSet i_leastMany a_leastAt a_tried a_keptLow a_keptHigh i_laid a_wants i_wide a_wideAsked a_wideOnes i_sum i_flickers a_sumAt j_h) → va_S A s.heap H locs → W p l e R s m args below meth c H locs 0 0 (MQ below (qWv (Z_X10_layKept D q cA i_pageLength a_page i_states i_columns a_entries i_signals a_signalAt i_walksAt i_turned i_changed i_read i_newRows i_newEntries i_newColumns i_greatest a_newAt i_partings a_lowSet a_highSet i_leastMany a_leastAt a_tried i_laid a_wants i_wide a_wideAsked a_wideOnes i_sum i_flickers a_sumAt j_h post) A) args s 0 0 A) (F0 m 114 ls [])) : ∀ (n : Nat) (x2 : Int32) (a_keptLow : Nat → Int64) (a_keptHigh : Nat → Int64), w_X10_layKept_28 KE i_partings a_lowSet a_highSet x1 n x2 a_keptLow a_keptHigh → ∀ (ls : Array Slot) (H : Heap) (locs : List Loc), lv_has ls 5 [(0, .ref (q 0)), (1, .int x1), (2, .int x2)] → va_P D vwCl (wM q cA i_pageLength a_page i_states i_columns a_entries i_signals a_signalAt i_walksAt i_turned i_changed i_read i_newRows i_newEntries i_newColumns i_greatest a_newAt i_partings a_lowSet a_highSet i_leastMany a_leastAt a_tried a_keptLow a_keptHigh i_laid a_wants i_wide a_wideAsked a_wideOnes i_sum i_flickers a_sumAt j_h) H → va_D A (wM q cA i_pageLength a_page i_states i_columns a_entries i_signals a_signalAt i_walksAt i_turned i_changed i_read i_newRows i_newEntries i_newColumns i_greatest a_newAt i_partings a_lowSet a_highSet i_leastMany a_leastAt a_tried a_keptLow a_keptHigh i_laid a_wants i_wide a_wideAsked a_wideOnes i_sum i_flickers a_sumAt j_h) → va_S A s.heap H locs → W p l e R s m args below meth c H locs 0 0 (MQ below (qWv (Z_X10_layKept D q cA i_pageLength a_page i_states i_columns a_entries i_signals a_signalAt i_walksAt i_turned i_changed i_read i_newRows i_newEntries i_newColumns i_greatest a_newAt i_partings a_lowSet a_highSet i_leastMany a_leastAt a_tried i_laid a_wants i_wide a_wideAsked a_wideOnes i_sum i_flickers a_sumAt j_h post) A) args s 0 0 A) (F0 m 28 ls []) := by
  obtain ⟨hx, hb, hml, hown, hts, hr, hlocks, hRf, hRl⟩ := id X
  intro n
  induction n with
  | zero => intro x2 a_keptLow a_keptHigh hw; exact (show False from hw).elim
  | succ n ih =>
    intro x2 a_keptLow a_keptHigh hw ls H locs hl hP hD hS
    refine lv_iload_n hx hb dX10_layKept_28 rfl (lv_at hl 2 rfl) ?_
    refine lv_aload_n hx hb dX10_layKept_29 rfl (lv_at hl 0 rfl) ?_
    refine gRX10_133 hx hb hown hts hK hP dX10_layKept_30 ?_
    refine lv_icmp_ge (tgt := 114) hx hb dX10_layKept_33 (by decide) (fun c_4 => ?_) (fun c_4 => ?_)
    · have hw := hw.1 c_4
      exact hE _ _ hw ls _ _ (lv_sub hl [0, 1] rfl) hP hD hS
    · have hw := hw.2 c_4
      refine lv_iload_n hx hb dX10_layKept_36 rfl (lv_at hl 1 rfl) ?_
      refine lv_aload_n hx hb dX10_layKept_37 rfl (lv_at hl 0 rfl) ?_
      refine gRX10_26 hx hb hown hts hK hP dX10_layKept_38 ?_
      refine lv_iload_n hx hb dX10_layKept_41 rfl (lv_at hl 2 rfl) ?_
      have h_5 := hw.1
      have hw := hw.2
      refine ld_a_lowSet hx hb hK hP h_5 dX10_layKept_42 ?_
      refine lv_aload_n hx hb dX10_layKept_43 rfl (lv_at hl 0 rfl) ?_
      refine gRX10_29 hx hb hown hts hK hP dX10_layKept_44 ?_
      refine lv_iload_n hx hb dX10_layKept_47 rfl (lv_at hl 2 rfl) ?_
      have h_6 := hw.1
      have hw := hw.2
      refine ld_a_highSet hx hb hK hP h_6 dX10_layKept_48 ?_
      refine ro_i (va_runS (As := [.int x1, .int (a_lowSet x2.toNatClampNeg), .int (a_highSet x2.toNatClampNeg)]) (rest := []) ⟨hx, hb, hml, hown, hts⟩ (c_X10_keeps l hw) (kRX10_152 (h := 0) hts (Nat.le_trans (Nat.le_of_ble_eq_true rfl) hRf) (Nat.le_trans (Nat.le_of_ble_eq_true rfl) hRl)) pre_0 rfl rfl hl.1 rfl (lv_room (Nat.le_of_ble_eq_true rfl)) dX10_layKept_49 ⟨Nat.zero_le _, Nat.zero_le _⟩) (fun r_7 hw => ?_)
      refine lv_if_eq (tgt := 59) hx hb dX10_layKept_52 (by decide) (fun c_8 => ?_) (fun c_8 => ?_)
      · have hw := hw.1 c_8
        refine lv_lconst (v := (0 : Int64)) hx hb dX10_layKept_59 (by decide) ?_
        exact t_X10_layKept_60 X hK ih hw ls _ _ (lv_sub hl [0, 1, 2] rfl) hP hD hS
      · have hw := hw.2 c_8
        refine lv_lconst (v := (1 : Int64)) hx hb dX10_layKept_55 (by decide) ?_
        refine lv_goto (tgt := 60) hx hb dX10_layKept_56 (by decide) ?_
        exact t_X10_layKept_60 X hK ih hw ls _ _ (lv_sub hl [0, 1, 2] rfl) hP hD hS
set_option maxHeartbeats 4000000 in
set_option maxRecDepth 100000 in
theorem t_X10_layKept_2 {p : Program} {l : Launch} {e : Env} {R : Room} {s : State} {m : MethodId} {args : Array Value} {below : List Frame} {meth : Method} {c : Code} {A : Nat → Prop} {D : va_G} {q : Nat → Nat} {cA : Nat → ClassId} {i_pageLength : Int32} {a_page : Nat → Int32} {i_states : Int32} {i_columns : Int32} {a_entries : Nat → Int32} {i_signals : Int32} {a_signalAt : Nat → Int32} {i_walksAt : Int32} {i_turned : Int32} {i_changed : Int32} {i_read : Int32} {i_newRows : Int32} {i_newEntries : Int32} {i_newColumns : Int32} {i_greatest : Int32} {a_newAt : Nat → Int32} {i_partings : Int32} {a_lowSet : Nat → Int32} {a_highSet : Nat → Int32} {i_leastMany : Int32} {a_leastAt : Nat → Int32} {a_tried : Nat → Int32} {i_laid : Int32} {a_wants : Nat → Int32} {i_wide : Int32} {a_wideAsked : Nat → Int32} {a_wideOnes : Nat → Int32} {i_sum : Int32} {i_flickers : Int32} {a_sumAt : Nat → Int32} {j_h : Int64} {post : (Nat → Int64) → (Nat → Int64) → Prop} {KE : (Nat → Int64) → (Nat → Int64) → Prop} (X : kC p R s m args meth c cX10_layKept RX10 5 none 1) (hK : va_K D vwCl (tyM cA) s) (hE : ∀ (a_keptLow : Nat → Int64) (a_keptHigh : Nat → Int64), KE a_keptLow a_keptHigh → ∀ (ls : Array Slot) (H : Heap) (locs : List Loc), lv_has ls 5 [] → va_P D vwCl (wM q cA i_pageLength a_page i_states i_columns a_entries i_signals a_signalAt i_walksAt i_turned i_changed i_read i_newRows i_newEntries i_newColumns i_greatest a_newAt i_partings a_lowSet a_highSet i_leastMany a_leastAt a_tried a_keptLow a_keptHigh i_laid a_wants i_wide a_wideAsked a_wideOnes i_sum i_flickers a_sumAt j_h) H → va_D A (wM q cA i_pageLength a_page i_states i_columns a_entries i_signals a_signalAt i_walksAt i_turned i_changed i_read i_newRows i_newEntries i_newColumns i_greatest a_newAt i_partings a_lowSet a_highSet i_leastMany a_leastAt a_tried a_keptLow a_keptHigh i_laid a_wants i_wide a_wideAsked a_wideOnes i_sum i_flickers a_sumAt j_h) → va_S A s.heap H locs → W p l e R s m args below meth c H locs 0 0 (MQ below (qWv (Z_X10_layKept D q cA i_pageLength a_page i_states i_columns a_entries i_signals a_signalAt i_walksAt i_turned i_changed i_read i_newRows i_newEntries i_newColumns i_greatest a_newAt i_partings a_lowSet a_highSet i_leastMany a_leastAt a_tried i_laid a_wants i_wide a_wideAsked a_wideOnes i_sum i_flickers a_sumAt j_h post) A) args s 0 0 A) (F0 m 120 ls [])) : ∀ (n : Nat) (x1 : Int32) (a_keptLow : Nat → Int64) (a_keptHigh : Nat → Int64), w_X10_layKept_2 KE i_states i_partings a_lowSet a_highSet n x1 a_keptLow a_keptHigh → ∀ (ls : Array Slot) (H : Heap) (locs : List Loc), lv_has ls 5 [(0, .ref (q 0)), (1, .int x1)] → va_P D vwCl (wM q cA i_pageLength a_page i_states i_columns a_entries i_signals a_signalAt i_walksAt i_turned i_changed i_read i_newRows i_newEntries i_newColumns i_greatest a_newAt i_partings a_lowSet a_highSet i_leastMany a_leastAt a_tried a_keptLow a_keptHigh i_laid a_wants i_wide a_wideAsked a_wideOnes i_sum i_flickers a_sumAt j_h) H → va_D A (wM q cA i_pageLength a_page i_states i_columns a_entries i_signals a_signalAt i_walksAt i_turned i_changed i_read i_newRows i_newEntries i_newColumns i_greatest a_newAt i_partings a_lowSet a_highSet i_leastMany a_leastAt a_tried a_keptLow a_keptHigh i_laid a_wants i_wide a_wideAsked a_wideOnes i_sum i_flickers a_sumAt j_h) → va_S A s.heap H locs → W p l e R s m args below meth c H locs 0 0 (MQ below (qWv (Z_X10_layKept D q cA i_pageLength a_page i_states i_columns a_entries i_signals a_signalAt i_walksAt i_turned i_changed i_read i_newRows i_newEntries i_newColumns i_greatest a_newAt i_partings a_lowSet a_highSet i_leastMany a_leastAt a_tried i_laid a_wants i_wide a_wideAsked a_wideOnes i_sum i_flickers a_sumAt j_h post) A) args s 0 0 A) (F0 m 2 ls []) := by
  obtain ⟨hx, hb, hml, hown, hts, hr, hlocks, hRf, hRl⟩ := id X
  intro n
  induction n with
  | zero => intro x1 a_keptLow a_keptHigh hw; exact (show False from hw).elim
  | succ n ih =>
    intro x1 a_keptLow a_keptHigh hw ls H locs hl hP hD hS
    refine lv_iload_n hx hb dX10_layKept_2 rfl (lv_at hl 1 rfl) ?_
    refine lv_iconst (v := (1 : Int32)) hx hb dX10_layKept_3 (by decide) ?_
    refine lv_aload_n hx hb dX10_layKept_4 rfl (lv_at hl 0 rfl) ?_
    refine gRX10_87 hx hb hown hts hK hP dX10_layKept_5 ?_
    refine lv_ishl hx hb dX10_layKept_8 ?_
    refine lv_icmp_ge (tgt := 120) hx hb dX10_layKept_9 (by decide) (fun c_1 => ?_) (fun c_1 => ?_)
    · have hw := hw.1 c_1
      exact hE _ _ hw ls _ _ (lv_sub hl [] rfl) hP hD hS
    · have hw := hw.2 c_1
      refine lv_aload_n hx hb dX10_layKept_12 rfl (lv_at hl 0 rfl) ?_
      refine gRX10_41 hx hb hown hts hK hP dX10_layKept_13 ?_
      refine lv_iload_n hx hb dX10_layKept_16 rfl (lv_at hl 1 rfl) ?_
      refine lv_lconst (v := (0 : Int64)) hx hb dX10_layKept_17 (by decide) ?_
      have h_2 := hw.1
      have hw := hw.2
      refine st_a_keptLow hx hb hK hP hD hS h_2 dX10_layKept_18 (fun H locs a_2 e_2 hP hD hS => ?_)
      have hw := hw a_2 e_2
      refine lv_aload_n hx hb dX10_layKept_19 rfl (lv_at hl 0 rfl) ?_
      refine gRX10_45 hx hb hown hts hK hP dX10_layKept_20 ?_
      refine lv_iload_n hx hb dX10_layKept_23 rfl (lv_at hl 1 rfl) ?_
      refine lv_lconst (v := (0 : Int64)) hx hb dX10_layKept_24 (by decide) ?_
      have h_3 := hw.1
      have hw := hw.2
      refine st_a_keptHigh hx hb hK hP hD hS h_3 dX10_layKept_25 (fun H locs a_3 e_3 hP hD hS => ?_)
      have hw := hw a_3 e_3
      refine lv_iconst (v := (0 : Int32)) hx hb dX10_layKept_26 (by decide) ?_
      refine lv_istore_n (lv' := [(2, .int (0 : Int32)), (0, .ref (q 0)), (1, .int x1)]) hx hb dX10_layKept_27 rfl hl (by decide) rfl (fun ls hl => ?_)
      obtain ⟨n_18, hw⟩ := hw
      refine t_X10_layKept_28 X hK (fun ykeptLow_18 ykeptHigh_18 hw ls H locs hl hP hD hS => ?_) n_18 _ _ _ hw ls _ _ (lv_sub hl [1, 2, 0] rfl) hP hD hS
      obtain ⟨x1_19, e_19⟩ : ∃ z : Int32, z = x1 + (1 : Int32) := ⟨_, rfl⟩
      have hw := hw x1_19 e_19
      refine lv_iinc (v := x1_19) (lv' := [(1, .int x1_19), (0, .ref (q 0))]) hx hb dX10_layKept_114 hl (k := 1) rfl (by rw [e_19]; rfl) (by decide) rfl (fun ls hl => ?_)
      refine lv_goto (tgt := 2) hx hb dX10_layKept_117 (by decide) ?_
      exact ih _ _ _ hw ls _ _ (lv_sub hl [1, 0] rfl) hP hD hS
set_option maxHeartbeats 4000000 in
set_option maxRecDepth 100000 in
theorem c_X10_layKept (l : Launch) {D : va_G} {q : Nat → Nat} {cA : Nat → ClassId} {i_pageLength : Int32} {a_page : Nat → Int32} {i_states : Int32} {i_columns : Int32} {a_entries : Nat → Int32} {i_signals : Int32} {a_signalAt : Nat → Int32} {i_walksAt : Int32} {i_turned : Int32} {i_changed : Int32} {i_read : Int32} {i_newRows : Int32} {i_newEntries : Int32} {i_newColumns : Int32} {i_greatest : Int32} {a_newAt : Nat → Int32} {i_partings : Int32} {a_lowSet : Nat → Int32} {a_highSet : Nat → Int32} {i_leastMany : Int32} {a_leastAt : Nat → Int32} {a_tried : Nat → Int32} {a_keptLow : Nat → Int64} {a_keptHigh : Nat → Int64} {i_laid : Int32} {a_wants : Nat → Int32} {i_wide : Int32} {a_wideAsked : Nat → Int32} {a_wideOnes : Nat → Int32} {i_sum : Int32} {i_flickers : Int32} {a_sumAt : Nat → Int32} {j_h : Int64} {A : Nat → Prop} {post : (Nat → Int64) → (Nat → Int64) → Prop}  (hw : wp_X10_layKept post i_states i_partings a_lowSet a_highSet a_keptLow a_keptHigh ) : Met l yX10_layKept (Cond.code yX10_layKept cX10_layKept 5 none :: wsL_law) (rmH 1) (va_Pc [.ref (q 0)] (fun U => va_P D vwCl (wM q cA i_pageLength a_page i_states i_columns a_entries i_signals a_signalAt i_walksAt i_turned i_changed i_read i_newRows i_newEntries i_newColumns i_greatest a_newAt i_partings a_lowSet a_highSet i_leastMany a_leastAt a_tried a_keptLow a_keptHigh i_laid a_wants i_wide a_wideAsked a_wideOnes i_sum i_flickers a_sumAt j_h) U.heap ∧ va_K D vwCl (tyM cA) U ∧ va_D A (wM q cA i_pageLength a_page i_states i_columns a_entries i_signals a_signalAt i_walksAt i_turned i_changed i_read i_newRows i_newEntries i_newColumns i_greatest a_newAt i_partings a_lowSet a_highSet i_leastMany a_leastAt a_tried a_keptLow a_keptHigh i_laid a_wants i_wide a_wideAsked a_wideOnes i_sum i_flickers a_sumAt j_h))) (qWv (Z_X10_layKept D q cA i_pageLength a_page i_states i_columns a_entries i_signals a_signalAt i_walksAt i_turned i_changed i_read i_newRows i_newEntries i_newColumns i_greatest a_newAt i_partings a_lowSet a_highSet i_leastMany a_leastAt a_tried i_laid a_wants i_wide a_wideAsked a_wideOnes i_sum i_flickers a_sumAt j_h post) A) 0 0 A := by
  refine Met.ofW (cc := cX10_layKept) (maxL := 5) (ret := none) (by decide) rfl ?_
  intro p e s m args below meth c s₁ B hml hv
  obtain ⟨rfl, hP, hK, hD⟩ := hv
  have X : kC p (headSpec (Cond.code yX10_layKept cX10_layKept 5 none :: wsL_law) (rmH 1)).room s m _ meth c cX10_layKept RX10 5 none 1 := ⟨B.exec, B.bytes, hml, findClass_of_methodNamed B.named, fun w h => atoms_spec (ws := Cond.code yX10_layKept cX10_layKept 5 none :: wsL_law) B.pre w (List.mem_cons_of_mem _ h), B.returns, B.notSynchronized, Nat.le_refl _, Nat.le_refl _⟩
  obtain ⟨hx, hb, hml, hown, hts, hr, hlocks, hRf, hRl⟩ := id X
  have hS : va_S A s.heap s.heap [] := va_S.rf
  have hl := lv_entry ([.ref (q 0)]) (n := 5) (Nat.le_of_ble_eq_true rfl)
  rw [lg_entry_eq]
  generalize (lg_sl ([.ref (q 0)]) ++ List.replicate (5 - (lg_sl ([.ref (q 0)])).length) Slot.unset).toArray = ls at hl ⊢
  have hl : lv_has ls 5 [(0, .ref (q 0))] := hl
  refine lv_iconst (v := (0 : Int32)) hx hb dX10_layKept_0 (by decide) ?_
  refine lv_istore_n (lv' := [(1, .int (0 : Int32)), (0, .ref (q 0))]) hx hb dX10_layKept_1 rfl hl (by decide) rfl (fun ls hl => ?_)
  obtain ⟨n_20, hw⟩ := hw
  refine t_X10_layKept_2 X hK (fun ykeptLow_20 ykeptHigh_20 hw ls H locs hl hP hD hS => ?_) n_20 _ _ _ hw ls _ _ (lv_sub hl [1, 0] rfl) hP hD hS
  exact rw_v hx hb hr hlocks (fun t ht => ⟨ykeptLow_20, ykeptHigh_20, hw, by rw [ht]; exact hP⟩) hS dX10_layKept_120
