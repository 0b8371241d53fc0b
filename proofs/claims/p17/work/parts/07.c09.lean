set_option maxHeartbeats 4000000 in
set_option maxRecDepth 100000 in
theorem t_X10_areMeeting_6 {p : Program} {l : Launch} {e : Env} {R : Room} {s : State} {m : MethodId} {args : Array Value} {below : List Frame} {meth : Method} {c : Code} {D : va_G} {q : Nat → Nat} {cA : Nat → ClassId} {i_pageLength : Int32} {a_page : Nat → Int32} {i_states : Int32} {i_columns : Int32} {a_entries : Nat → Int32} {i_signals : Int32} {a_signalAt : Nat → Int32} {i_walksAt : Int32} {i_turned : Int32} {i_changed : Int32} {i_read : Int32} {i_newRows : Int32} {i_newEntries : Int32} {i_newColumns : Int32} {i_greatest : Int32} {a_newAt : Nat → Int32} {i_partings : Int32} {a_lowSet : Nat → Int32} {a_highSet : Nat → Int32} {i_leastMany : Int32} {a_leastAt : Nat → Int32} {a_tried : Nat → Int32} {a_keptLow : Nat → Int64} {a_keptHigh : Nat → Int64} {i_laid : Int32} {a_wants : Nat → Int32} {i_wide : Int32} {a_wideAsked : Nat → Int32} {a_wideOnes : Nat → Int32} {i_sum : Int32} {i_flickers : Int32} {a_sumAt : Nat → Int32} {j_h : Int64} {post : Int32 → Prop} {KE : Int32 → Prop} {x1 : Int32} {x2 : Int32} {x3 : Int32} (X : kC p R s m args meth c cX10_areMeeting RX10 6 (some .boolean) 2) (hK : va_K D vwCl (tyM cA) s) (hP : va_P D vwCl (wM q cA i_pageLength a_page i_states i_columns a_entries i_signals a_signalAt i_walksAt i_turned i_changed i_read i_newRows i_newEntries i_newColumns i_greatest a_newAt i_partings a_lowSet a_highSet i_leastMany a_leastAt a_tried a_keptLow a_keptHigh i_laid a_wants i_wide a_wideAsked a_wideOnes i_sum i_flickers a_sumAt j_h) s.heap) (hE : ∀ (x4 : Int32), KE x4 → ∀ (ls : Array Slot), lv_has ls 6 [(4, .int x4)] → W p l e R s m args below meth c s.heap [] 0 0 (MQ below (qRi post) args s 0 0 (fun _ => False)) (F0 m 57 ls [])) : ∀ (n : Nat) (x4 : Int32) (x5 : Int32), w_X10_areMeeting_6 KE a_entries i_signals a_signalAt x1 x2 x3 n x4 x5 → ∀ (ls : Array Slot), lv_has ls 6 [(0, .ref (q 0)), (1, .int x1), (2, .int x2), (3, .int x3), (4, .int x4), (5, .int x5)] → W p l e R s m args below meth c s.heap [] 0 0 (MQ below (qRi post) args s 0 0 (fun _ => False)) (F0 m 6 ls []) := by
  obtain ⟨hx, hb, hml, hown, hts, hr, hlocks, hRf, hRl⟩ := id X
  intro n
  induction n with
  | zero => intro x4 x5 hw; exact (show False from hw).elim
  | succ n ih =>
    intro x4 x5 hw ls hl
    refine lv_iload hx hb dX10_areMeeting_6 (lv_at hl 5 rfl) ?_
    refine lv_iconst (v := (1 : Int32)) hx hb dX10_areMeeting_8 (by decide) ?_
    refine lv_aload_n hx hb dX10_areMeeting_9 rfl (lv_at hl 0 rfl) ?_
    refine gRX10_99 hx hb hown hts hK hP dX10_areMeeting_10 ?_
    refine lv_ishl hx hb dX10_areMeeting_13 ?_
    refine lv_icmp_ge (tgt := 57) hx hb dX10_areMeeting_14 (by decide) (fun c_1 => ?_) (fun c_1 => ?_)
    · have hw := hw.1 c_1
      exact hE _ hw ls (lv_sub hl [4] rfl)
    · have hw := hw.2 c_1
      refine lv_iload hx hb dX10_areMeeting_17 (lv_at hl 4 rfl) ?_
      refine lv_if_ne (tgt := 44) hx hb dX10_areMeeting_19 (by decide) (fun c_2 => ?_) (fun c_2 => ?_)
      · have hw := hw.2 c_2
        refine lv_iconst (v := (1 : Int32)) hx hb dX10_areMeeting_44 (by decide) ?_
        refine lv_goto (tgt := 49) hx hb dX10_areMeeting_45 (by decide) ?_
        refine lv_istore (lv' := [(4, .int (1 : Int32)), (0, .ref (q 0)), (1, .int x1), (2, .int x2), (3, .int x3), (5, .int x5)]) hx hb dX10_areMeeting_49 hl (by decide) rfl (fun ls hl => ?_)
        obtain ⟨x5_3, e_3⟩ : ∃ z : Int32, z = x5 + (1 : Int32) := ⟨_, rfl⟩
        have hw := hw x5_3 e_3
        refine lv_iinc (v := x5_3) (lv' := [(5, .int x5_3), (4, .int (1 : Int32)), (0, .ref (q 0)), (1, .int x1), (2, .int x2), (3, .int x3)]) hx hb dX10_areMeeting_51 hl (k := 5) rfl (by rw [e_3]; rfl) (by decide) rfl (fun ls hl => ?_)
        refine lv_goto (tgt := 6) hx hb dX10_areMeeting_54 (by decide) ?_
        exact ih _ _ hw ls (lv_sub hl [2, 3, 4, 5, 1, 0] rfl)
      · have hw := hw.1 c_2
        refine lv_aload_n hx hb dX10_areMeeting_22 rfl (lv_at hl 0 rfl) ?_
        refine lv_iload hx hb dX10_areMeeting_23 (lv_at hl 5 rfl) ?_
        refine lv_iload_n hx hb dX10_areMeeting_25 rfl (lv_at hl 1 rfl) ?_
        refine lv_iload_n hx hb dX10_areMeeting_26 rfl (lv_at hl 3 rfl) ?_
        refine ro_i (va_runV (As := [.int x5, .int x1, .int x3]) (rest := []) ⟨hx, hb, hml, hown, hts⟩ (c_X10_isOnWay l hw) (kRX10_181 (h := 1) hts (Nat.le_trans (Nat.le_of_ble_eq_true rfl) hRf) (Nat.le_trans (Nat.le_of_ble_eq_true rfl) hRl)) (preM hK hP) rfl rfl hl.1 rfl (lv_room (Nat.le_of_ble_eq_true rfl)) dX10_areMeeting_27 ⟨Nat.zero_le _, Nat.zero_le _⟩) (fun r_4 hw => ?_)
        refine lv_if_eq (tgt := 48) hx hb dX10_areMeeting_30 (by decide) (fun c_5 => ?_) (fun c_5 => ?_)
        · have hw := hw.1 c_5
          refine lv_iconst (v := (0 : Int32)) hx hb dX10_areMeeting_48 (by decide) ?_
          refine lv_istore (lv' := [(4, .int (0 : Int32)), (0, .ref (q 0)), (1, .int x1), (2, .int x2), (3, .int x3), (5, .int x5)]) hx hb dX10_areMeeting_49 hl (by decide) rfl (fun ls hl => ?_)
          obtain ⟨x5_6, e_6⟩ : ∃ z : Int32, z = x5 + (1 : Int32) := ⟨_, rfl⟩
          have hw := hw x5_6 e_6
          refine lv_iinc (v := x5_6) (lv' := [(5, .int x5_6), (4, .int (0 : Int32)), (0, .ref (q 0)), (1, .int x1), (2, .int x2), (3, .int x3)]) hx hb dX10_areMeeting_51 hl (k := 5) rfl (by rw [e_6]; rfl) (by decide) rfl (fun ls hl => ?_)
          refine lv_goto (tgt := 6) hx hb dX10_areMeeting_54 (by decide) ?_
          exact ih _ _ hw ls (lv_sub hl [2, 3, 4, 5, 1, 0] rfl)
        · have hw := hw.2 c_5
          refine lv_aload_n hx hb dX10_areMeeting_33 rfl (lv_at hl 0 rfl) ?_
          refine lv_iload hx hb dX10_areMeeting_34 (lv_at hl 5 rfl) ?_
          refine lv_iload_n hx hb dX10_areMeeting_36 rfl (lv_at hl 2 rfl) ?_
          refine lv_iload_n hx hb dX10_areMeeting_37 rfl (lv_at hl 3 rfl) ?_
          refine ro_i (va_runV (As := [.int x5, .int x2, .int x3]) (rest := []) ⟨hx, hb, hml, hown, hts⟩ (c_X10_isOnWay l hw) (kRX10_181 (h := 1) hts (Nat.le_trans (Nat.le_of_ble_eq_true rfl) hRf) (Nat.le_trans (Nat.le_of_ble_eq_true rfl) hRl)) (preM hK hP) rfl rfl hl.1 rfl (lv_room (Nat.le_of_ble_eq_true rfl)) dX10_areMeeting_38 ⟨Nat.zero_le _, Nat.zero_le _⟩) (fun r_7 hw => ?_)
          refine lv_if_eq (tgt := 48) hx hb dX10_areMeeting_41 (by decide) (fun c_8 => ?_) (fun c_8 => ?_)
          · have hw := hw.1 c_8
            refine lv_iconst (v := (0 : Int32)) hx hb dX10_areMeeting_48 (by decide) ?_
            refine lv_istore (lv' := [(4, .int (0 : Int32)), (0, .ref (q 0)), (1, .int x1), (2, .int x2), (3, .int x3), (5, .int x5)]) hx hb dX10_areMeeting_49 hl (by decide) rfl (fun ls hl => ?_)
            obtain ⟨x5_9, e_9⟩ : ∃ z : Int32, z = x5 + (1 : Int32) := ⟨_, rfl⟩
            have hw := hw x5_9 e_9
            refine lv_iinc (v := x5_9) (lv' := [(5, .int x5_9), (4, .int (0 : Int32)), (0, .ref (q 0)), (1, .int x1), (2, .int x2), (3, .int x3)]) hx hb dX10_areMeeting_51 hl (k := 5) rfl (by rw [e_9]; rfl) (by decide) rfl (fun ls hl => ?_)
            refine lv_goto (tgt := 6) hx hb dX10_areMeeting_54 (by decide) ?_
            exact ih _ _ hw ls (lv_sub hl [2, 3, 4, 5, 1, 0] rfl)
          · have hw := hw.2 c_8
            refine lv_iconst (v := (1 : Int32)) hx hb dX10_areMeeting_44 (by decide) ?_
            refine lv_goto (tgt := 49) hx hb dX10_areMeeting_45 (by decide) ?_
            refine lv_istore (lv' := [(4, .int (1 : Int32)), (0, .ref (q 0)), (1, .int x1), (2, .int x2), (3, .int x3), (5, .int x5)]) hx hb dX10_areMeeting_49 hl (by decide) rfl (fun ls hl => ?_)
            obtain ⟨x5_10, e_10⟩ : ∃ z : Int32, z = x5 + (1 : Int32) := ⟨_, rfl⟩
            have hw := hw x5_10 e_10
            refine lv_iinc (v := x5_10) (lv' := [(5, .int x5_10), (4, .int (1 : Int32)), (0, .ref (q 0)), (1, .int x1), (2, .int x2), (3, .int x3)]) hx hb dX10_areMeeting_51 hl (k := 5) rfl (by rw [e_10]; rfl) (by decide) rfl (fun ls hl => ?_)
            refine lv_goto (tgt := 6) hx hb dX10_areMeeting_54 (by decide) ?_
            exact ih _ _ hw ls (lv_sub hl [2, 3, 4, 5, 1, 0] rfl)
set_option maxHeartbeats 4000000 in
set_option maxRecDepth 100000 in
theorem c_X10_areMeeting (l : Launch) {D : va_G} {q : Nat → Nat} {cA : Nat → ClassId} {i_pageLength : Int32} {a_page : Nat → Int32} {i_states : Int32} {i_columns : Int32} {a_entries : Nat → Int32} {i_signals : Int32} {a_signalAt : Nat → Int32} {i_walksAt : Int32} {i_turned : Int32} {i_changed : Int32} {i_read : Int32} {i_newRows : Int32} {i_newEntries : Int32} {i_newColumns : Int32} {i_greatest : Int32} {a_newAt : Nat → Int32} {i_partings : Int32} {a_lowSet : Nat → Int32} {a_highSet : Nat → Int32} {i_leastMany : Int32} {a_leastAt : Nat → Int32} {a_tried : Nat → Int32} {a_keptLow : Nat → Int64} {a_keptHigh : Nat → Int64} {i_laid : Int32} {a_wants : Nat → Int32} {i_wide : Int32} {a_wideAsked : Nat → Int32} {a_wideOnes : Nat → Int32} {i_sum : Int32} {i_flickers : Int32} {a_sumAt : Nat → Int32} {j_h : Int64} {post : Int32 → Prop} {x1 : Int32} {x2 : Int32} {x3 : Int32} (hw : wp_X10_areMeeting post a_entries i_signals a_signalAt x1 x2 x3) : Met l yX10_areMeeting (Cond.code yX10_areMeeting cX10_areMeeting 6 (some .boolean) :: wsL_law) (rmH 2) (va_Pc [.ref (q 0), .int x1, .int x2, .int x3] (fun U => va_P D vwCl (wM q cA i_pageLength a_page i_states i_columns a_entries i_signals a_signalAt i_walksAt i_turned i_changed i_read i_newRows i_newEntries i_newColumns i_greatest a_newAt i_partings a_lowSet a_highSet i_leastMany a_leastAt a_tried a_keptLow a_keptHigh i_laid a_wants i_wide a_wideAsked a_wideOnes i_sum i_flickers a_sumAt j_h) U.heap ∧ va_K D vwCl (tyM cA) U)) (qRi post) 0 0 (fun _ => False) := by
  refine Met.ofW (cc := cX10_areMeeting) (maxL := 6) (ret := (some .boolean)) (by decide) rfl ?_
  intro p e s m args below meth c s₁ B hml hv
  obtain ⟨rfl, hP, hK⟩ := hv
  have X : kC p (headSpec (Cond.code yX10_areMeeting cX10_areMeeting 6 (some .boolean) :: wsL_law) (rmH 2)).room s m _ meth c cX10_areMeeting RX10 6 (some .boolean) 2 := ⟨B.exec, B.bytes, hml, findClass_of_methodNamed B.named, fun w h => atoms_spec (ws := Cond.code yX10_areMeeting cX10_areMeeting 6 (some .boolean) :: wsL_law) B.pre w (List.mem_cons_of_mem _ h), B.returns, B.notSynchronized, Nat.le_refl _, Nat.le_refl _⟩
  obtain ⟨hx, hb, hml, hown, hts, hr, hlocks, hRf, hRl⟩ := id X
  have hl := lv_entry ([.ref (q 0), .int x1, .int x2, .int x3]) (n := 6) (Nat.le_of_ble_eq_true rfl)
  rw [lg_entry_eq]
  generalize (lg_sl ([.ref (q 0), .int x1, .int x2, .int x3]) ++ List.replicate (6 - (lg_sl ([.ref (q 0), .int x1, .int x2, .int x3])).length) Slot.unset).toArray = ls at hl ⊢
  have hl : lv_has ls 6 [(0, .ref (q 0)), (1, .int x1), (2, .int x2), (3, .int x3)] := hl
  refine lv_iconst (v := (0 : Int32)) hx hb dX10_areMeeting_0 (by decide) ?_
  refine lv_istore (lv' := [(4, .int (0 : Int32)), (0, .ref (q 0)), (1, .int x1), (2, .int x2), (3, .int x3)]) hx hb dX10_areMeeting_1 hl (by decide) rfl (fun ls hl => ?_)
  refine lv_iconst (v := (0 : Int32)) hx hb dX10_areMeeting_3 (by decide) ?_
  refine lv_istore (lv' := [(5, .int (0 : Int32)), (4, .int (0 : Int32)), (0, .ref (q 0)), (1, .int x1), (2, .int x2), (3, .int x3)]) hx hb dX10_areMeeting_4 hl (by decide) rfl (fun ls hl => ?_)
  obtain ⟨n_11, hw⟩ := hw
  refine t_X10_areMeeting_6 X hK hP (fun x4_11 hw ls hl => ?_) n_11 _ _ hw ls (lv_sub hl [2, 3, 4, 5, 1, 0] rfl)
  refine lv_iload hx hb dX10_areMeeting_57 (lv_at hl 0 rfl) ?_
  have hz := hw.1
  have hw := hw.2
  exact rt_z hx hb hr hlocks hz hw dX10_areMeeting_59
set_option maxHeartbeats 4000000 in
set_option maxRecDepth 100000 in
theorem t_X10_isWild_46 {p : Program} {l : Launch} {e : Env} {R : Room} {s : State} {m : MethodId} {args : Array Value} {below : List Frame} {meth : Method} {c : Code} {D : va_G} {q : Nat → Nat} {cA : Nat → ClassId} {i_pageLength : Int32} {a_page : Nat → Int32} {i_states : Int32} {i_columns : Int32} {a_entries : Nat → Int32} {i_signals : Int32} {a_signalAt : Nat → Int32} {i_walksAt : Int32} {i_turned : Int32} {i_changed : Int32} {i_read : Int32} {i_newRows : Int32} {i_newEntries : Int32} {i_newColumns : Int32} {i_greatest : Int32} {a_newAt : Nat → Int32} {i_partings : Int32} {a_lowSet : Nat → Int32} {a_highSet : Nat → Int32} {i_leastMany : Int32} {a_leastAt : Nat → Int32} {a_tried : Nat → Int32} {a_keptLow : Nat → Int64} {a_keptHigh : Nat → Int64} {i_laid : Int32} {a_wants : Nat → Int32} {i_wide : Int32} {a_wideAsked : Nat → Int32} {a_wideOnes : Nat → Int32} {i_sum : Int32} {i_flickers : Int32} {a_sumAt : Nat → Int32} {j_h : Int64} {post : Int32 → Prop} {KL : Int32 → Int32 → Prop} {x1 : Int32} {x2 : Int32} {x3 : Int32} {x4 : Int32} {v0 : Int32} (X : kC p R s m args meth c cX10_isWild RX10 6 (some .boolean) 3) (hK : va_K D vwCl (tyM cA) s) (hP : va_P D vwCl (wM q cA i_pageLength a_page i_states i_columns a_entries i_signals a_signalAt i_walksAt i_turned i_changed i_read i_newRows i_newEntries i_newColumns i_greatest a_newAt i_partings a_lowSet a_highSet i_leastMany a_leastAt a_tried a_keptLow a_keptHigh i_laid a_wants i_wide a_wideAsked a_wideOnes i_sum i_flickers a_sumAt j_h) s.heap) (hL : ∀ (x3 : Int32) (x4 : Int32), KL x3 x4 → ∀ (ls : Array Slot), lv_has ls 6 [(0, .ref (q 0)), (1, .int x1), (2, .int x2), (3, .int x3), (4, .int x4)] → W p l e R s m args below meth c s.heap [] 0 0 (MQ below (qRi post) args s 0 0 (fun _ => False)) (F0 m 5 ls [])) (hw : j_X10_isWild_46 KL a_entries i_signals a_signalAt x1 x2 x3 x4 v0) (ls : Array Slot) (hl : lv_has ls 6 [(0, .ref (q 0)), (1, .int x1), (2, .int x2), (3, .int x3), (4, .int x4)]) : W p l e R s m args below meth c s.heap [] 0 0 (MQ below (qRi post) args s 0 0 (fun _ => False)) (F0 m 46 ls [.int v0]) := by
  obtain ⟨hx, hb, hml, hown, hts, hr, hlocks, hRf, hRl⟩ := id X
  refine lv_istore (lv' := [(5, .int v0), (0, .ref (q 0)), (1, .int x1), (2, .int x2), (3, .int x3), (4, .int x4)]) hx hb dX10_isWild_46 hl (by decide) rfl (fun ls hl => ?_)
  refine lv_iload_n hx hb dX10_isWild_48 rfl (lv_at hl 4 rfl) ?_
  refine lv_if_ne (tgt := 68) hx hb dX10_isWild_49 (by decide) (fun c_4 => ?_) (fun c_4 => ?_)
  · have hw := hw.2 c_4
    refine lv_iconst (v := (1 : Int32)) hx hb dX10_isWild_68 (by decide) ?_
    refine lv_goto (tgt := 73) hx hb dX10_isWild_69 (by decide) ?_
    refine lv_istore_n (lv' := [(3, .int (1 : Int32)), (5, .int v0), (0, .ref (q 0)), (1, .int x1), (2, .int x2), (4, .int x4)]) hx hb dX10_isWild_73 rfl hl (by decide) rfl (fun ls hl => ?_)
    obtain ⟨x4_5, e_5⟩ : ∃ z : Int32, z = x4 + (1 : Int32) := ⟨_, rfl⟩
    have hw := hw x4_5 e_5
    refine lv_iinc (v := x4_5) (lv' := [(4, .int x4_5), (3, .int (1 : Int32)), (5, .int v0), (0, .ref (q 0)), (1, .int x1), (2, .int x2)]) hx hb dX10_isWild_74 hl (k := 5) rfl (by rw [e_5]; rfl) (by decide) rfl (fun ls hl => ?_)
    refine lv_goto (tgt := 5) hx hb dX10_isWild_77 (by decide) ?_
    exact hL _ _ hw ls (lv_sub hl [3, 4, 5, 1, 0] rfl)
  · have hw := hw.1 c_4
    refine lv_iload hx hb dX10_isWild_52 (lv_at hl 0 rfl) ?_
    refine lv_if_eq (tgt := 72) hx hb dX10_isWild_54 (by decide) (fun c_6 => ?_) (fun c_6 => ?_)
    · have hw := hw.1 c_6
      refine lv_iconst (v := (0 : Int32)) hx hb dX10_isWild_72 (by decide) ?_
      refine lv_istore_n (lv' := [(3, .int (0 : Int32)), (5, .int v0), (0, .ref (q 0)), (1, .int x1), (2, .int x2), (4, .int x4)]) hx hb dX10_isWild_73 rfl hl (by decide) rfl (fun ls hl => ?_)
      obtain ⟨x4_7, e_7⟩ : ∃ z : Int32, z = x4 + (1 : Int32) := ⟨_, rfl⟩
      have hw := hw x4_7 e_7
      refine lv_iinc (v := x4_7) (lv' := [(4, .int x4_7), (3, .int (0 : Int32)), (5, .int v0), (0, .ref (q 0)), (1, .int x1), (2, .int x2)]) hx hb dX10_isWild_74 hl (k := 5) rfl (by rw [e_7]; rfl) (by decide) rfl (fun ls hl => ?_)
      refine lv_goto (tgt := 5) hx hb dX10_isWild_77 (by decide) ?_
      exact hL _ _ hw ls (lv_sub hl [3, 4, 5, 1, 0] rfl)
    · have hw := hw.2 c_6
      refine lv_aload_n hx hb dX10_isWild_57 rfl (lv_at hl 1 rfl) ?_
      refine lv_iload hx hb dX10_isWild_58 (lv_at hl 5 rfl) ?_
      refine lv_iload_n hx hb dX10_isWild_60 rfl (lv_at hl 2 rfl) ?_
      refine lv_iload_n hx hb dX10_isWild_61 rfl (lv_at hl 3 rfl) ?_
      refine ro_i (va_runV (As := [.int x4, .int x1, .int x2]) (rest := []) ⟨hx, hb, hml, hown, hts⟩ (c_X10_areMeeting l hw) (kRX10_184 (h := 2) hts (Nat.le_trans (Nat.le_of_ble_eq_true rfl) hRf) (Nat.le_trans (Nat.le_of_ble_eq_true rfl) hRl)) (preM hK hP) rfl rfl hl.1 rfl (lv_room (Nat.le_of_ble_eq_true rfl)) dX10_isWild_62 ⟨Nat.zero_le _, Nat.zero_le _⟩) (fun r_8 hw => ?_)
      refine lv_if_eq (tgt := 72) hx hb dX10_isWild_65 (by decide) (fun c_9 => ?_) (fun c_9 => ?_)
      · have hw := hw.1 c_9
        refine lv_iconst (v := (0 : Int32)) hx hb dX10_isWild_72 (by decide) ?_
        refine lv_istore_n (lv' := [(3, .int (0 : Int32)), (5, .int v0), (0, .ref (q 0)), (1, .int x1), (2, .int x2), (4, .int x4)]) hx hb dX10_isWild_73 rfl hl (by decide) rfl (fun ls hl => ?_)
        obtain ⟨x4_10, e_10⟩ : ∃ z : Int32, z = x4 + (1 : Int32) := ⟨_, rfl⟩
        have hw := hw x4_10 e_10
        refine lv_iinc (v := x4_10) (lv' := [(4, .int x4_10), (3, .int (0 : Int32)), (5, .int v0), (0, .ref (q 0)), (1, .int x1), (2, .int x2)]) hx hb dX10_isWild_74 hl (k := 5) rfl (by rw [e_10]; rfl) (by decide) rfl (fun ls hl => ?_)
        refine lv_goto (tgt := 5) hx hb dX10_isWild_77 (by decide) ?_
        exact hL _ _ hw ls (lv_sub hl [3, 4, 5, 1, 0] rfl)
      · have hw := hw.2 c_9
        refine lv_iconst (v := (1 : Int32)) hx hb dX10_isWild_68 (by decide) ?_
        refine lv_goto (tgt := 73) hx hb dX10_isWild_69 (by decide) ?_
        refine lv_istore_n (lv' := [(3, .int (1 : Int32)), (5, .int v0), (0, .ref (q 0)), (1, .int x1), (2, .int x2), (4, .int x4)]) hx hb dX10_isWild_73 rfl hl (by decide) rfl (fun ls hl => ?_)
        obtain ⟨x4_11, e_11⟩ : ∃ z : Int32, z = x4 + (1 : Int32) := ⟨_, rfl⟩
        have hw := hw x4_11 e_11
        refine lv_iinc (v := x4_11) (lv' := [(4, .int x4_11), (3, .int (1 : Int32)), (5, .int v0), (0, .ref (q 0)), (1, .int x1), (2, .int x2)]) hx hb dX10_isWild_74 hl (k := 5) rfl (by rw [e_11]; rfl) (by decide) rfl (fun ls hl => ?_)
        refine lv_goto (tgt := 5) hx hb dX10_isWild_77 (by decide) ?_
        exact hL _ _ hw ls (lv_sub hl [3, 4, 5, 1, 0] rfl)
set_option maxHeartbeats 4000000 in
set_option maxRecDepth 100000 in
theorem t_X10_isWild_5 {p : Program} {l : Launch} {e : Env} {R : Room} {s : State} {m : MethodId} {args : Array Value} {below : List Frame} {meth : Method} {c : Code} {D : va_G} {q : Nat → Nat} {cA : Nat → ClassId} {i_pageLength : Int32} {a_page : Nat → Int32} {i_states : Int32} {i_columns : Int32} {a_entries : Nat → Int32} {i_signals : Int32} {a_signalAt : Nat → Int32} {i_walksAt : Int32} {i_turned : Int32} {i_changed : Int32} {i_read : Int32} {i_newRows : Int32} {i_newEntries : Int32} {i_newColumns : Int32} {i_greatest : Int32} {a_newAt : Nat → Int32} {i_partings : Int32} {a_lowSet : Nat → Int32} {a_highSet : Nat → Int32} {i_leastMany : Int32} {a_leastAt : Nat → Int32} {a_tried : Nat → Int32} {a_keptLow : Nat → Int64} {a_keptHigh : Nat → Int64} {i_laid : Int32} {a_wants : Nat → Int32} {i_wide : Int32} {a_wideAsked : Nat → Int32} {a_wideOnes : Nat → Int32} {i_sum : Int32} {i_flickers : Int32} {a_sumAt : Nat → Int32} {j_h : Int64} {post : Int32 → Prop} {KE : Int32 → Prop} {x1 : Int32} {x2 : Int32} (X : kC p R s m args meth c cX10_isWild RX10 6 (some .boolean) 3) (hK : va_K D vwCl (tyM cA) s) (hP : va_P D vwCl (wM q cA i_pageLength a_page i_states i_columns a_entries i_signals a_signalAt i_walksAt i_turned i_changed i_read i_newRows i_newEntries i_newColumns i_greatest a_newAt i_partings a_lowSet a_highSet i_leastMany a_leastAt a_tried a_keptLow a_keptHigh i_laid a_wants i_wide a_wideAsked a_wideOnes i_sum i_flickers a_sumAt j_h) s.heap) (hE : ∀ (x3 : Int32), KE x3 → ∀ (ls : Array Slot), lv_has ls 6 [(0, .ref (q 0)), (1, .int x1), (2, .int x2), (3, .int x3)] → W p l e R s m args below meth c s.heap [] 0 0 (MQ below (qRi post) args s 0 0 (fun _ => False)) (F0 m 80 ls [])) : ∀ (n : Nat) (x3 : Int32) (x4 : Int32), w_X10_isWild_5 KE i_states a_entries i_signals a_signalAt x1 x2 n x3 x4 → ∀ (ls : Array Slot), lv_has ls 6 [(0, .ref (q 0)), (1, .int x1), (2, .int x2), (3, .int x3), (4, .int x4)] → W p l e R s m args below meth c s.heap [] 0 0 (MQ below (qRi post) args s 0 0 (fun _ => False)) (F0 m 5 ls []) := by
  obtain ⟨hx, hb, hml, hown, hts, hr, hlocks, hRf, hRl⟩ := id X
  intro n
  induction n with
  | zero => intro x3 x4 hw; exact (show False from hw).elim
  | succ n ih =>
    intro x3 x4 hw ls hl
    refine lv_iload hx hb dX10_isWild_5 (lv_at hl 4 rfl) ?_
    refine lv_aload_n hx hb dX10_isWild_7 rfl (lv_at hl 0 rfl) ?_
    refine gRX10_87 hx hb hown hts hK hP dX10_isWild_8 ?_
    refine lv_icmp_ge (tgt := 80) hx hb dX10_isWild_11 (by decide) (fun c_1 => ?_) (fun c_1 => ?_)
    · have hw := hw.1 c_1
      exact hE _ hw ls (lv_sub hl [0, 1, 2, 3] rfl)
    · have hw := hw.2 c_1
      refine lv_aload_n hx hb dX10_isWild_14 rfl (lv_at hl 0 rfl) ?_
      refine lv_iload hx hb dX10_isWild_15 (lv_at hl 4 rfl) ?_
      refine lv_iload_n hx hb dX10_isWild_17 rfl (lv_at hl 2 rfl) ?_
      refine ro_i (va_runV (As := [.int x4, .int x2]) (rest := []) ⟨hx, hb, hml, hown, hts⟩ (c_X10_entryAt l hw) (kRX10_118 (h := 0) hts (Nat.le_trans (Nat.le_of_ble_eq_true rfl) hRf) (Nat.le_trans (Nat.le_of_ble_eq_true rfl) hRl)) (preM hK hP) rfl rfl hl.1 rfl (lv_room (Nat.le_of_ble_eq_true rfl)) dX10_isWild_18 ⟨Nat.zero_le _, Nat.zero_le _⟩) (fun r_2 hw => ?_)
      refine lv_iconst (v := ((-1) : Int32)) hx hb dX10_isWild_21 (by decide) ?_
      refine lv_icmp_eq (tgt := 45) hx hb dX10_isWild_22 (by decide) (fun c_3 => ?_) (fun c_3 => ?_)
      · have hw := hw.1 c_3
        refine lv_iconst (v := (0 : Int32)) hx hb dX10_isWild_45 (by decide) ?_
        exact t_X10_isWild_46 X hK hP ih hw ls (lv_sub hl [0, 1, 2, 3, 4] rfl)
      · have hw := hw.2 c_3
        refine lv_aload_n hx hb dX10_isWild_25 rfl (lv_at hl 0 rfl) ?_
        refine lv_iload hx hb dX10_isWild_26 (lv_at hl 4 rfl) ?_
        refine lv_iload_n hx hb dX10_isWild_28 rfl (lv_at hl 2 rfl) ?_
        refine ro_i (va_runV (As := [.int x4, .int x2]) (rest := []) ⟨hx, hb, hml, hown, hts⟩ (c_X10_entryAt l hw) (kRX10_118 (h := 0) hts (Nat.le_trans (Nat.le_of_ble_eq_true rfl) hRf) (Nat.le_trans (Nat.le_of_ble_eq_true rfl) hRl)) (preM hK hP) rfl rfl hl.1 rfl (lv_room (Nat.le_of_ble_eq_true rfl)) dX10_isWild_29 ⟨Nat.zero_le _, Nat.zero_le _⟩) (fun r_12 hw => ?_)
        refine lv_aload_n hx hb dX10_isWild_32 rfl (lv_at hl 0 rfl) ?_
        refine lv_iload_n hx hb dX10_isWild_33 rfl (lv_at hl 1 rfl) ?_
        refine lv_iload_n hx hb dX10_isWild_34 rfl (lv_at hl 2 rfl) ?_
        refine ro_i (va_runV (As := [.int x1, .int x2]) (rest := [.int r_12]) ⟨hx, hb, hml, hown, hts⟩ (c_X10_entryAt l hw) (kRX10_118 (h := 0) hts (Nat.le_trans (Nat.le_of_ble_eq_true rfl) hRf) (Nat.le_trans (Nat.le_of_ble_eq_true rfl) hRl)) (preM hK hP) rfl rfl hl.1 rfl (lv_room (Nat.le_of_ble_eq_true rfl)) dX10_isWild_35 ⟨Nat.zero_le _, Nat.zero_le _⟩) (fun r_13 hw => ?_)
        refine lv_icmp_eq (tgt := 45) hx hb dX10_isWild_38 (by decide) (fun c_14 => ?_) (fun c_14 => ?_)
        · have hw := hw.1 c_14
          refine lv_iconst (v := (0 : Int32)) hx hb dX10_isWild_45 (by decide) ?_
          exact t_X10_isWild_46 X hK hP ih hw ls (lv_sub hl [0, 1, 2, 3, 4] rfl)
        · have hw := hw.2 c_14
          refine lv_iconst (v := (1 : Int32)) hx hb dX10_isWild_41 (by decide) ?_
          refine lv_goto (tgt := 46) hx hb dX10_isWild_42 (by decide) ?_
          exact t_X10_isWild_46 X hK hP ih hw ls (lv_sub hl [0, 1, 2, 3, 4] rfl)
set_option maxHeartbeats 4000000 in
set_option maxRecDepth 100000 in
theorem c_X10_isWild (l : Launch) {D : va_G} {q : Nat → Nat} {cA : Nat → ClassId} {i_pageLength : Int32} {a_page : Nat → Int32} {i_states : Int32} {i_columns : Int32} {a_entries : Nat → Int32} {i_signals : Int32} {a_signalAt : Nat → Int32} {i_walksAt : Int32} {i_turned : Int32} {i_changed : Int32} {i_read : Int32} {i_newRows : Int32} {i_newEntries : Int32} {i_newColumns : Int32} {i_greatest : Int32} {a_newAt : Nat → Int32} {i_partings : Int32} {a_lowSet : Nat → Int32} {a_highSet : Nat → Int32} {i_leastMany : Int32} {a_leastAt : Nat → Int32} {a_tried : Nat → Int32} {a_keptLow : Nat → Int64} {a_keptHigh : Nat → Int64} {i_laid : Int32} {a_wants : Nat → Int32} {i_wide : Int32} {a_wideAsked : Nat → Int32} {a_wideOnes : Nat → Int32} {i_sum : Int32} {i_flickers : Int32} {a_sumAt : Nat → Int32} {j_h : Int64} {post : Int32 → Prop} {x1 : Int32} {x2 : Int32} (hw : wp_X10_isWild post i_states a_entries i_signals a_signalAt x1 x2) : Met l yX10_isWild (Cond.code yX10_isWild cX10_isWild 6 (some .boolean) :: wsL_law) (rmH 3) (va_Pc [.ref (q 0), .int x1, .int x2] (fun U => va_P D vwCl (wM q cA i_pageLength a_page i_states i_columns a_entries i_signals a_signalAt i_walksAt i_turned i_changed i_read i_newRows i_newEntries i_newColumns i_greatest a_newAt i_partings a_lowSet a_highSet i_leastMany a_leastAt a_tried a_keptLow a_keptHigh i_laid a_wants i_wide a_wideAsked a_wideOnes i_sum i_flickers a_sumAt j_h) U.heap ∧ va_K D vwCl (tyM cA) U)) (qRi post) 0 0 (fun _ => False) := by
  refine Met.ofW (cc := cX10_isWild) (maxL := 6) (ret := (some .boolean)) (by decide) rfl ?_
  intro p e s m args below meth c s₁ B hml hv
  obtain ⟨rfl, hP, hK⟩ := hv
  have X : kC p (headSpec (Cond.code yX10_isWild cX10_isWild 6 (some .boolean) :: wsL_law) (rmH 3)).room s m _ meth c cX10_isWild RX10 6 (some .boolean) 3 := ⟨B.exec, B.bytes, hml, findClass_of_methodNamed B.named, fun w h => atoms_spec (ws := Cond.code yX10_isWild cX10_isWild 6 (some .boolean) :: wsL_law) B.pre w (List.mem_cons_of_mem _ h), B.returns, B.notSynchronized, Nat.le_refl _, Nat.le_refl _⟩
  obtain ⟨hx, hb, hml, hown, hts, hr, hlocks, hRf, hRl⟩ := id X
  have hl := lv_entry ([.ref (q 0), .int x1, .int x2]) (n := 6) (Nat.le_of_ble_eq_true rfl)
  rw [lg_entry_eq]
  generalize (lg_sl ([.ref (q 0), .int x1, .int x2]) ++ List.replicate (6 - (lg_sl ([.ref (q 0), .int x1, .int x2])).length) Slot.unset).toArray = ls at hl ⊢
  have hl : lv_has ls 6 [(0, .ref (q 0)), (1, .int x1), (2, .int x2)] := hl
  refine lv_iconst (v := (0 : Int32)) hx hb dX10_isWild_0 (by decide) ?_
  refine lv_istore_n (lv' := [(3, .int (0 : Int32)), (0, .ref (q 0)), (1, .int x1), (2, .int x2)]) hx hb dX10_isWild_1 rfl hl (by decide) rfl (fun ls hl => ?_)
  refine lv_iconst (v := (0 : Int32)) hx hb dX10_isWild_2 (by decide) ?_
  refine lv_istore (lv' := [(4, .int (0 : Int32)), (3, .int (0 : Int32)), (0, .ref (q 0)), (1, .int x1), (2, .int x2)]) hx hb dX10_isWild_3 hl (by decide) rfl (fun ls hl => ?_)
  obtain ⟨n_15, hw⟩ := hw
  refine t_X10_isWild_5 X hK hP (fun x3_15 hw ls hl => ?_) n_15 _ _ hw ls (lv_sub hl [2, 3, 4, 1, 0] rfl)
  refine lv_iload_n hx hb dX10_isWild_80 rfl (lv_at hl 3 rfl) ?_
  refine lv_if_eq (tgt := 98) hx hb dX10_isWild_81 (by decide) (fun c_16 => ?_) (fun c_16 => ?_)
  · have hw := hw.1 c_16
    refine lv_iconst (v := (0 : Int32)) hx hb dX10_isWild_98 (by decide) ?_
    exact rt_z hx hb hr hlocks rfl hw dX10_isWild_99
  · have hw := hw.2 c_16
    refine lv_aload_n hx hb dX10_isWild_84 rfl (lv_at hl 0 rfl) ?_
    refine lv_iload_n hx hb dX10_isWild_85 rfl (lv_at hl 1 rfl) ?_
    refine lv_iload_n hx hb dX10_isWild_86 rfl (lv_at hl 2 rfl) ?_
    refine ro_i (va_runV (As := [.int x1, .int x2]) (rest := []) ⟨hx, hb, hml, hown, hts⟩ (c_X10_entryAt l hw) (kRX10_118 (h := 0) hts (Nat.le_trans (Nat.le_of_ble_eq_true rfl) hRf) (Nat.le_trans (Nat.le_of_ble_eq_true rfl) hRl)) (preM hK hP) rfl rfl hl.1 rfl (lv_room (Nat.le_of_ble_eq_true rfl)) dX10_isWild_87 ⟨Nat.zero_le _, Nat.zero_le _⟩) (fun r_17 hw => ?_)
    refine lv_iconst (v := ((-1) : Int32)) hx hb dX10_isWild_90 (by decide) ?_
    refine lv_icmp_eq (tgt := 98) hx hb dX10_isWild_91 (by decide) (fun c_18 => ?_) (fun c_18 => ?_)
    · have hw := hw.1 c_18
      refine lv_iconst (v := (0 : Int32)) hx hb dX10_isWild_98 (by decide) ?_
      exact rt_z hx hb hr hlocks rfl hw dX10_isWild_99
    · have hw := hw.2 c_18
      refine lv_iconst (v := (1 : Int32)) hx hb dX10_isWild_94 (by decide) ?_
      refine lv_goto (tgt := 99) hx hb dX10_isWild_95 (by decide) ?_
      exact rt_z hx hb hr hlocks rfl hw dX10_isWild_99
set_option maxHeartbeats 4000000 in
set_option maxRecDepth 100000 in
theorem t_X10_wildNow_15 {p : Program} {l : Launch} {e : Env} {R : Room} {s : State} {m : MethodId} {args : Array Value} {below : List Frame} {meth : Method} {c : Code} {D : va_G} {q : Nat → Nat} {cA : Nat → ClassId} {i_pageLength : Int32} {a_page : Nat → Int32} {i_states : Int32} {i_columns : Int32} {a_entries : Nat → Int32} {i_signals : Int32} {a_signalAt : Nat → Int32} {i_walksAt : Int32} {i_turned : Int32} {i_changed : Int32} {i_read : Int32} {i_newRows : Int32} {i_newEntries : Int32} {i_newColumns : Int32} {i_greatest : Int32} {a_newAt : Nat → Int32} {i_partings : Int32} {a_lowSet : Nat → Int32} {a_highSet : Nat → Int32} {i_leastMany : Int32} {a_leastAt : Nat → Int32} {a_tried : Nat → Int32} {a_keptLow : Nat → Int64} {a_keptHigh : Nat → Int64} {i_laid : Int32} {a_wants : Nat → Int32} {i_wide : Int32} {a_wideAsked : Nat → Int32} {a_wideOnes : Nat → Int32} {i_sum : Int32} {i_flickers : Int32} {a_sumAt : Nat → Int32} {j_h : Int64} {post : Int32 → Prop} {KE : Int32 → Prop} {x1 : Int32} {x3 : Int32} (X : kC p R s m args meth c cX10_wildNow RX10 6 (some .int) 4) (hK : va_K D vwCl (tyM cA) s) (hP : va_P D vwCl (wM q cA i_pageLength a_page i_states i_columns a_entries i_signals a_signalAt i_walksAt i_turned i_changed i_read i_newRows i_newEntries i_newColumns i_greatest a_newAt i_partings a_lowSet a_highSet i_leastMany a_leastAt a_tried a_keptLow a_keptHigh i_laid a_wants i_wide a_wideAsked a_wideOnes i_sum i_flickers a_sumAt j_h) s.heap) (hE : ∀ (x2 : Int32), KE x2 → ∀ (ls : Array Slot), lv_has ls 6 [(0, .ref (q 0)), (1, .int x1), (2, .int x2), (3, .int x3)] → W p l e R s m args below meth c s.heap [] 0 0 (MQ below (qRi post) args s 0 0 (fun _ => False)) (F0 m 68 ls [])) : ∀ (n : Nat) (x2 : Int32) (x4 : Int32), w_X10_wildNow_15 post KE i_states i_columns a_entries i_signals a_signalAt x1 x3 n x2 x4 → ∀ (ls : Array Slot), lv_has ls 6 [(0, .ref (q 0)), (1, .int x1), (2, .int x2), (3, .int x3), (4, .int x4)] → W p l e R s m args below meth c s.heap [] 0 0 (MQ below (qRi post) args s 0 0 (fun _ => False)) (F0 m 15 ls []) := by
  obtain ⟨hx, hb, hml, hown, hts, hr, hlocks, hRf, hRl⟩ := id X
  intro n
  induction n with
  | zero => intro x2 x4 hw; exact (show False from hw).elim
  | succ n ih =>
    intro x2 x4 hw ls hl
    refine lv_iload hx hb dX10_wildNow_15 (lv_at hl 4 rfl) ?_
    refine lv_aload_n hx hb dX10_wildNow_17 rfl (lv_at hl 0 rfl) ?_
    refine gRX10_90 hx hb hown hts hK hP dX10_wildNow_18 ?_
    refine lv_icmp_ge (tgt := 68) hx hb dX10_wildNow_21 (by decide) (fun c_2 => ?_) (fun c_2 => ?_)
    · have hw := hw.1 c_2
      exact hE _ hw ls (lv_sub hl [0, 1, 2, 3] rfl)
    · have hw := hw.2 c_2
      refine lv_aload_n hx hb dX10_wildNow_24 rfl (lv_at hl 0 rfl) ?_
      refine lv_iload_n hx hb dX10_wildNow_25 rfl (lv_at hl 3 rfl) ?_
      refine lv_iload hx hb dX10_wildNow_26 (lv_at hl 4 rfl) ?_
      refine ro_i (va_runV (As := [.int x3, .int x4]) (rest := []) ⟨hx, hb, hml, hown, hts⟩ (c_X10_isWild l hw) (kRX10_187 (h := 3) hts (Nat.le_trans (Nat.le_of_ble_eq_true rfl) hRf) (Nat.le_trans (Nat.le_of_ble_eq_true rfl) hRl)) (preM hK hP) rfl rfl hl.1 rfl (lv_room (Nat.le_of_ble_eq_true rfl)) dX10_wildNow_28 ⟨Nat.zero_le _, Nat.zero_le _⟩) (fun r_3 hw => ?_)
      refine lv_istore (lv' := [(5, .int r_3), (0, .ref (q 0)), (1, .int x1), (2, .int x2), (3, .int x3), (4, .int x4)]) hx hb dX10_wildNow_31 hl (by decide) rfl (fun ls hl => ?_)
      refine lv_iload hx hb dX10_wildNow_33 (lv_at hl 0 rfl) ?_
      refine lv_if_eq (tgt := 49) hx hb dX10_wildNow_35 (by decide) (fun c_4 => ?_) (fun c_4 => ?_)
      · have hw := hw.1 c_4
        refine lv_iload_n hx hb dX10_wildNow_49 rfl (lv_at hl 3 rfl) ?_
        refine lv_iload hx hb dX10_wildNow_50 (lv_at hl 0 rfl) ?_
        refine lv_if_eq (tgt := 59) hx hb dX10_wildNow_52 (by decide) (fun c_5 => ?_) (fun c_5 => ?_)
        · have hw := hw.1 c_5
          refine lv_iconst (v := (0 : Int32)) hx hb dX10_wildNow_59 (by decide) ?_
          refine lv_iadd hx hb dX10_wildNow_60 ?_
          refine lv_topi (fun x2_6 e_6 => ?_)
          have hw := hw x2_6 e_6
          refine lv_istore_n (lv' := [(2, .int x2_6), (5, .int r_3), (0, .ref (q 0)), (1, .int x1), (3, .int x3), (4, .int x4)]) hx hb dX10_wildNow_61 rfl hl (by decide) rfl (fun ls hl => ?_)
          obtain ⟨x4_7, e_7⟩ : ∃ z : Int32, z = x4 + (1 : Int32) := ⟨_, rfl⟩
          have hw := hw x4_7 e_7
          refine lv_iinc (v := x4_7) (lv' := [(4, .int x4_7), (2, .int x2_6), (5, .int r_3), (0, .ref (q 0)), (1, .int x1), (3, .int x3)]) hx hb dX10_wildNow_62 hl (k := 5) rfl (by rw [e_7]; rfl) (by decide) rfl (fun ls hl => ?_)
          refine lv_goto (tgt := 15) hx hb dX10_wildNow_65 (by decide) ?_
          exact ih _ _ hw ls (lv_sub hl [3, 4, 1, 5, 0] rfl)
        · have hw := hw.2 c_5
          refine lv_iconst (v := (1 : Int32)) hx hb dX10_wildNow_55 (by decide) ?_
          refine lv_goto (tgt := 60) hx hb dX10_wildNow_56 (by decide) ?_
          refine lv_iadd hx hb dX10_wildNow_60 ?_
          refine lv_topi (fun x2_8 e_8 => ?_)
          have hw := hw x2_8 e_8
          refine lv_istore_n (lv' := [(2, .int x2_8), (5, .int r_3), (0, .ref (q 0)), (1, .int x1), (3, .int x3), (4, .int x4)]) hx hb dX10_wildNow_61 rfl hl (by decide) rfl (fun ls hl => ?_)
          obtain ⟨x4_9, e_9⟩ : ∃ z : Int32, z = x4 + (1 : Int32) := ⟨_, rfl⟩
          have hw := hw x4_9 e_9
          refine lv_iinc (v := x4_9) (lv' := [(4, .int x4_9), (2, .int x2_8), (5, .int r_3), (0, .ref (q 0)), (1, .int x1), (3, .int x3)]) hx hb dX10_wildNow_62 hl (k := 5) rfl (by rw [e_9]; rfl) (by decide) rfl (fun ls hl => ?_)
          refine lv_goto (tgt := 15) hx hb dX10_wildNow_65 (by decide) ?_
          exact ih _ _ hw ls (lv_sub hl [3, 4, 1, 5, 0] rfl)
      · have hw := hw.2 c_4
        refine lv_iload_n hx hb dX10_wildNow_38 rfl (lv_at hl 2 rfl) ?_
        refine lv_if_eq (tgt := 49) hx hb dX10_wildNow_39 (by decide) (fun c_10 => ?_) (fun c_10 => ?_)
        · have hw := hw.1 c_10
          refine lv_iload_n hx hb dX10_wildNow_49 rfl (lv_at hl 3 rfl) ?_
          refine lv_iload hx hb dX10_wildNow_50 (lv_at hl 0 rfl) ?_
          refine lv_if_eq (tgt := 59) hx hb dX10_wildNow_52 (by decide) (fun c_11 => ?_) (fun c_11 => ?_)
          · have hw := hw.1 c_11
            refine lv_iconst (v := (0 : Int32)) hx hb dX10_wildNow_59 (by decide) ?_
            refine lv_iadd hx hb dX10_wildNow_60 ?_
            refine lv_topi (fun x2_12 e_12 => ?_)
            have hw := hw x2_12 e_12
            refine lv_istore_n (lv' := [(2, .int x2_12), (5, .int r_3), (0, .ref (q 0)), (1, .int x1), (3, .int x3), (4, .int x4)]) hx hb dX10_wildNow_61 rfl hl (by decide) rfl (fun ls hl => ?_)
            obtain ⟨x4_13, e_13⟩ : ∃ z : Int32, z = x4 + (1 : Int32) := ⟨_, rfl⟩
            have hw := hw x4_13 e_13
            refine lv_iinc (v := x4_13) (lv' := [(4, .int x4_13), (2, .int x2_12), (5, .int r_3), (0, .ref (q 0)), (1, .int x1), (3, .int x3)]) hx hb dX10_wildNow_62 hl (k := 5) rfl (by rw [e_13]; rfl) (by decide) rfl (fun ls hl => ?_)
            refine lv_goto (tgt := 15) hx hb dX10_wildNow_65 (by decide) ?_
            exact ih _ _ hw ls (lv_sub hl [3, 4, 1, 5, 0] rfl)
          · have hw := hw.2 c_11
            refine lv_iconst (v := (1 : Int32)) hx hb dX10_wildNow_55 (by decide) ?_
            refine lv_goto (tgt := 60) hx hb dX10_wildNow_56 (by decide) ?_
            refine lv_iadd hx hb dX10_wildNow_60 ?_
            refine lv_topi (fun x2_14 e_14 => ?_)
            have hw := hw x2_14 e_14
            refine lv_istore_n (lv' := [(2, .int x2_14), (5, .int r_3), (0, .ref (q 0)), (1, .int x1), (3, .int x3), (4, .int x4)]) hx hb dX10_wildNow_61 rfl hl (by decide) rfl (fun ls hl => ?_)
            obtain ⟨x4_15, e_15⟩ : ∃ z : Int32, z = x4 + (1 : Int32) := ⟨_, rfl⟩
            have hw := hw x4_15 e_15
            refine lv_iinc (v := x4_15) (lv' := [(4, .int x4_15), (2, .int x2_14), (5, .int r_3), (0, .ref (q 0)), (1, .int x1), (3, .int x3)]) hx hb dX10_wildNow_62 hl (k := 5) rfl (by rw [e_15]; rfl) (by decide) rfl (fun ls hl => ?_)
            refine lv_goto (tgt := 15) hx hb dX10_wildNow_65 (by decide) ?_
            exact ih _ _ hw ls (lv_sub hl [3, 4, 1, 5, 0] rfl)
        · have hw := hw.2 c_10
          refine lv_iconst (v := (4 : Int32)) hx hb dX10_wildNow_42 (by decide) ?_
          refine lv_iload_n hx hb dX10_wildNow_43 rfl (lv_at hl 4 rfl) ?_
          refine lv_imul hx hb dX10_wildNow_44 ?_
          refine lv_iload hx hb dX10_wildNow_45 (lv_at hl 5 rfl) ?_
          refine lv_iadd hx hb dX10_wildNow_47 ?_
          exact rt_i hx hb hr hlocks hw dX10_wildNow_48
set_option maxHeartbeats 4000000 in
set_option maxRecDepth 100000 in
theorem t_X10_wildNow_4 {p : Program} {l : Launch} {e : Env} {R : Room} {s : State} {m : MethodId} {args : Array Value} {below : List Frame} {meth : Method} {c : Code} {D : va_G} {q : Nat → Nat} {cA : Nat → ClassId} {i_pageLength : Int32} {a_page : Nat → Int32} {i_states : Int32} {i_columns : Int32} {a_entries : Nat → Int32} {i_signals : Int32} {a_signalAt : Nat → Int32} {i_walksAt : Int32} {i_turned : Int32} {i_changed : Int32} {i_read : Int32} {i_newRows : Int32} {i_newEntries : Int32} {i_newColumns : Int32} {i_greatest : Int32} {a_newAt : Nat → Int32} {i_partings : Int32} {a_lowSet : Nat → Int32} {a_highSet : Nat → Int32} {i_leastMany : Int32} {a_leastAt : Nat → Int32} {a_tried : Nat → Int32} {a_keptLow : Nat → Int64} {a_keptHigh : Nat → Int64} {i_laid : Int32} {a_wants : Nat → Int32} {i_wide : Int32} {a_wideAsked : Nat → Int32} {a_wideOnes : Nat → Int32} {i_sum : Int32} {i_flickers : Int32} {a_sumAt : Nat → Int32} {j_h : Int64} {post : Int32 → Prop} {KE : Int32 → Prop} {x1 : Int32} (X : kC p R s m args meth c cX10_wildNow RX10 6 (some .int) 4) (hK : va_K D vwCl (tyM cA) s) (hP : va_P D vwCl (wM q cA i_pageLength a_page i_states i_columns a_entries i_signals a_signalAt i_walksAt i_turned i_changed i_read i_newRows i_newEntries i_newColumns i_greatest a_newAt i_partings a_lowSet a_highSet i_leastMany a_leastAt a_tried a_keptLow a_keptHigh i_laid a_wants i_wide a_wideAsked a_wideOnes i_sum i_flickers a_sumAt j_h) s.heap) (hE : ∀ (x2 : Int32), KE x2 → ∀ (ls : Array Slot), lv_has ls 6 [(1, .int x1), (2, .int x2)] → W p l e R s m args below meth c s.heap [] 0 0 (MQ below (qRi post) args s 0 0 (fun _ => False)) (F0 m 74 ls [])) : ∀ (n : Nat) (x2 : Int32) (x3 : Int32), w_X10_wildNow_4 post KE i_states i_columns a_entries i_signals a_signalAt x1 n x2 x3 → ∀ (ls : Array Slot), lv_has ls 6 [(0, .ref (q 0)), (1, .int x1), (2, .int x2), (3, .int x3)] → W p l e R s m args below meth c s.heap [] 0 0 (MQ below (qRi post) args s 0 0 (fun _ => False)) (F0 m 4 ls []) := by
  obtain ⟨hx, hb, hml, hown, hts, hr, hlocks, hRf, hRl⟩ := id X
  intro n
  induction n with
  | zero => intro x2 x3 hw; exact (show False from hw).elim
  | succ n ih =>
    intro x2 x3 hw ls hl
    refine lv_iload_n hx hb dX10_wildNow_4 rfl (lv_at hl 3 rfl) ?_
    refine lv_aload_n hx hb dX10_wildNow_5 rfl (lv_at hl 0 rfl) ?_
    refine gRX10_87 hx hb hown hts hK hP dX10_wildNow_6 ?_
    refine lv_icmp_ge (tgt := 74) hx hb dX10_wildNow_9 (by decide) (fun c_1 => ?_) (fun c_1 => ?_)
    · have hw := hw.1 c_1
      exact hE _ hw ls (lv_sub hl [1, 2] rfl)
    · have hw := hw.2 c_1
      refine lv_iconst (v := (0 : Int32)) hx hb dX10_wildNow_12 (by decide) ?_
      refine lv_istore (lv' := [(4, .int (0 : Int32)), (0, .ref (q 0)), (1, .int x1), (2, .int x2), (3, .int x3)]) hx hb dX10_wildNow_13 hl (by decide) rfl (fun ls hl => ?_)
      obtain ⟨n_16, hw⟩ := hw
      refine t_X10_wildNow_15 X hK hP (fun x2_16 hw ls hl => ?_) n_16 _ _ hw ls (lv_sub hl [1, 2, 3, 4, 0] rfl)
      obtain ⟨x3_17, e_17⟩ : ∃ z : Int32, z = x3 + (1 : Int32) := ⟨_, rfl⟩
      have hw := hw x3_17 e_17
      refine lv_iinc (v := x3_17) (lv' := [(3, .int x3_17), (0, .ref (q 0)), (1, .int x1), (2, .int x2_16)]) hx hb dX10_wildNow_68 hl (k := 3) rfl (by rw [e_17]; rfl) (by decide) rfl (fun ls hl => ?_)
      refine lv_goto (tgt := 4) hx hb dX10_wildNow_71 (by decide) ?_
      exact ih _ _ hw ls (lv_sub hl [1, 2, 3, 0] rfl)
set_option maxHeartbeats 4000000 in
set_option maxRecDepth 100000 in
theorem c_X10_wildNow (l : Launch) {D : va_G} {q : Nat → Nat} {cA : Nat → ClassId} {i_pageLength : Int32} {a_page : Nat → Int32} {i_states : Int32} {i_columns : Int32} {a_entries : Nat → Int32} {i_signals : Int32} {a_signalAt : Nat → Int32} {i_walksAt : Int32} {i_turned : Int32} {i_changed : Int32} {i_read : Int32} {i_newRows : Int32} {i_newEntries : Int32} {i_newColumns : Int32} {i_greatest : Int32} {a_newAt : Nat → Int32} {i_partings : Int32} {a_lowSet : Nat → Int32} {a_highSet : Nat → Int32} {i_leastMany : Int32} {a_leastAt : Nat → Int32} {a_tried : Nat → Int32} {a_keptLow : Nat → Int64} {a_keptHigh : Nat → Int64} {i_laid : Int32} {a_wants : Nat → Int32} {i_wide : Int32} {a_wideAsked : Nat → Int32} {a_wideOnes : Nat → Int32} {i_sum : Int32} {i_flickers : Int32} {a_sumAt : Nat → Int32} {j_h : Int64} {post : Int32 → Prop} {x1 : Int32} (hw : wp_X10_wildNow post i_states i_columns a_entries i_signals a_signalAt x1) : Met l yX10_wildNow (Cond.code yX10_wildNow cX10_wildNow 6 (some .int) :: wsL_law) (rmH 4) (va_Pc [.ref (q 0), .int x1] (fun U => va_P D vwCl (wM q cA i_pageLength a_page i_states i_columns a_entries i_signals a_signalAt i_walksAt i_turned i_changed i_read i_newRows i_newEntries i_newColumns i_greatest a_newAt i_partings a_lowSet a_highSet i_leastMany a_leastAt a_tried a_keptLow a_keptHigh i_laid a_wants i_wide a_wideAsked a_wideOnes i_sum i_flickers a_sumAt j_h) U.heap ∧ va_K D vwCl (tyM cA) U)) (qRi post) 0 0 (fun _ => False) := by
  refine Met.ofW (cc := cX10_wildNow) (maxL := 6) (ret := (some .int)) (by decide) rfl ?_
  intro p e s m args below meth c s₁ B hml hv
  obtain ⟨rfl, hP, hK⟩ := hv
  have X : kC p (headSpec (Cond.code yX10_wildNow cX10_wildNow 6 (some .int) :: wsL_law) (rmH 4)).room s m _ meth c cX10_wildNow RX10 6 (some .int) 4 := ⟨B.exec, B.bytes, hml, findClass_of_methodNamed B.named, fun w h => atoms_spec (ws := Cond.code yX10_wildNow cX10_wildNow 6 (some .int) :: wsL_law) B.pre w (List.mem_cons_of_mem _ h), B.returns, B.notSynchronized, Nat.le_refl _, Nat.le_refl _⟩
  obtain ⟨hx, hb, hml, hown, hts, hr, hlocks, hRf, hRl⟩ := id X
  have hl := lv_entry ([.ref (q 0), .int x1]) (n := 6) (Nat.le_of_ble_eq_true rfl)
  rw [lg_entry_eq]
  generalize (lg_sl ([.ref (q 0), .int x1]) ++ List.replicate (6 - (lg_sl ([.ref (q 0), .int x1])).length) Slot.unset).toArray = ls at hl ⊢
  have hl : lv_has ls 6 [(0, .ref (q 0)), (1, .int x1)] := hl
  refine lv_iconst (v := (0 : Int32)) hx hb dX10_wildNow_0 (by decide) ?_
  refine lv_istore_n (lv' := [(2, .int (0 : Int32)), (0, .ref (q 0)), (1, .int x1)]) hx hb dX10_wildNow_1 rfl hl (by decide) rfl (fun ls hl => ?_)
  refine lv_iconst (v := (0 : Int32)) hx hb dX10_wildNow_2 (by decide) ?_
  refine lv_istore_n (lv' := [(3, .int (0 : Int32)), (2, .int (0 : Int32)), (0, .ref (q 0)), (1, .int x1)]) hx hb dX10_wildNow_3 rfl hl (by decide) rfl (fun ls hl => ?_)
  obtain ⟨n_18, hw⟩ := hw
  refine t_X10_wildNow_4 X hK hP (fun x2_18 hw ls hl => ?_) n_18 _ _ hw ls (lv_sub hl [2, 3, 1, 0] rfl)
  refine lv_iload_n hx hb dX10_wildNow_74 rfl (lv_at hl 0 rfl) ?_
  refine lv_if_eq (tgt := 82) hx hb dX10_wildNow_75 (by decide) (fun c_19 => ?_) (fun c_19 => ?_)
  · have hw := hw.1 c_19
    refine lv_iload_n hx hb dX10_wildNow_82 rfl (lv_at hl 1 rfl) ?_
    exact rt_i hx hb hr hlocks hw dX10_wildNow_83
  · have hw := hw.2 c_19
    refine lv_iconst (v := ((-1) : Int32)) hx hb dX10_wildNow_78 (by decide) ?_
    refine lv_goto (tgt := 83) hx hb dX10_wildNow_79 (by decide) ?_
    exact rt_i hx hb hr hlocks hw dX10_wildNow_83
set_option maxHeartbeats 4000000 in
set_option maxRecDepth 100000 in
theorem t_X10_lost_4 {p : Program} {l : Launch} {e : Env} {R : Room} {s : State} {m : MethodId} {args : Array Value} {below : List Frame} {meth : Method} {c : Code} {D : va_G} {q : Nat → Nat} {cA : Nat → ClassId} {i_pageLength : Int32} {a_page : Nat → Int32} {i_states : Int32} {i_columns : Int32} {a_entries : Nat → Int32} {i_signals : Int32} {a_signalAt : Nat → Int32} {i_walksAt : Int32} {i_turned : Int32} {i_changed : Int32} {i_read : Int32} {i_newRows : Int32} {i_newEntries : Int32} {i_newColumns : Int32} {i_greatest : Int32} {a_newAt : Nat → Int32} {i_partings : Int32} {a_lowSet : Nat → Int32} {a_highSet : Nat → Int32} {i_leastMany : Int32} {a_leastAt : Nat → Int32} {a_tried : Nat → Int32} {a_keptLow : Nat → Int64} {a_keptHigh : Nat → Int64} {i_laid : Int32} {a_wants : Nat → Int32} {i_wide : Int32} {a_wideAsked : Nat → Int32} {a_wideOnes : Nat → Int32} {i_sum : Int32} {i_flickers : Int32} {a_sumAt : Nat → Int32} {j_h : Int64} {post : Int32 → Prop} {KE : Int32 → Prop} (X : kC p R s m args meth c cX10_lost RX10 3 (some .int) 2) (hK : va_K D vwCl (tyM cA) s) (hP : va_P D vwCl (wM q cA i_pageLength a_page i_states i_columns a_entries i_signals a_signalAt i_walksAt i_turned i_changed i_read i_newRows i_newEntries i_newColumns i_greatest a_newAt i_partings a_lowSet a_highSet i_leastMany a_leastAt a_tried a_keptLow a_keptHigh i_laid a_wants i_wide a_wideAsked a_wideOnes i_sum i_flickers a_sumAt j_h) s.heap) (hE : ∀ (x1 : Int32), KE x1 → ∀ (ls : Array Slot), lv_has ls 3 [(1, .int x1)] → W p l e R s m args below meth c s.heap [] 0 0 (MQ below (qRi post) args s 0 0 (fun _ => False)) (F0 m 34 ls [])) : ∀ (n : Nat) (x1 : Int32) (x2 : Int32), w_X10_lost_4 KE i_signals a_signalAt i_partings a_lowSet a_highSet n x1 x2 → ∀ (ls : Array Slot), lv_has ls 3 [(0, .ref (q 0)), (1, .int x1), (2, .int x2)] → W p l e R s m args below meth c s.heap [] 0 0 (MQ below (qRi post) args s 0 0 (fun _ => False)) (F0 m 4 ls []) := by
  obtain ⟨hx, hb, hml, hown, hts, hr, hlocks, hRf, hRl⟩ := id X
  intro n
  induction n with
  | zero => intro x1 x2 hw; exact (show False from hw).elim
  | succ n ih =>
    intro x1 x2 hw ls hl
    refine lv_iload_n hx hb dX10_lost_4 rfl (lv_at hl 2 rfl) ?_
    refine lv_aload_n hx hb dX10_lost_5 rfl (lv_at hl 0 rfl) ?_
    refine gRX10_133 hx hb hown hts hK hP dX10_lost_6 ?_
    refine lv_icmp_ge (tgt := 34) hx hb dX10_lost_9 (by decide) (fun c_1 => ?_) (fun c_1 => ?_)
    · have hw := hw.1 c_1
      exact hE _ hw ls (lv_sub hl [1] rfl)
    · have hw := hw.2 c_1
      refine lv_iload_n hx hb dX10_lost_12 rfl (lv_at hl 1 rfl) ?_
      refine lv_aload_n hx hb dX10_lost_13 rfl (lv_at hl 0 rfl) ?_
      refine lv_iload_n hx hb dX10_lost_14 rfl (lv_at hl 2 rfl) ?_
      refine ro_i (va_runV (As := [.int x2]) (rest := [.int x1]) ⟨hx, hb, hml, hown, hts⟩ (c_X10_keptBy l hw) (kRX10_155 (h := 1) hts (Nat.le_trans (Nat.le_of_ble_eq_true rfl) hRf) (Nat.le_trans (Nat.le_of_ble_eq_true rfl) hRl)) (preM hK hP) rfl rfl hl.1 rfl (lv_room (Nat.le_of_ble_eq_true rfl)) dX10_lost_15 ⟨Nat.zero_le _, Nat.zero_le _⟩) (fun r_2 hw => ?_)
      refine lv_if_ne (tgt := 25) hx hb dX10_lost_18 (by decide) (fun c_3 => ?_) (fun c_3 => ?_)
      · have hw := hw.2 c_3
        refine lv_iconst (v := (0 : Int32)) hx hb dX10_lost_25 (by decide) ?_
        refine lv_iadd hx hb dX10_lost_26 ?_
        refine lv_topi (fun x1_4 e_4 => ?_)
        have hw := hw x1_4 e_4
        refine lv_istore_n (lv' := [(1, .int x1_4), (0, .ref (q 0)), (2, .int x2)]) hx hb dX10_lost_27 rfl hl (by decide) rfl (fun ls hl => ?_)
        obtain ⟨x2_5, e_5⟩ : ∃ z : Int32, z = x2 + (1 : Int32) := ⟨_, rfl⟩
        have hw := hw x2_5 e_5
        refine lv_iinc (v := x2_5) (lv' := [(2, .int x2_5), (1, .int x1_4), (0, .ref (q 0))]) hx hb dX10_lost_28 hl (k := 2) rfl (by rw [e_5]; rfl) (by decide) rfl (fun ls hl => ?_)
        refine lv_goto (tgt := 4) hx hb dX10_lost_31 (by decide) ?_
        exact ih _ _ hw ls (lv_sub hl [2, 1, 0] rfl)
      · have hw := hw.1 c_3
        refine lv_iconst (v := (1 : Int32)) hx hb dX10_lost_21 (by decide) ?_
        refine lv_goto (tgt := 26) hx hb dX10_lost_22 (by decide) ?_
        refine lv_iadd hx hb dX10_lost_26 ?_
        refine lv_topi (fun x1_6 e_6 => ?_)
        have hw := hw x1_6 e_6
        refine lv_istore_n (lv' := [(1, .int x1_6), (0, .ref (q 0)), (2, .int x2)]) hx hb dX10_lost_27 rfl hl (by decide) rfl (fun ls hl => ?_)
        obtain ⟨x2_7, e_7⟩ : ∃ z : Int32, z = x2 + (1 : Int32) := ⟨_, rfl⟩
        have hw := hw x2_7 e_7
        refine lv_iinc (v := x2_7) (lv' := [(2, .int x2_7), (1, .int x1_6), (0, .ref (q 0))]) hx hb dX10_lost_28 hl (k := 2) rfl (by rw [e_7]; rfl) (by decide) rfl (fun ls hl => ?_)
        refine lv_goto (tgt := 4) hx hb dX10_lost_31 (by decide) ?_
        exact ih _ _ hw ls (lv_sub hl [2, 1, 0] rfl)
set_option maxHeartbeats 4000000 in
set_option maxRecDepth 100000 in
theorem c_X10_lost (l : Launch) {D : va_G} {q : Nat → Nat} {cA : Nat → ClassId} {i_pageLength : Int32} {a_page : Nat → Int32} {i_states : Int32} {i_columns : Int32} {a_entries : Nat → Int32} {i_signals : Int32} {a_signalAt : Nat → Int32} {i_walksAt : Int32} {i_turned : Int32} {i_changed : Int32} {i_read : Int32} {i_newRows : Int32} {i_newEntries : Int32} {i_newColumns : Int32} {i_greatest : Int32} {a_newAt : Nat → Int32} {i_partings : Int32} {a_lowSet : Nat → Int32} {a_highSet : Nat → Int32} {i_leastMany : Int32} {a_leastAt : Nat → Int32} {a_tried : Nat → Int32} {a_keptLow : Nat → Int64} {a_keptHigh : Nat → Int64} {i_laid : Int32} {a_wants : Nat → Int32} {i_wide : Int32} {a_wideAsked : Nat → Int32} {a_wideOnes : Nat → Int32} {i_sum : Int32} {i_flickers : Int32} {a_sumAt : Nat → Int32} {j_h : Int64} {post : Int32 → Prop}  (hw : wp_X10_lost post i_signals a_signalAt i_partings a_lowSet a_highSet ) : Met l yX10_lost (Cond.code yX10_lost cX10_lost 3 (some .int) :: wsL_law) (rmH 2) (va_Pc [.ref (q 0)] (fun U => va_P D vwCl (wM q cA i_pageLength a_page i_states i_columns a_entries i_signals a_signalAt i_walksAt i_turned i_changed i_read i_newRows i_newEntries i_newColumns i_greatest a_newAt i_partings a_lowSet a_highSet i_leastMany a_leastAt a_tried a_keptLow a_keptHigh i_laid a_wants i_wide a_wideAsked a_wideOnes i_sum i_flickers a_sumAt j_h) U.heap ∧ va_K D vwCl (tyM cA) U)) (qRi post) 0 0 (fun _ => False) := by
  refine Met.ofW (cc := cX10_lost) (maxL := 3) (ret := (some .int)) (by decide) rfl ?_
  intro p e s m args below meth c s₁ B hml hv
  obtain ⟨rfl, hP, hK⟩ := hv
  have X : kC p (headSpec (Cond.code yX10_lost cX10_lost 3 (some .int) :: wsL_law) (rmH 2)).room s m _ meth c cX10_lost RX10 3 (some .int) 2 := ⟨B.exec, B.bytes, hml, findClass_of_methodNamed B.named, fun w h => atoms_spec (ws := Cond.code yX10_lost cX10_lost 3 (some .int) :: wsL_law) B.pre w (List.mem_cons_of_mem _ h), B.returns, B.notSynchronized, Nat.le_refl _, Nat.le_refl _⟩
  obtain ⟨hx, hb, hml, hown, hts, hr, hlocks, hRf, hRl⟩ := id X
  have hl := lv_entry ([.ref (q 0)]) (n := 3) (Nat.le_of_ble_eq_true rfl)
  rw [lg_entry_eq]
  generalize (lg_sl ([.ref (q 0)]) ++ List.replicate (3 - (lg_sl ([.ref (q 0)])).length) Slot.unset).toArray = ls at hl ⊢
  have hl : lv_has ls 3 [(0, .ref (q 0))] := hl
  refine lv_iconst (v := (0 : Int32)) hx hb dX10_lost_0 (by decide) ?_
  refine lv_istore_n (lv' := [(1, .int (0 : Int32)), (0, .ref (q 0))]) hx hb dX10_lost_1 rfl hl (by decide) rfl (fun ls hl => ?_)
  refine lv_iconst (v := (0 : Int32)) hx hb dX10_lost_2 (by decide) ?_
  refine lv_istore_n (lv' := [(2, .int (0 : Int32)), (1, .int (0 : Int32)), (0, .ref (q 0))]) hx hb dX10_lost_3 rfl hl (by decide) rfl (fun ls hl => ?_)
  obtain ⟨n_8, hw⟩ := hw
  refine t_X10_lost_4 X hK hP (fun x1_8 hw ls hl => ?_) n_8 _ _ hw ls (lv_sub hl [2, 1, 0] rfl)
  refine lv_iload_n hx hb dX10_lost_34 rfl (lv_at hl 0 rfl) ?_
  exact rt_i hx hb hr hlocks hw dX10_lost_35
set_option maxHeartbeats 4000000 in
set_option maxRecDepth 100000 in
theorem t_X10_ones_4 {p : Program} {l : Launch} {e : Env} {R : Room} {s : State} {m : MethodId} {args : Array Value} {below : List Frame} {meth : Method} {c : Code}  {post : Int32 → Prop} {KE : Int32 → Prop} {x0 : Int32} (X : kC p R s m args meth c cX10_ones RX10 3 (some .int) 0) (hE : ∀ (x1 : Int32), KE x1 → ∀ (ls : Array Slot), lv_has ls 3 [(1, .int x1)] → W p l e R s m args below meth c s.heap [] 0 0 (MQ below (qRi post) args s 0 0 (fun _ => False)) (F0 m 24 ls [])) : ∀ (n : Nat) (x1 : Int32) (x2 : Int32), w_X10_ones_4 KE x0 n x1 x2 → ∀ (ls : Array Slot), lv_has ls 3 [(0, .int x0), (1, .int x1), (2, .int x2)] → W p l e R s m args below meth c s.heap [] 0 0 (MQ below (qRi post) args s 0 0 (fun _ => False)) (F0 m 4 ls []) := by
  obtain ⟨hx, hb, hml, hown, hts, hr, hlocks, hRf, hRl⟩ := id X
  intro n
  induction n with
  | zero => intro x1 x2 hw; exact (show False from hw).elim
  | succ n ih =>
    intro x1 x2 hw ls hl
    refine lv_iload_n hx hb dX10_ones_4 rfl (lv_at hl 2 rfl) ?_
    refine lv_bipush (v := (8 : Int32)) hx hb dX10_ones_5 (by decide +kernel) ?_
    refine lv_icmp_ge (tgt := 24) hx hb dX10_ones_7 (by decide) (fun c_1 => ?_) (fun c_1 => ?_)
    · have hw := hw.1 c_1
      exact hE _ hw ls (lv_sub hl [1] rfl)
    · have hw := hw.2 c_1
      refine lv_iload_n hx hb dX10_ones_10 rfl (lv_at hl 1 rfl) ?_
      refine lv_iload_n hx hb dX10_ones_11 rfl (lv_at hl 0 rfl) ?_
      refine lv_iload_n hx hb dX10_ones_12 rfl (lv_at hl 2 rfl) ?_
      refine lv_ishr hx hb dX10_ones_13 ?_
      refine lv_iconst (v := (1 : Int32)) hx hb dX10_ones_14 (by decide) ?_
      refine lv_iand hx hb dX10_ones_15 ?_
      refine lv_iadd hx hb dX10_ones_16 ?_
      refine lv_topi (fun x1_2 e_2 => ?_)
      have hw := hw x1_2 e_2
      refine lv_istore_n (lv' := [(1, .int x1_2), (0, .int x0), (2, .int x2)]) hx hb dX10_ones_17 rfl hl (by decide) rfl (fun ls hl => ?_)
      obtain ⟨x2_3, e_3⟩ : ∃ z : Int32, z = x2 + (1 : Int32) := ⟨_, rfl⟩
      have hw := hw x2_3 e_3
      refine lv_iinc (v := x2_3) (lv' := [(2, .int x2_3), (1, .int x1_2), (0, .int x0)]) hx hb dX10_ones_18 hl (k := 2) rfl (by rw [e_3]; rfl) (by decide) rfl (fun ls hl => ?_)
      refine lv_goto (tgt := 4) hx hb dX10_ones_21 (by decide) ?_
      exact ih _ _ hw ls (lv_sub hl [2, 1, 0] rfl)
set_option maxHeartbeats 4000000 in
set_option maxRecDepth 100000 in
theorem c_X10_ones (l : Launch)  {post : Int32 → Prop} {x0 : Int32} (hw : wp_X10_ones post  x0) : Met l yX10_ones (Cond.code yX10_ones cX10_ones 3 (some .int) :: wsL_law) (rmH 0) (va_Pc [.int x0] (fun _ => True)) (qRi post) 0 0 (fun _ => False) := by
  refine Met.ofW (cc := cX10_ones) (maxL := 3) (ret := (some .int)) (by decide) rfl ?_
  intro p e s m args below meth c s₁ B hml hv
  obtain ⟨rfl, -⟩ := hv
  have X : kC p (headSpec (Cond.code yX10_ones cX10_ones 3 (some .int) :: wsL_law) (rmH 0)).room s m _ meth c cX10_ones RX10 3 (some .int) 0 := ⟨B.exec, B.bytes, hml, findClass_of_methodNamed B.named, fun w h => atoms_spec (ws := Cond.code yX10_ones cX10_ones 3 (some .int) :: wsL_law) B.pre w (List.mem_cons_of_mem _ h), B.returns, B.notSynchronized, Nat.le_refl _, Nat.le_refl _⟩
  obtain ⟨hx, hb, hml, hown, hts, hr, hlocks, hRf, hRl⟩ := id X
  have hl := lv_entry ([.int x0]) (n := 3) (Nat.le_of_ble_eq_true rfl)
  rw [lg_entry_eq]
  generalize (lg_sl ([.int x0]) ++ List.replicate (3 - (lg_sl ([.int x0])).length) Slot.unset).toArray = ls at hl ⊢
  have hl : lv_has ls 3 [(0, .int x0)] := hl
  refine lv_iconst (v := (0 : Int32)) hx hb dX10_ones_0 (by decide) ?_
  refine lv_istore_n (lv' := [(1, .int (0 : Int32)), (0, .int x0)]) hx hb dX10_ones_1 rfl hl (by decide) rfl (fun ls hl => ?_)
  refine lv_iconst (v := (0 : Int32)) hx hb dX10_ones_2 (by decide) ?_
  refine lv_istore_n (lv' := [(2, .int (0 : Int32)), (1, .int (0 : Int32)), (0, .int x0)]) hx hb dX10_ones_3 rfl hl (by decide) rfl (fun ls hl => ?_)
  obtain ⟨n_4, hw⟩ := hw
  refine t_X10_ones_4 X (fun x1_4 hw ls hl => ?_) n_4 _ _ hw ls (lv_sub hl [2, 1, 0] rfl)
  refine lv_iload_n hx hb dX10_ones_24 rfl (lv_at hl 0 rfl) ?_
  exact rt_i hx hb hr hlocks hw dX10_ones_25
set_option maxHeartbeats 4000000 in
set_option maxRecDepth 100000 in
theorem t_X10_mostChange_14 {p : Program} {l : Launch} {e : Env} {R : Room} {s : State} {m : MethodId} {args : Array Value} {below : List Frame} {meth : Method} {c : Code} {D : va_G} {q : Nat → Nat} {cA : Nat → ClassId} {i_pageLength : Int32} {a_page : Nat → Int32} {i_states : Int32} {i_columns : Int32} {a_entries : Nat → Int32} {i_signals : Int32} {a_signalAt : Nat → Int32} {i_walksAt : Int32} {i_turned : Int32} {i_changed : Int32} {i_read : Int32} {i_newRows : Int32} {i_newEntries : Int32} {i_newColumns : Int32} {i_greatest : Int32} {a_newAt : Nat → Int32} {i_partings : Int32} {a_lowSet : Nat → Int32} {a_highSet : Nat → Int32} {i_leastMany : Int32} {a_leastAt : Nat → Int32} {a_tried : Nat → Int32} {a_keptLow : Nat → Int64} {a_keptHigh : Nat → Int64} {i_laid : Int32} {a_wants : Nat → Int32} {i_wide : Int32} {a_wideAsked : Nat → Int32} {a_wideOnes : Nat → Int32} {i_sum : Int32} {i_flickers : Int32} {a_sumAt : Nat → Int32} {j_h : Int64} {post : Int32 → Prop} {KE : Int32 → Prop} {x2 : Int32} (X : kC p R s m args meth c cX10_mostChange RX10 6 (some .int) 1) (hK : va_K D vwCl (tyM cA) s) (hP : va_P D vwCl (wM q cA i_pageLength a_page i_states i_columns a_entries i_signals a_signalAt i_walksAt i_turned i_changed i_read i_newRows i_newEntries i_newColumns i_greatest a_newAt i_partings a_lowSet a_highSet i_leastMany a_leastAt a_tried a_keptLow a_keptHigh i_laid a_wants i_wide a_wideAsked a_wideOnes i_sum i_flickers a_sumAt j_h) s.heap) (hE : ∀ (x1 : Int32), KE x1 → ∀ (ls : Array Slot), lv_has ls 6 [(0, .ref (q 0)), (1, .int x1), (2, .int x2)] → W p l e R s m args below meth c s.heap [] 0 0 (MQ below (qRi post) args s 0 0 (fun _ => False)) (F0 m 76 ls [])) : ∀ (n : Nat) (x1 : Int32) (x3 : Int32), w_X10_mostChange_14 KE i_columns a_entries i_signals a_signalAt x2 n x1 x3 → ∀ (ls : Array Slot), lv_has ls 6 [(0, .ref (q 0)), (1, .int x1), (2, .int x2), (3, .int x3)] → W p l e R s m args below meth c s.heap [] 0 0 (MQ below (qRi post) args s 0 0 (fun _ => False)) (F0 m 14 ls []) := by
  obtain ⟨hx, hb, hml, hown, hts, hr, hlocks, hRf, hRl⟩ := id X
  intro n
  induction n with
  | zero => intro x1 x3 hw; exact (show False from hw).elim
  | succ n ih =>
    intro x1 x3 hw ls hl
    refine lv_iload_n hx hb dX10_mostChange_14 rfl (lv_at hl 3 rfl) ?_
    refine lv_aload_n hx hb dX10_mostChange_15 rfl (lv_at hl 0 rfl) ?_
    refine gRX10_90 hx hb hown hts hK hP dX10_mostChange_16 ?_
    refine lv_icmp_ge (tgt := 76) hx hb dX10_mostChange_19 (by decide) (fun c_2 => ?_) (fun c_2 => ?_)
    · have hw := hw.1 c_2
      exact hE _ hw ls (lv_sub hl [0, 1, 2] rfl)
    · have hw := hw.2 c_2
      refine lv_aload_n hx hb dX10_mostChange_22 rfl (lv_at hl 0 rfl) ?_
      refine lv_iload_n hx hb dX10_mostChange_23 rfl (lv_at hl 2 rfl) ?_
      refine lv_iload_n hx hb dX10_mostChange_24 rfl (lv_at hl 3 rfl) ?_
      refine ro_i (va_runV (As := [.int x2, .int x3]) (rest := []) ⟨hx, hb, hml, hown, hts⟩ (c_X10_entryAt l hw) (kRX10_118 (h := 0) hts (Nat.le_trans (Nat.le_of_ble_eq_true rfl) hRf) (Nat.le_trans (Nat.le_of_ble_eq_true rfl) hRl)) (preM hK hP) rfl rfl hl.1 rfl (lv_room (Nat.le_of_ble_eq_true rfl)) dX10_mostChange_25 ⟨Nat.zero_le _, Nat.zero_le _⟩) (fun r_3 hw => ?_)
      refine lv_istore (lv' := [(4, .int r_3), (0, .ref (q 0)), (1, .int x1), (2, .int x2), (3, .int x3)]) hx hb dX10_mostChange_28 hl (by decide) rfl (fun ls hl => ?_)
      refine lv_iload hx hb dX10_mostChange_30 (lv_at hl 0 rfl) ?_
      refine lv_iconst (v := ((-1) : Int32)) hx hb dX10_mostChange_32 (by decide) ?_
      refine lv_icmp_ne (tgt := 40) hx hb dX10_mostChange_33 (by decide) (fun c_4 => ?_) (fun c_4 => ?_)
      · have hw := hw.2 c_4
        refine lv_aload_n hx hb dX10_mostChange_40 rfl (lv_at hl 1 rfl) ?_
        refine lv_iload_n hx hb dX10_mostChange_41 rfl (lv_at hl 3 rfl) ?_
        refine ro_i (va_runV (As := [.int x2]) (rest := []) ⟨hx, hb, hml, hown, hts⟩ (c_X10_codeOf l hw) (kRX10_178 (h := 0) hts (Nat.le_trans (Nat.le_of_ble_eq_true rfl) hRf) (Nat.le_trans (Nat.le_of_ble_eq_true rfl) hRl)) (preM hK hP) rfl rfl hl.1 rfl (lv_room (Nat.le_of_ble_eq_true rfl)) dX10_mostChange_42 ⟨Nat.zero_le _, Nat.zero_le _⟩) (fun r_5 hw => ?_)
        refine lv_aload_n hx hb dX10_mostChange_45 rfl (lv_at hl 1 rfl) ?_
        refine lv_iload hx hb dX10_mostChange_46 (lv_at hl 0 rfl) ?_
        refine ro_i (va_runV (As := [.int r_3]) (rest := [.int r_5]) ⟨hx, hb, hml, hown, hts⟩ (c_X10_codeOf l hw) (kRX10_178 (h := 0) hts (Nat.le_trans (Nat.le_of_ble_eq_true rfl) hRf) (Nat.le_trans (Nat.le_of_ble_eq_true rfl) hRl)) (preM hK hP) rfl rfl hl.1 rfl (lv_room (Nat.le_of_ble_eq_true rfl)) dX10_mostChange_48 ⟨Nat.zero_le _, Nat.zero_le _⟩) (fun r_6 hw => ?_)
        refine lv_ixor hx hb dX10_mostChange_51 ?_
        refine ro_i (va_runS (As := [.int (r_5 ^^^ r_6)]) (rest := []) ⟨hx, hb, hml, hown, hts⟩ (c_X10_ones l hw) (kRX10_190 (h := 0) hts (Nat.le_trans (Nat.le_of_ble_eq_true rfl) hRf) (Nat.le_trans (Nat.le_of_ble_eq_true rfl) hRl)) pre_0 rfl rfl hl.1 rfl (lv_room (Nat.le_of_ble_eq_true rfl)) dX10_mostChange_52 ⟨Nat.zero_le _, Nat.zero_le _⟩) (fun r_7 hw => ?_)
        refine lv_istore (lv' := [(5, .int r_7), (4, .int r_3), (0, .ref (q 0)), (1, .int x1), (2, .int x2), (3, .int x3)]) hx hb dX10_mostChange_55 hl (by decide) rfl (fun ls hl => ?_)
        refine lv_iload hx hb dX10_mostChange_57 (lv_at hl 0 rfl) ?_
        refine lv_iload_n hx hb dX10_mostChange_59 rfl (lv_at hl 3 rfl) ?_
        refine lv_icmp_le (tgt := 68) hx hb dX10_mostChange_60 (by decide) (fun c_8 => ?_) (fun c_8 => ?_)
        · have hw := hw.1 c_8
          refine lv_iload_n hx hb dX10_mostChange_68 rfl (lv_at hl 3 rfl) ?_
          refine lv_istore_n (lv' := [(1, .int x1), (5, .int r_7), (4, .int r_3), (0, .ref (q 0)), (2, .int x2), (3, .int x3)]) hx hb dX10_mostChange_69 rfl hl (by decide) rfl (fun ls hl => ?_)
          obtain ⟨x3_9, e_9⟩ : ∃ z : Int32, z = x3 + (1 : Int32) := ⟨_, rfl⟩
          have hw := hw x3_9 e_9
          refine lv_iinc (v := x3_9) (lv' := [(3, .int x3_9), (1, .int x1), (5, .int r_7), (4, .int r_3), (0, .ref (q 0)), (2, .int x2)]) hx hb dX10_mostChange_70 hl (k := 5) rfl (by rw [e_9]; rfl) (by decide) rfl (fun ls hl => ?_)
          refine lv_goto (tgt := 14) hx hb dX10_mostChange_73 (by decide) ?_
          exact ih _ _ hw ls (lv_sub hl [4, 1, 5, 0] rfl)
        · have hw := hw.2 c_8
          refine lv_iload hx hb dX10_mostChange_63 (lv_at hl 0 rfl) ?_
          refine lv_goto (tgt := 69) hx hb dX10_mostChange_65 (by decide) ?_
          refine lv_istore_n (lv' := [(1, .int r_7), (5, .int r_7), (4, .int r_3), (0, .ref (q 0)), (2, .int x2), (3, .int x3)]) hx hb dX10_mostChange_69 rfl hl (by decide) rfl (fun ls hl => ?_)
          obtain ⟨x3_10, e_10⟩ : ∃ z : Int32, z = x3 + (1 : Int32) := ⟨_, rfl⟩
          have hw := hw x3_10 e_10
          refine lv_iinc (v := x3_10) (lv' := [(3, .int x3_10), (1, .int r_7), (5, .int r_7), (4, .int r_3), (0, .ref (q 0)), (2, .int x2)]) hx hb dX10_mostChange_70 hl (k := 5) rfl (by rw [e_10]; rfl) (by decide) rfl (fun ls hl => ?_)
          refine lv_goto (tgt := 14) hx hb dX10_mostChange_73 (by decide) ?_
          exact ih _ _ hw ls (lv_sub hl [4, 1, 5, 0] rfl)
      · have hw := hw.1 c_4
        refine lv_iconst (v := (0 : Int32)) hx hb dX10_mostChange_36 (by decide) ?_
        refine lv_goto (tgt := 55) hx hb dX10_mostChange_37 (by decide) ?_
        refine lv_istore (lv' := [(5, .int (0 : Int32)), (4, .int r_3), (0, .ref (q 0)), (1, .int x1), (2, .int x2), (3, .int x3)]) hx hb dX10_mostChange_55 hl (by decide) rfl (fun ls hl => ?_)
        refine lv_iload hx hb dX10_mostChange_57 (lv_at hl 0 rfl) ?_
        refine lv_iload_n hx hb dX10_mostChange_59 rfl (lv_at hl 3 rfl) ?_
        refine lv_icmp_le (tgt := 68) hx hb dX10_mostChange_60 (by decide) (fun c_11 => ?_) (fun c_11 => ?_)
        · have hw := hw.1 c_11
          refine lv_iload_n hx hb dX10_mostChange_68 rfl (lv_at hl 3 rfl) ?_
          refine lv_istore_n (lv' := [(1, .int x1), (5, .int (0 : Int32)), (4, .int r_3), (0, .ref (q 0)), (2, .int x2), (3, .int x3)]) hx hb dX10_mostChange_69 rfl hl (by decide) rfl (fun ls hl => ?_)
          obtain ⟨x3_12, e_12⟩ : ∃ z : Int32, z = x3 + (1 : Int32) := ⟨_, rfl⟩
          have hw := hw x3_12 e_12
          refine lv_iinc (v := x3_12) (lv' := [(3, .int x3_12), (1, .int x1), (5, .int (0 : Int32)), (4, .int r_3), (0, .ref (q 0)), (2, .int x2)]) hx hb dX10_mostChange_70 hl (k := 5) rfl (by rw [e_12]; rfl) (by decide) rfl (fun ls hl => ?_)
          refine lv_goto (tgt := 14) hx hb dX10_mostChange_73 (by decide) ?_
          exact ih _ _ hw ls (lv_sub hl [4, 1, 5, 0] rfl)
        · have hw := hw.2 c_11
          refine lv_iload hx hb dX10_mostChange_63 (lv_at hl 0 rfl) ?_
          refine lv_goto (tgt := 69) hx hb dX10_mostChange_65 (by decide) ?_
          refine lv_istore_n (lv' := [(1, .int (0 : Int32)), (5, .int (0 : Int32)), (4, .int r_3), (0, .ref (q 0)), (2, .int x2), (3, .int x3)]) hx hb dX10_mostChange_69 rfl hl (by decide) rfl (fun ls hl => ?_)
          obtain ⟨x3_13, e_13⟩ : ∃ z : Int32, z = x3 + (1 : Int32) := ⟨_, rfl⟩
          have hw := hw x3_13 e_13
          refine lv_iinc (v := x3_13) (lv' := [(3, .int x3_13), (1, .int (0 : Int32)), (5, .int (0 : Int32)), (4, .int r_3), (0, .ref (q 0)), (2, .int x2)]) hx hb dX10_mostChange_70 hl (k := 5) rfl (by rw [e_13]; rfl) (by decide) rfl (fun ls hl => ?_)
          refine lv_goto (tgt := 14) hx hb dX10_mostChange_73 (by decide) ?_
          exact ih _ _ hw ls (lv_sub hl [4, 1, 5, 0] rfl)
set_option maxHeartbeats 4000000 in
set_option maxRecDepth 100000 in
theorem t_X10_mostChange_4 {p : Program} {l : Launch} {e : Env} {R : Room} {s : State} {m : MethodId} {args : Array Value} {below : List Frame} {meth : Method} {c : Code} {D : va_G} {q : Nat → Nat} {cA : Nat → ClassId} {i_pageLength : Int32} {a_page : Nat → Int32} {i_states : Int32} {i_columns : Int32} {a_entries : Nat → Int32} {i_signals : Int32} {a_signalAt : Nat → Int32} {i_walksAt : Int32} {i_turned : Int32} {i_changed : Int32} {i_read : Int32} {i_newRows : Int32} {i_newEntries : Int32} {i_newColumns : Int32} {i_greatest : Int32} {a_newAt : Nat → Int32} {i_partings : Int32} {a_lowSet : Nat → Int32} {a_highSet : Nat → Int32} {i_leastMany : Int32} {a_leastAt : Nat → Int32} {a_tried : Nat → Int32} {a_keptLow : Nat → Int64} {a_keptHigh : Nat → Int64} {i_laid : Int32} {a_wants : Nat → Int32} {i_wide : Int32} {a_wideAsked : Nat → Int32} {a_wideOnes : Nat → Int32} {i_sum : Int32} {i_flickers : Int32} {a_sumAt : Nat → Int32} {j_h : Int64} {post : Int32 → Prop} {KE : Int32 → Prop} (X : kC p R s m args meth c cX10_mostChange RX10 6 (some .int) 1) (hK : va_K D vwCl (tyM cA) s) (hP : va_P D vwCl (wM q cA i_pageLength a_page i_states i_columns a_entries i_signals a_signalAt i_walksAt i_turned i_changed i_read i_newRows i_newEntries i_newColumns i_greatest a_newAt i_partings a_lowSet a_highSet i_leastMany a_leastAt a_tried a_keptLow a_keptHigh i_laid a_wants i_wide a_wideAsked a_wideOnes i_sum i_flickers a_sumAt j_h) s.heap) (hE : ∀ (x1 : Int32), KE x1 → ∀ (ls : Array Slot), lv_has ls 6 [(1, .int x1)] → W p l e R s m args below meth c s.heap [] 0 0 (MQ below (qRi post) args s 0 0 (fun _ => False)) (F0 m 82 ls [])) : ∀ (n : Nat) (x1 : Int32) (x2 : Int32), w_X10_mostChange_4 KE i_states i_columns a_entries i_signals a_signalAt n x1 x2 → ∀ (ls : Array Slot), lv_has ls 6 [(0, .ref (q 0)), (1, .int x1), (2, .int x2)] → W p l e R s m args below meth c s.heap [] 0 0 (MQ below (qRi post) args s 0 0 (fun _ => False)) (F0 m 4 ls []) := by
  obtain ⟨hx, hb, hml, hown, hts, hr, hlocks, hRf, hRl⟩ := id X
  intro n
  induction n with
  | zero => intro x1 x2 hw; exact (show False from hw).elim
  | succ n ih =>
    intro x1 x2 hw ls hl
    refine lv_iload_n hx hb dX10_mostChange_4 rfl (lv_at hl 2 rfl) ?_
    refine lv_aload_n hx hb dX10_mostChange_5 rfl (lv_at hl 0 rfl) ?_
    refine gRX10_87 hx hb hown hts hK hP dX10_mostChange_6 ?_
    refine lv_icmp_ge (tgt := 82) hx hb dX10_mostChange_9 (by decide) (fun c_1 => ?_) (fun c_1 => ?_)
    · have hw := hw.1 c_1
      exact hE _ hw ls (lv_sub hl [1] rfl)
    · have hw := hw.2 c_1
      refine lv_iconst (v := (0 : Int32)) hx hb dX10_mostChange_12 (by decide) ?_
      refine lv_istore_n (lv' := [(3, .int (0 : Int32)), (0, .ref (q 0)), (1, .int x1), (2, .int x2)]) hx hb dX10_mostChange_13 rfl hl (by decide) rfl (fun ls hl => ?_)
      obtain ⟨n_14, hw⟩ := hw
      refine t_X10_mostChange_14 X hK hP (fun x1_14 hw ls hl => ?_) n_14 _ _ hw ls (lv_sub hl [1, 2, 3, 0] rfl)
      obtain ⟨x2_15, e_15⟩ : ∃ z : Int32, z = x2 + (1 : Int32) := ⟨_, rfl⟩
      have hw := hw x2_15 e_15
      refine lv_iinc (v := x2_15) (lv' := [(2, .int x2_15), (0, .ref (q 0)), (1, .int x1_14)]) hx hb dX10_mostChange_76 hl (k := 2) rfl (by rw [e_15]; rfl) (by decide) rfl (fun ls hl => ?_)
      refine lv_goto (tgt := 4) hx hb dX10_mostChange_79 (by decide) ?_
      exact ih _ _ hw ls (lv_sub hl [1, 2, 0] rfl)
set_option maxHeartbeats 4000000 in
set_option maxRecDepth 100000 in
theorem c_X10_mostChange (l : Launch) {D : va_G} {q : Nat → Nat} {cA : Nat → ClassId} {i_pageLength : Int32} {a_page : Nat → Int32} {i_states : Int32} {i_columns : Int32} {a_entries : Nat → Int32} {i_signals : Int32} {a_signalAt : Nat → Int32} {i_walksAt : Int32} {i_turned : Int32} {i_changed : Int32} {i_read : Int32} {i_newRows : Int32} {i_newEntries : Int32} {i_newColumns : Int32} {i_greatest : Int32} {a_newAt : Nat → Int32} {i_partings : Int32} {a_lowSet : Nat → Int32} {a_highSet : Nat → Int32} {i_leastMany : Int32} {a_leastAt : Nat → Int32} {a_tried : Nat → Int32} {a_keptLow : Nat → Int64} {a_keptHigh : Nat → Int64} {i_laid : Int32} {a_wants : Nat → Int32} {i_wide : Int32} {a_wideAsked : Nat → Int32} {a_wideOnes : Nat → Int32} {i_sum : Int32} {i_flickers : Int32} {a_sumAt : Nat → Int32} {j_h : Int64} {post : Int32 → Prop}  (hw : wp_X10_mostChange post i_states i_columns a_entries i_signals a_signalAt ) : Met l yX10_mostChange (Cond.code yX10_mostChange cX10_mostChange 6 (some .int) :: wsL_law) (rmH 1) (va_Pc [.ref (q 0)] (fun U => va_P D vwCl (wM q cA i_pageLength a_page i_states i_columns a_entries i_signals a_signalAt i_walksAt i_turned i_changed i_read i_newRows i_newEntries i_newColumns i_greatest a_newAt i_partings a_lowSet a_highSet i_leastMany a_leastAt a_tried a_keptLow a_keptHigh i_laid a_wants i_wide a_wideAsked a_wideOnes i_sum i_flickers a_sumAt j_h) U.heap ∧ va_K D vwCl (tyM cA) U)) (qRi post) 0 0 (fun _ => False) := by
  refine Met.ofW (cc := cX10_mostChange) (maxL := 6) (ret := (some .int)) (by decide) rfl ?_
  intro p e s m args below meth c s₁ B hml hv
  obtain ⟨rfl, hP, hK⟩ := hv
  have X : kC p (headSpec (Cond.code yX10_mostChange cX10_mostChange 6 (some .int) :: wsL_law) (rmH 1)).room s m _ meth c cX10_mostChange RX10 6 (some .int) 1 := ⟨B.exec, B.bytes, hml, findClass_of_methodNamed B.named, fun w h => atoms_spec (ws := Cond.code yX10_mostChange cX10_mostChange 6 (some .int) :: wsL_law) B.pre w (List.mem_cons_of_mem _ h), B.returns, B.notSynchronized, Nat.le_refl _, Nat.le_refl _⟩
  obtain ⟨hx, hb, hml, hown, hts, hr, hlocks, hRf, hRl⟩ := id X
  have hl := lv_entry ([.ref (q 0)]) (n := 6) (Nat.le_of_ble_eq_true rfl)
  rw [lg_entry_eq]
  generalize (lg_sl ([.ref (q 0)]) ++ List.replicate (6 - (lg_sl ([.ref (q 0)])).length) Slot.unset).toArray = ls at hl ⊢
  have hl : lv_has ls 6 [(0, .ref (q 0))] := hl
  refine lv_iconst (v := (0 : Int32)) hx hb dX10_mostChange_0 (by decide) ?_
  refine lv_istore_n (lv' := [(1, .int (0 : Int32)), (0, .ref (q 0))]) hx hb dX10_mostChange_1 rfl hl (by decide) rfl (fun ls hl => ?_)
  refine lv_iconst (v := (0 : Int32)) hx hb dX10_mostChange_2 (by decide) ?_
  refine lv_istore_n (lv' := [(2, .int (0 : Int32)), (1, .int (0 : Int32)), (0, .ref (q 0))]) hx hb dX10_mostChange_3 rfl hl (by decide) rfl (fun ls hl => ?_)
  obtain ⟨n_16, hw⟩ := hw
  refine t_X10_mostChange_4 X hK hP (fun x1_16 hw ls hl => ?_) n_16 _ _ hw ls (lv_sub hl [2, 1, 0] rfl)
  refine lv_iload_n hx hb dX10_mostChange_82 rfl (lv_at hl 0 rfl) ?_
  exact rt_i hx hb hr hlocks hw dX10_mostChange_83
set_option maxHeartbeats 4000000 in
set_option maxRecDepth 100000 in
theorem c_X10_codedNow (l : Launch) {D : va_G} {q : Nat → Nat} {cA : Nat → ClassId} {i_pageLength : Int32} {a_page : Nat → Int32} {i_states : Int32} {i_columns : Int32} {a_entries : Nat → Int32} {i_signals : Int32} {a_signalAt : Nat → Int32} {i_walksAt : Int32} {i_turned : Int32} {i_changed : Int32} {i_read : Int32} {i_newRows : Int32} {i_newEntries : Int32} {i_newColumns : Int32} {i_greatest : Int32} {a_newAt : Nat → Int32} {i_partings : Int32} {a_lowSet : Nat → Int32} {a_highSet : Nat → Int32} {i_leastMany : Int32} {a_leastAt : Nat → Int32} {a_tried : Nat → Int32} {a_keptLow : Nat → Int64} {a_keptHigh : Nat → Int64} {i_laid : Int32} {a_wants : Nat → Int32} {i_wide : Int32} {a_wideAsked : Nat → Int32} {a_wideOnes : Nat → Int32} {i_sum : Int32} {i_flickers : Int32} {a_sumAt : Nat → Int32} {j_h : Int64} {post : Int32 → Prop} {x1 : Int32} (hw : wp_X10_codedNow post i_states i_columns a_entries i_signals a_signalAt i_partings a_lowSet a_highSet x1) : Met l yX10_codedNow (Cond.code yX10_codedNow cX10_codedNow 2 (some .int) :: wsL_law) (rmH 5) (va_Pc [.ref (q 0), .int x1] (fun U => va_P D vwCl (wM q cA i_pageLength a_page i_states i_columns a_entries i_signals a_signalAt i_walksAt i_turned i_changed i_read i_newRows i_newEntries i_newColumns i_greatest a_newAt i_partings a_lowSet a_highSet i_leastMany a_leastAt a_tried a_keptLow a_keptHigh i_laid a_wants i_wide a_wideAsked a_wideOnes i_sum i_flickers a_sumAt j_h) U.heap ∧ va_K D vwCl (tyM cA) U)) (qRi post) 0 0 (fun _ => False) := by
  refine Met.ofW (cc := cX10_codedNow) (maxL := 2) (ret := (some .int)) (by decide) rfl ?_
  intro p e s m args below meth c s₁ B hml hv
  obtain ⟨rfl, hP, hK⟩ := hv
  have X : kC p (headSpec (Cond.code yX10_codedNow cX10_codedNow 2 (some .int) :: wsL_law) (rmH 5)).room s m _ meth c cX10_codedNow RX10 2 (some .int) 5 := ⟨B.exec, B.bytes, hml, findClass_of_methodNamed B.named, fun w h => atoms_spec (ws := Cond.code yX10_codedNow cX10_codedNow 2 (some .int) :: wsL_law) B.pre w (List.mem_cons_of_mem _ h), B.returns, B.notSynchronized, Nat.le_refl _, Nat.le_refl _⟩
  obtain ⟨hx, hb, hml, hown, hts, hr, hlocks, hRf, hRl⟩ := id X
  have hl := lv_entry ([.ref (q 0), .int x1]) (n := 2) (Nat.le_of_ble_eq_true rfl)
  rw [lg_entry_eq]
  generalize (lg_sl ([.ref (q 0), .int x1]) ++ List.replicate (2 - (lg_sl ([.ref (q 0), .int x1])).length) Slot.unset).toArray = ls at hl ⊢
  have hl : lv_has ls 2 [(0, .ref (q 0)), (1, .int x1)] := hl
  refine lv_iload_n hx hb dX10_codedNow_0 rfl (lv_at hl 1 rfl) ?_
  by_cases c_1 : x1 = (0 : Int32)
  · have hw := hw.1 c_1
    refine sw_in (k := (0 : Int32)) (off := 35) (tgt := 36) hx hb dX10_codedNow_1 c_1 (by decide) (by decide) (by decide) (by decide) ?_
    refine lv_aload_n hx hb dX10_codedNow_36 rfl (lv_at hl 0 rfl) ?_
    refine gRX10_99 hx hb hown hts hK hP dX10_codedNow_37 ?_
    exact rt_i hx hb hr hlocks hw dX10_codedNow_40
  · have hw := hw.2 c_1
    by_cases c_2 : x1 = (1 : Int32)
    · have hw := hw.1 c_2
      refine sw_in (k := (1 : Int32)) (off := 40) (tgt := 41) hx hb dX10_codedNow_1 c_2 (by decide) (by decide) (by decide) (by decide) ?_
      refine lv_aload_n hx hb dX10_codedNow_41 rfl (lv_at hl 0 rfl) ?_
      refine ro_i (va_runV (As := []) (rest := []) ⟨hx, hb, hml, hown, hts⟩ (c_X10_lost l hw) (kRX10_193 (h := 2) hts (Nat.le_trans (Nat.le_of_ble_eq_true rfl) hRf) (Nat.le_trans (Nat.le_of_ble_eq_true rfl) hRl)) (preM hK hP) rfl rfl hl.1 rfl (lv_room (Nat.le_of_ble_eq_true rfl)) dX10_codedNow_42 ⟨Nat.zero_le _, Nat.zero_le _⟩) (fun r_6 hw => ?_)
      refine lv_if_ne (tgt := 52) hx hb dX10_codedNow_45 (by decide) (fun c_7 => ?_) (fun c_7 => ?_)
      · have hw := hw.2 c_7
        refine lv_iconst (v := (0 : Int32)) hx hb dX10_codedNow_52 (by decide) ?_
        exact rt_i hx hb hr hlocks hw dX10_codedNow_53
      · have hw := hw.1 c_7
        refine lv_iconst (v := (1 : Int32)) hx hb dX10_codedNow_48 (by decide) ?_
        refine lv_goto (tgt := 53) hx hb dX10_codedNow_49 (by decide) ?_
        exact rt_i hx hb hr hlocks hw dX10_codedNow_53
    · have hw := hw.2 c_2
      by_cases c_3 : x1 = (2 : Int32)
      · have hw := hw.1 c_3
        refine sw_in (k := (2 : Int32)) (off := 53) (tgt := 54) hx hb dX10_codedNow_1 c_3 (by decide) (by decide) (by decide) (by decide) ?_
        refine lv_aload_n hx hb dX10_codedNow_54 rfl (lv_at hl 0 rfl) ?_
        refine ro_i (va_runV (As := []) (rest := []) ⟨hx, hb, hml, hown, hts⟩ (c_X10_lost l hw) (kRX10_193 (h := 2) hts (Nat.le_trans (Nat.le_of_ble_eq_true rfl) hRf) (Nat.le_trans (Nat.le_of_ble_eq_true rfl) hRl)) (preM hK hP) rfl rfl hl.1 rfl (lv_room (Nat.le_of_ble_eq_true rfl)) dX10_codedNow_55 ⟨Nat.zero_le _, Nat.zero_le _⟩) (fun r_8 hw => ?_)
        exact rt_i hx hb hr hlocks hw dX10_codedNow_58
      · have hw := hw.2 c_3
        by_cases c_4 : x1 = (3 : Int32)
        · have hw := hw.1 c_4
          refine sw_in (k := (3 : Int32)) (off := 58) (tgt := 59) hx hb dX10_codedNow_1 c_4 (by decide) (by decide) (by decide) (by decide) ?_
          refine lv_aload_n hx hb dX10_codedNow_59 rfl (lv_at hl 0 rfl) ?_
          refine lv_iconst (v := (0 : Int32)) hx hb dX10_codedNow_60 (by decide) ?_
          refine ro_i (va_runV (As := [.int (0 : Int32)]) (rest := []) ⟨hx, hb, hml, hown, hts⟩ (c_X10_wildNow l hw) (kRX10_196 (h := 4) hts (Nat.le_trans (Nat.le_of_ble_eq_true rfl) hRf) (Nat.le_trans (Nat.le_of_ble_eq_true rfl) hRl)) (preM hK hP) rfl rfl hl.1 rfl (lv_room (Nat.le_of_ble_eq_true rfl)) dX10_codedNow_61 ⟨Nat.zero_le _, Nat.zero_le _⟩) (fun r_9 hw => ?_)
          exact rt_i hx hb hr hlocks hw dX10_codedNow_64
        · have hw := hw.2 c_4
          by_cases c_5 : x1 = (4 : Int32)
          · have hw := hw.1 c_5
            refine sw_in (k := (4 : Int32)) (off := 64) (tgt := 65) hx hb dX10_codedNow_1 c_5 (by decide) (by decide) (by decide) (by decide) ?_
            refine lv_aload_n hx hb dX10_codedNow_65 rfl (lv_at hl 0 rfl) ?_
            refine lv_iconst (v := (1 : Int32)) hx hb dX10_codedNow_66 (by decide) ?_
            refine ro_i (va_runV (As := [.int (1 : Int32)]) (rest := []) ⟨hx, hb, hml, hown, hts⟩ (c_X10_wildNow l hw) (kRX10_196 (h := 4) hts (Nat.le_trans (Nat.le_of_ble_eq_true rfl) hRf) (Nat.le_trans (Nat.le_of_ble_eq_true rfl) hRl)) (preM hK hP) rfl rfl hl.1 rfl (lv_room (Nat.le_of_ble_eq_true rfl)) dX10_codedNow_67 ⟨Nat.zero_le _, Nat.zero_le _⟩) (fun r_10 hw => ?_)
            exact rt_i hx hb hr hlocks hw dX10_codedNow_70
          · have hw := hw.2 c_5
            refine lv_tableOut (tgt := 71) hx hb dX10_codedNow_1 (by have q0 := lv_neT c_1 (a := 0) (by decide); have q1 := lv_neT c_2 (a := 1) (by decide); have q2 := lv_neT c_3 (a := 2) (by decide); have q3 := lv_neT c_4 (a := 3) (by decide); have q4 := lv_neT c_5 (a := 4) (by decide); omega) (by decide) ?_
            refine lv_aload_n hx hb dX10_codedNow_71 rfl (lv_at hl 0 rfl) ?_
            refine ro_i (va_runV (As := []) (rest := []) ⟨hx, hb, hml, hown, hts⟩ (c_X10_mostChange l hw) (kRX10_199 (h := 1) hts (Nat.le_trans (Nat.le_of_ble_eq_true rfl) hRf) (Nat.le_trans (Nat.le_of_ble_eq_true rfl) hRl)) (preM hK hP) rfl rfl hl.1 rfl (lv_room (Nat.le_of_ble_eq_true rfl)) dX10_codedNow_72 ⟨Nat.zero_le _, Nat.zero_le _⟩) (fun r_11 hw => ?_)
            exact rt_i hx hb hr hlocks hw dX10_codedNow_75
set_option maxHeartbeats 4000000 in
set_option maxRecDepth 100000 in
theorem c_X10_coded (l : Launch) {D : va_G} {q : Nat → Nat} {cA : Nat → ClassId} {i_pageLength : Int32} {a_page : Nat → Int32} {i_states : Int32} {i_columns : Int32} {a_entries : Nat → Int32} {i_signals : Int32} {a_signalAt : Nat → Int32} {i_walksAt : Int32} {i_turned : Int32} {i_changed : Int32} {i_read : Int32} {i_newRows : Int32} {i_newEntries : Int32} {i_newColumns : Int32} {i_greatest : Int32} {a_newAt : Nat → Int32} {i_partings : Int32} {a_lowSet : Nat → Int32} {a_highSet : Nat → Int32} {i_leastMany : Int32} {a_leastAt : Nat → Int32} {a_tried : Nat → Int32} {a_keptLow : Nat → Int64} {a_keptHigh : Nat → Int64} {i_laid : Int32} {a_wants : Nat → Int32} {i_wide : Int32} {a_wideAsked : Nat → Int32} {a_wideOnes : Nat → Int32} {i_sum : Int32} {i_flickers : Int32} {a_sumAt : Nat → Int32} {j_h : Int64} {post : Int32 → Prop} {x1 : Int32} (hw : wp_X10_coded post i_states i_columns a_entries i_signals a_signalAt i_partings a_lowSet a_highSet x1) : Met l yX10_coded (Cond.code yX10_coded cX10_coded 2 (some .int) :: wsL_law) (rmH 6) (va_Pc [.ref (q 0), .int x1] (fun U => va_P D vwCl (wM q cA i_pageLength a_page i_states i_columns a_entries i_signals a_signalAt i_walksAt i_turned i_changed i_read i_newRows i_newEntries i_newColumns i_greatest a_newAt i_partings a_lowSet a_highSet i_leastMany a_leastAt a_tried a_keptLow a_keptHigh i_laid a_wants i_wide a_wideAsked a_wideOnes i_sum i_flickers a_sumAt j_h) U.heap ∧ va_K D vwCl (tyM cA) U)) (qRi post) 0 0 (fun _ => False) := by
  refine Met.ofW (cc := cX10_coded) (maxL := 2) (ret := (some .int)) (by decide) rfl ?_
  intro p e s m args below meth c s₁ B hml hv
  obtain ⟨rfl, hP, hK⟩ := hv
  have X : kC p (headSpec (Cond.code yX10_coded cX10_coded 2 (some .int) :: wsL_law) (rmH 6)).room s m _ meth c cX10_coded RX10 2 (some .int) 6 := ⟨B.exec, B.bytes, hml, findClass_of_methodNamed B.named, fun w h => atoms_spec (ws := Cond.code yX10_coded cX10_coded 2 (some .int) :: wsL_law) B.pre w (List.mem_cons_of_mem _ h), B.returns, B.notSynchronized, Nat.le_refl _, Nat.le_refl _⟩
  obtain ⟨hx, hb, hml, hown, hts, hr, hlocks, hRf, hRl⟩ := id X
  have hl := lv_entry ([.ref (q 0), .int x1]) (n := 2) (Nat.le_of_ble_eq_true rfl)
  rw [lg_entry_eq]
  generalize (lg_sl ([.ref (q 0), .int x1]) ++ List.replicate (2 - (lg_sl ([.ref (q 0), .int x1])).length) Slot.unset).toArray = ls at hl ⊢
  have hl : lv_has ls 2 [(0, .ref (q 0)), (1, .int x1)] := hl
  refine lv_iload_n hx hb dX10_coded_0 rfl (lv_at hl 1 rfl) ?_
  refine lv_iconst (v := (0 : Int32)) hx hb dX10_coded_1 (by decide) ?_
  refine lv_iconst (v := (5 : Int32)) hx hb dX10_coded_2 (by decide) ?_
  refine ro_i (va_runS (As := [.int x1, .int (0 : Int32), .int (5 : Int32)]) (rest := []) ⟨hx, hb, hml, hown, hts⟩ (c_X10_within l hw) (kRX10_60 (h := 0) hts (Nat.le_trans (Nat.le_of_ble_eq_true rfl) hRf) (Nat.le_trans (Nat.le_of_ble_eq_true rfl) hRl)) pre_0 rfl rfl hl.1 rfl (lv_room (Nat.le_of_ble_eq_true rfl)) dX10_coded_3 ⟨Nat.zero_le _, Nat.zero_le _⟩) (fun r_1 hw => ?_)
  refine lv_if_ne (tgt := 13) hx hb dX10_coded_6 (by decide) (fun c_2 => ?_) (fun c_2 => ?_)
  · have hw := hw.2 c_2
    refine lv_aload_n hx hb dX10_coded_13 rfl (lv_at hl 0 rfl) ?_
    refine ro_i (va_runV (As := []) (rest := []) ⟨hx, hb, hml, hown, hts⟩ (c_X10_isNormal l hw) (kRX10_125 (h := 2) hts (Nat.le_trans (Nat.le_of_ble_eq_true rfl) hRf) (Nat.le_trans (Nat.le_of_ble_eq_true rfl) hRl)) (preM hK hP) rfl rfl hl.1 rfl (lv_room (Nat.le_of_ble_eq_true rfl)) dX10_coded_14 ⟨Nat.zero_le _, Nat.zero_le _⟩) (fun r_3 hw => ?_)
    refine lv_if_eq (tgt := 28) hx hb dX10_coded_17 (by decide) (fun c_4 => ?_) (fun c_4 => ?_)
    · have hw := hw.1 c_4
      refine lv_sipush (v := ((-1003) : Int32)) hx hb dX10_coded_28 (by decide +kernel) ?_
      exact rt_i hx hb hr hlocks hw dX10_coded_31
    · have hw := hw.2 c_4
      refine lv_aload_n hx hb dX10_coded_20 rfl (lv_at hl 0 rfl) ?_
      refine lv_iload_n hx hb dX10_coded_21 rfl (lv_at hl 1 rfl) ?_
      refine ro_i (va_runV (As := [.int x1]) (rest := []) ⟨hx, hb, hml, hown, hts⟩ (c_X10_codedNow l hw) (kRX10_202 (h := 5) hts (Nat.le_trans (Nat.le_of_ble_eq_true rfl) hRf) (Nat.le_trans (Nat.le_of_ble_eq_true rfl) hRl)) (preM hK hP) rfl rfl hl.1 rfl (lv_room (Nat.le_of_ble_eq_true rfl)) dX10_coded_22 ⟨Nat.zero_le _, Nat.zero_le _⟩) (fun r_5 hw => ?_)
      refine lv_goto (tgt := 31) hx hb dX10_coded_25 (by decide) ?_
      exact rt_i hx hb hr hlocks hw dX10_coded_31
  · have hw := hw.1 c_2
    refine lv_sipush (v := ((-1002) : Int32)) hx hb dX10_coded_9 (by decide +kernel) ?_
    exact rt_i hx hb hr hlocks hw dX10_coded_12
set_option maxHeartbeats 4000000 in
set_option maxRecDepth 100000 in
theorem c_X9_refusalOf (l : Launch) {D : va_G} {q : Nat → Nat} {cA : Nat → ClassId} {Fc_unkept : Int32} {Fc_tablesRead : Int32} {Pg_letters : Nat → Int32} {Pg_size : Int32} {Pg_fault : Int32} {Pg_rows : Int32} {Pg_inRow : Int32} {Pg_width : Int32} {Fl_entries : Nat → Int32} {Fl_states : Int32} {Fl_columns : Int32} {Fl_moves : Int32} {Fl_stables : Int32} {Fl_amiss : Int32} {Fl_normal : Int32} {Pt_lessers : Nat → Int32} {Pt_greaters : Nat → Int32} {Pt_size : Int32} {Lc_signals : Nat → Int32} {Lc_kept : Nat → Int64} {Lc_keptFrom : Nat → Int64} {Lc_candidates : Int32} {Lc_size : Int32} {Sc_signals : Nat → Int32} {Sc_codes : Nat → Int32} {Sc_size : Int32} {Ai_codes : Nat → Int32} {Ai_bits : Int32} {Cu_seen : Nat → Int32} {Cu_inThrees : Nat → Int32} {Cu_all : Int32} {Lo_asked : Nat → Nat → Int32} {Lo_ones : Nat → Nat → Int32} {Lo_sum : Nat → Nat → Int32} {Lo_wideSize : Nat → Int32} {Lo_sumSize : Nat → Int32} {Lo_flickers : Nat → Int32} {Lo_ready : Nat → Int32} {Wa_at : Int32} {Wa_turns : Int32} {Wa_changes : Int32} {post : Int32 → Prop} {x1 : Int32} (hw : wp_X9_refusalOf post Fc_unkept Fl_normal Sc_size x1) : Met l yX9_refusalOf (Cond.code yX9_refusalOf cX9_refusalOf 2 (some .int) :: wsL_law) (rmH 1) (va_Pc [.ref (q 0), .int x1] (fun U => va_P D vwCl (wC q cA Fc_unkept Fc_tablesRead Pg_letters Pg_size Pg_fault Pg_rows Pg_inRow Pg_width Fl_entries Fl_states Fl_columns Fl_moves Fl_stables Fl_amiss Fl_normal Pt_lessers Pt_greaters Pt_size Lc_signals Lc_kept Lc_keptFrom Lc_candidates Lc_size Sc_signals Sc_codes Sc_size Ai_codes Ai_bits Cu_seen Cu_inThrees Cu_all Lo_asked Lo_ones Lo_sum Lo_wideSize Lo_sumSize Lo_flickers Lo_ready Wa_at Wa_turns Wa_changes) U.heap ∧ va_K D vwCl (tyC cA) U ∧ nwC U)) (qRi post) 0 0 (fun _ => False) := by
  refine Met.ofW (cc := cX9_refusalOf) (maxL := 2) (ret := (some .int)) (by decide) rfl ?_
  intro p e s m args below meth c s₁ B hml hv
  obtain ⟨rfl, hP, hK, hN⟩ := hv
  have X : kC p (headSpec (Cond.code yX9_refusalOf cX9_refusalOf 2 (some .int) :: wsL_law) (rmH 1)).room s m _ meth c cX9_refusalOf RX9 2 (some .int) 1 := ⟨B.exec, B.bytes, hml, findClass_of_methodNamed B.named, fun w h => atoms_spec (ws := Cond.code yX9_refusalOf cX9_refusalOf 2 (some .int) :: wsL_law) B.pre w (List.mem_cons_of_mem _ h), B.returns, B.notSynchronized, Nat.le_refl _, Nat.le_refl _⟩
  obtain ⟨hx, hb, hml, hown, hts, hr, hlocks, hRf, hRl⟩ := id X
  have hl := lv_entry ([.ref (q 0), .int x1]) (n := 2) (Nat.le_of_ble_eq_true rfl)
  rw [lg_entry_eq]
  generalize (lg_sl ([.ref (q 0), .int x1]) ++ List.replicate (2 - (lg_sl ([.ref (q 0), .int x1])).length) Slot.unset).toArray = ls at hl ⊢
  have hl : lv_has ls 2 [(0, .ref (q 0)), (1, .int x1)] := hl
  refine lv_aload_n hx hb dX9_refusalOf_0 rfl (lv_at hl 0 rfl) ?_
  refine ro_i (va_runV (As := []) (rest := []) ⟨hx, hb, hml, hown, hts⟩ (c_X9_isGood l hw) (kRX9_261 (h := 0) hts (Nat.le_trans (Nat.le_of_ble_eq_true rfl) hRf) (Nat.le_trans (Nat.le_of_ble_eq_true rfl) hRl)) (preX9 hK hN hP) rfl rfl hl.1 rfl (lv_room (Nat.le_of_ble_eq_true rfl)) dX9_refusalOf_1 ⟨Nat.zero_le _, Nat.zero_le _⟩) (fun r_1 hw => ?_)
  refine lv_if_ne (tgt := 11) hx hb dX9_refusalOf_4 (by decide) (fun c_2 => ?_) (fun c_2 => ?_)
  · have hw := hw.2 c_2
    refine lv_iload_n hx hb dX9_refusalOf_11 rfl (lv_at hl 1 rfl) ?_
    refine lv_if_lt (tgt := 26) hx hb dX9_refusalOf_12 (by decide) (fun c_3 => ?_) (fun c_3 => ?_)
    · have hw := hw.1 c_3
      refine lv_sipush (v := ((-1001) : Int32)) hx hb dX9_refusalOf_26 (by decide +kernel) ?_
      refine lv_goto (tgt := 33) hx hb dX9_refusalOf_29 (by decide) ?_
      exact rt_i hx hb hr hlocks hw dX9_refusalOf_33
    · have hw := hw.2 c_3
      refine lv_iload_n hx hb dX9_refusalOf_15 rfl (lv_at hl 1 rfl) ?_
      refine lv_aload_n hx hb dX9_refusalOf_16 rfl (lv_at hl 0 rfl) ?_
      refine gRX9_40 hx hb hown hts hK hP dX9_refusalOf_17 ?_
      refine gRX9_175 hx hb hown hts hK hN hP dX9_refusalOf_20 ?_
      refine lv_icmp_lt (tgt := 32) hx hb dX9_refusalOf_23 (by decide) (fun c_4 => ?_) (fun c_4 => ?_)
      · have hw := hw.1 c_4
        refine lv_iconst (v := (0 : Int32)) hx hb dX9_refusalOf_32 (by decide) ?_
        exact rt_i hx hb hr hlocks hw dX9_refusalOf_33
      · have hw := hw.2 c_4
        refine lv_sipush (v := ((-1001) : Int32)) hx hb dX9_refusalOf_26 (by decide +kernel) ?_
        refine lv_goto (tgt := 33) hx hb dX9_refusalOf_29 (by decide) ?_
        exact rt_i hx hb hr hlocks hw dX9_refusalOf_33
  · have hw := hw.1 c_2
    refine lv_sipush (v := ((-1003) : Int32)) hx hb dX9_refusalOf_7 (by decide +kernel) ?_
    exact rt_i hx hb hr hlocks hw dX9_refusalOf_10
set_option maxHeartbeats 4000000 in
set_option maxRecDepth 100000 in
theorem c_X0_points (l : Launch) {D : va_G} {q : Nat → Nat} {cA : Nat → ClassId} {Fc_unkept : Int32} {Fc_tablesRead : Int32} {Pg_letters : Nat → Int32} {Pg_size : Int32} {Pg_fault : Int32} {Pg_rows : Int32} {Pg_inRow : Int32} {Pg_width : Int32} {Fl_entries : Nat → Int32} {Fl_states : Int32} {Fl_columns : Int32} {Fl_moves : Int32} {Fl_stables : Int32} {Fl_amiss : Int32} {Fl_normal : Int32} {Pt_lessers : Nat → Int32} {Pt_greaters : Nat → Int32} {Pt_size : Int32} {Lc_signals : Nat → Int32} {Lc_kept : Nat → Int64} {Lc_keptFrom : Nat → Int64} {Lc_candidates : Int32} {Lc_size : Int32} {Sc_signals : Nat → Int32} {Sc_codes : Nat → Int32} {Sc_size : Int32} {Ai_codes : Nat → Int32} {Ai_bits : Int32} {Cu_seen : Nat → Int32} {Cu_inThrees : Nat → Int32} {Cu_all : Int32} {Lo_asked : Nat → Nat → Int32} {Lo_ones : Nat → Nat → Int32} {Lo_sum : Nat → Nat → Int32} {Lo_wideSize : Nat → Int32} {Lo_sumSize : Nat → Int32} {Lo_flickers : Nat → Int32} {Lo_ready : Nat → Int32} {Wa_at : Int32} {Wa_turns : Int32} {Wa_changes : Int32} {post : Int32 → Prop}  (hw : wp_X0_points post Ai_bits ) : Met l yX0_points (Cond.code yX0_points cX0_points 1 (some .int) :: wsL_law) (rmH 0) (va_Pc [.ref (q 15)] (fun U => va_P D vwCl (wC q cA Fc_unkept Fc_tablesRead Pg_letters Pg_size Pg_fault Pg_rows Pg_inRow Pg_width Fl_entries Fl_states Fl_columns Fl_moves Fl_stables Fl_amiss Fl_normal Pt_lessers Pt_greaters Pt_size Lc_signals Lc_kept Lc_keptFrom Lc_candidates Lc_size Sc_signals Sc_codes Sc_size Ai_codes Ai_bits Cu_seen Cu_inThrees Cu_all Lo_asked Lo_ones Lo_sum Lo_wideSize Lo_sumSize Lo_flickers Lo_ready Wa_at Wa_turns Wa_changes) U.heap ∧ va_K D vwCl (tyC cA) U ∧ nwC U)) (qRi post) 0 0 (fun _ => False) := by
  refine Met.ofW (cc := cX0_points) (maxL := 1) (ret := (some .int)) (by decide) rfl ?_
  intro p e s m args below meth c s₁ B hml hv
  obtain ⟨rfl, hP, hK, hN⟩ := hv
  have X : kC p (headSpec (Cond.code yX0_points cX0_points 1 (some .int) :: wsL_law) (rmH 0)).room s m _ meth c cX0_points RX0 1 (some .int) 0 := ⟨B.exec, B.bytes, hml, findClass_of_methodNamed B.named, fun w h => atoms_spec (ws := Cond.code yX0_points cX0_points 1 (some .int) :: wsL_law) B.pre w (List.mem_cons_of_mem _ h), B.returns, B.notSynchronized, Nat.le_refl _, Nat.le_refl _⟩
  obtain ⟨hx, hb, hml, hown, hts, hr, hlocks, hRf, hRl⟩ := id X
  have hl := lv_entry ([.ref (q 15)]) (n := 1) (Nat.le_of_ble_eq_true rfl)
  rw [lg_entry_eq]
  generalize (lg_sl ([.ref (q 15)]) ++ List.replicate (1 - (lg_sl ([.ref (q 15)])).length) Slot.unset).toArray = ls at hl ⊢
  have hl : lv_has ls 1 [(0, .ref (q 15))] := hl
  refine lv_iconst (v := (1 : Int32)) hx hb dX0_points_0 (by decide) ?_
  refine lv_aload_n hx hb dX0_points_1 rfl (lv_at hl 0 rfl) ?_
  refine gRX0_15 hx hb hown hts hK hP dX0_points_2 ?_
  refine lv_ishl hx hb dX0_points_5 ?_
  exact rt_i hx hb hr hlocks hw dX0_points_6
set_option maxHeartbeats 4000000 in
set_option maxRecDepth 100000 in
theorem c_X0_at (l : Launch) {D : va_G} {q : Nat → Nat} {cA : Nat → ClassId} {Fc_unkept : Int32} {Fc_tablesRead : Int32} {Pg_letters : Nat → Int32} {Pg_size : Int32} {Pg_fault : Int32} {Pg_rows : Int32} {Pg_inRow : Int32} {Pg_width : Int32} {Fl_entries : Nat → Int32} {Fl_states : Int32} {Fl_columns : Int32} {Fl_moves : Int32} {Fl_stables : Int32} {Fl_amiss : Int32} {Fl_normal : Int32} {Pt_lessers : Nat → Int32} {Pt_greaters : Nat → Int32} {Pt_size : Int32} {Lc_signals : Nat → Int32} {Lc_kept : Nat → Int64} {Lc_keptFrom : Nat → Int64} {Lc_candidates : Int32} {Lc_size : Int32} {Sc_signals : Nat → Int32} {Sc_codes : Nat → Int32} {Sc_size : Int32} {Ai_codes : Nat → Int32} {Ai_bits : Int32} {Cu_seen : Nat → Int32} {Cu_inThrees : Nat → Int32} {Cu_all : Int32} {Lo_asked : Nat → Nat → Int32} {Lo_ones : Nat → Nat → Int32} {Lo_sum : Nat → Nat → Int32} {Lo_wideSize : Nat → Int32} {Lo_sumSize : Nat → Int32} {Lo_flickers : Nat → Int32} {Lo_ready : Nat → Int32} {Wa_at : Int32} {Wa_turns : Int32} {Wa_changes : Int32} {post : Int32 → Prop} {x1 : Int32} {x2 : Int32} (hw : wp_X0_at post Ai_codes x1 x2) : Met l yX0_at (Cond.code yX0_at cX0_at 3 (some .int) :: wsL_law) (rmH 0) (va_Pc [.ref (q 15), .int x1, .int x2] (fun U => va_P D vwCl (wC q cA Fc_unkept Fc_tablesRead Pg_letters Pg_size Pg_fault Pg_rows Pg_inRow Pg_width Fl_entries Fl_states Fl_columns Fl_moves Fl_stables Fl_amiss Fl_normal Pt_lessers Pt_greaters Pt_size Lc_signals Lc_kept Lc_keptFrom Lc_candidates Lc_size Sc_signals Sc_codes Sc_size Ai_codes Ai_bits Cu_seen Cu_inThrees Cu_all Lo_asked Lo_ones Lo_sum Lo_wideSize Lo_sumSize Lo_flickers Lo_ready Wa_at Wa_turns Wa_changes) U.heap ∧ va_K D vwCl (tyC cA) U ∧ nwC U)) (qRi post) 0 0 (fun _ => False) := by
  refine Met.ofW (cc := cX0_at) (maxL := 3) (ret := (some .int)) (by decide) rfl ?_
  intro p e s m args below meth c s₁ B hml hv
  obtain ⟨rfl, hP, hK, hN⟩ := hv
  have X : kC p (headSpec (Cond.code yX0_at cX0_at 3 (some .int) :: wsL_law) (rmH 0)).room s m _ meth c cX0_at RX0 3 (some .int) 0 := ⟨B.exec, B.bytes, hml, findClass_of_methodNamed B.named, fun w h => atoms_spec (ws := Cond.code yX0_at cX0_at 3 (some .int) :: wsL_law) B.pre w (List.mem_cons_of_mem _ h), B.returns, B.notSynchronized, Nat.le_refl _, Nat.le_refl _⟩
  obtain ⟨hx, hb, hml, hown, hts, hr, hlocks, hRf, hRl⟩ := id X
  have hl := lv_entry ([.ref (q 15), .int x1, .int x2]) (n := 3) (Nat.le_of_ble_eq_true rfl)
  rw [lg_entry_eq]
  generalize (lg_sl ([.ref (q 15), .int x1, .int x2]) ++ List.replicate (3 - (lg_sl ([.ref (q 15), .int x1, .int x2])).length) Slot.unset).toArray = ls at hl ⊢
  have hl : lv_has ls 3 [(0, .ref (q 15)), (1, .int x1), (2, .int x2)] := hl
  refine lv_iload_n hx hb dX0_at_0 rfl (lv_at hl 2 rfl) ?_
  refine lv_if_lt (tgt := 21) hx hb dX0_at_1 (by decide) (fun c_1 => ?_) (fun c_1 => ?_)
  · have hw := hw.1 c_1
    refine lv_iconst (v := ((-1) : Int32)) hx hb dX0_at_21 (by decide) ?_
    exact rt_i hx hb hr hlocks hw dX0_at_22
  · have hw := hw.2 c_1
    refine lv_iload_n hx hb dX0_at_4 rfl (lv_at hl 2 rfl) ?_
    refine lv_sipush (v := (128 : Int32)) hx hb dX0_at_5 (by decide +kernel) ?_
    refine lv_icmp_ge (tgt := 21) hx hb dX0_at_8 (by decide) (fun c_2 => ?_) (fun c_2 => ?_)
    · have hw := hw.1 c_2
      refine lv_iconst (v := ((-1) : Int32)) hx hb dX0_at_21 (by decide) ?_
      exact rt_i hx hb hr hlocks hw dX0_at_22
    · have hw := hw.2 c_2
      refine lv_aload_n hx hb dX0_at_11 rfl (lv_at hl 0 rfl) ?_
      refine gRX0_9 hx hb hown hts hK hP dX0_at_12 ?_
      refine lv_iload_n hx hb dX0_at_15 rfl (lv_at hl 2 rfl) ?_
      have h_3 := hw.1
      have hw := hw.2
      refine ld_Ai_codes hx hb hK hP h_3 dX0_at_16 ?_
      refine lv_iconst (v := ((-1) : Int32)) hx hb dX0_at_17 (by decide) ?_
      refine lv_icmp_ne (tgt := 23) hx hb dX0_at_18 (by decide) (fun c_4 => ?_) (fun c_4 => ?_)
      · have hw := hw.2 c_4
        refine lv_aload_n hx hb dX0_at_23 rfl (lv_at hl 0 rfl) ?_
        refine gRX0_9 hx hb hown hts hK hP dX0_at_24 ?_
        refine lv_iload_n hx hb dX0_at_27 rfl (lv_at hl 2 rfl) ?_
        have h_5 := hw.1
        have hw := hw.2
        refine ld_Ai_codes hx hb hK hP h_5 dX0_at_28 ?_
        refine lv_iload_n hx hb dX0_at_29 rfl (lv_at hl 1 rfl) ?_
        refine lv_ishr hx hb dX0_at_30 ?_
        refine lv_iconst (v := (1 : Int32)) hx hb dX0_at_31 (by decide) ?_
        refine lv_iand hx hb dX0_at_32 ?_
        exact rt_i hx hb hr hlocks hw dX0_at_33
      · have hw := hw.1 c_4
        refine lv_iconst (v := ((-1) : Int32)) hx hb dX0_at_21 (by decide) ?_
        exact rt_i hx hb hr hlocks hw dX0_at_22
set_option maxHeartbeats 4000000 in
set_option maxRecDepth 100000 in
theorem c_X9_wanted (l : Launch) {D : va_G} {q : Nat → Nat} {cA : Nat → ClassId} {Fc_unkept : Int32} {Fc_tablesRead : Int32} {Pg_letters : Nat → Int32} {Pg_size : Int32} {Pg_fault : Int32} {Pg_rows : Int32} {Pg_inRow : Int32} {Pg_width : Int32} {Fl_entries : Nat → Int32} {Fl_states : Int32} {Fl_columns : Int32} {Fl_moves : Int32} {Fl_stables : Int32} {Fl_amiss : Int32} {Fl_normal : Int32} {Pt_lessers : Nat → Int32} {Pt_greaters : Nat → Int32} {Pt_size : Int32} {Lc_signals : Nat → Int32} {Lc_kept : Nat → Int64} {Lc_keptFrom : Nat → Int64} {Lc_candidates : Int32} {Lc_size : Int32} {Sc_signals : Nat → Int32} {Sc_codes : Nat → Int32} {Sc_size : Int32} {Ai_codes : Nat → Int32} {Ai_bits : Int32} {Cu_seen : Nat → Int32} {Cu_inThrees : Nat → Int32} {Cu_all : Int32} {Lo_asked : Nat → Nat → Int32} {Lo_ones : Nat → Nat → Int32} {Lo_sum : Nat → Nat → Int32} {Lo_wideSize : Nat → Int32} {Lo_sumSize : Nat → Int32} {Lo_flickers : Nat → Int32} {Lo_ready : Nat → Int32} {Wa_at : Int32} {Wa_turns : Int32} {Wa_changes : Int32} {post : Int32 → Prop} {x1 : Int32} {x2 : Int32} (hw : wp_X9_wanted post Fc_unkept Fl_normal Sc_size Ai_codes Ai_bits x1 x2) : Met l yX9_wanted (Cond.code yX9_wanted cX9_wanted 4 (some .int) :: wsL_law) (rmH 2) (va_Pc [.ref (q 0), .int x1, .int x2] (fun U => va_P D vwCl (wC q cA Fc_unkept Fc_tablesRead Pg_letters Pg_size Pg_fault Pg_rows Pg_inRow Pg_width Fl_entries Fl_states Fl_columns Fl_moves Fl_stables Fl_amiss Fl_normal Pt_lessers Pt_greaters Pt_size Lc_signals Lc_kept Lc_keptFrom Lc_candidates Lc_size Sc_signals Sc_codes Sc_size Ai_codes Ai_bits Cu_seen Cu_inThrees Cu_all Lo_asked Lo_ones Lo_sum Lo_wideSize Lo_sumSize Lo_flickers Lo_ready Wa_at Wa_turns Wa_changes) U.heap ∧ va_K D vwCl (tyC cA) U ∧ nwC U)) (qRi post) 0 0 (fun _ => False) := by
  refine Met.ofW (cc := cX9_wanted) (maxL := 4) (ret := (some .int)) (by decide) rfl ?_
  intro p e s m args below meth c s₁ B hml hv
  obtain ⟨rfl, hP, hK, hN⟩ := hv
  have X : kC p (headSpec (Cond.code yX9_wanted cX9_wanted 4 (some .int) :: wsL_law) (rmH 2)).room s m _ meth c cX9_wanted RX9 4 (some .int) 2 := ⟨B.exec, B.bytes, hml, findClass_of_methodNamed B.named, fun w h => atoms_spec (ws := Cond.code yX9_wanted cX9_wanted 4 (some .int) :: wsL_law) B.pre w (List.mem_cons_of_mem _ h), B.returns, B.notSynchronized, Nat.le_refl _, Nat.le_refl _⟩
  obtain ⟨hx, hb, hml, hown, hts, hr, hlocks, hRf, hRl⟩ := id X
  have hl := lv_entry ([.ref (q 0), .int x1, .int x2]) (n := 4) (Nat.le_of_ble_eq_true rfl)
  rw [lg_entry_eq]
  generalize (lg_sl ([.ref (q 0), .int x1, .int x2]) ++ List.replicate (4 - (lg_sl ([.ref (q 0), .int x1, .int x2])).length) Slot.unset).toArray = ls at hl ⊢
  have hl : lv_has ls 4 [(0, .ref (q 0)), (1, .int x1), (2, .int x2)] := hl
  refine lv_aload_n hx hb dX9_wanted_0 rfl (lv_at hl 0 rfl) ?_
  refine lv_iload_n hx hb dX9_wanted_1 rfl (lv_at hl 1 rfl) ?_
  refine ro_i (va_runV (As := [.int x1]) (rest := []) ⟨hx, hb, hml, hown, hts⟩ (c_X9_refusalOf l hw) (kRX9_190 (h := 1) hts (Nat.le_trans (Nat.le_of_ble_eq_true rfl) hRf) (Nat.le_trans (Nat.le_of_ble_eq_true rfl) hRl)) (preX9 hK hN hP) rfl rfl hl.1 rfl (lv_room (Nat.le_of_ble_eq_true rfl)) dX9_wanted_2 ⟨Nat.zero_le _, Nat.zero_le _⟩) (fun r_1 hw => ?_)
  refine lv_istore_n (lv' := [(3, .int r_1), (0, .ref (q 0)), (1, .int x1), (2, .int x2)]) hx hb dX9_wanted_5 rfl hl (by decide) rfl (fun ls hl => ?_)
  refine lv_iload_n hx hb dX9_wanted_6 rfl (lv_at hl 0 rfl) ?_
  refine lv_if_eq (tgt := 12) hx hb dX9_wanted_7 (by decide) (fun c_2 => ?_) (fun c_2 => ?_)
  · have hw := hw.1 c_2
    refine lv_iload_n hx hb dX9_wanted_12 rfl (lv_at hl 3 rfl) ?_
    refine lv_if_lt (tgt := 27) hx hb dX9_wanted_13 (by decide) (fun c_3 => ?_) (fun c_3 => ?_)
    · have hw := hw.1 c_3
      refine lv_sipush (v := ((-1001) : Int32)) hx hb dX9_wanted_27 (by decide +kernel) ?_
      exact rt_i hx hb hr hlocks hw dX9_wanted_30
    · have hw := hw.2 c_3
      refine lv_iload_n hx hb dX9_wanted_16 rfl (lv_at hl 3 rfl) ?_
      refine lv_aload_n hx hb dX9_wanted_17 rfl (lv_at hl 1 rfl) ?_
      refine gRX9_47 hx hb hown hts hK hP dX9_wanted_18 ?_
      refine ro_i (va_runV (As := []) (rest := [.int x2]) ⟨hx, hb, hml, hown, hts⟩ (c_X0_points l hw) (kRX9_193 (h := 0) hts (Nat.le_trans (Nat.le_of_ble_eq_true rfl) hRf) (Nat.le_trans (Nat.le_of_ble_eq_true rfl) hRl)) (preX0 hK hN hP) rfl rfl hl.1 rfl (lv_room (Nat.le_of_ble_eq_true rfl)) dX9_wanted_21 ⟨Nat.zero_le _, Nat.zero_le _⟩) (fun r_4 hw => ?_)
      refine lv_icmp_lt (tgt := 31) hx hb dX9_wanted_24 (by decide) (fun c_5 => ?_) (fun c_5 => ?_)
      · have hw := hw.1 c_5
        refine lv_aload_n hx hb dX9_wanted_31 rfl (lv_at hl 1 rfl) ?_
        refine gRX9_47 hx hb hown hts hK hP dX9_wanted_32 ?_
        refine lv_iload_n hx hb dX9_wanted_35 rfl (lv_at hl 2 rfl) ?_
        refine lv_iload_n hx hb dX9_wanted_36 rfl (lv_at hl 3 rfl) ?_
        refine ro_i (va_runV (As := [.int x1, .int x2]) (rest := []) ⟨hx, hb, hml, hown, hts⟩ (c_X0_at l hw) (kRX9_196 (h := 0) hts (Nat.le_trans (Nat.le_of_ble_eq_true rfl) hRf) (Nat.le_trans (Nat.le_of_ble_eq_true rfl) hRl)) (preX0 hK hN hP) rfl rfl hl.1 rfl (lv_room (Nat.le_of_ble_eq_true rfl)) dX9_wanted_37 ⟨Nat.zero_le _, Nat.zero_le _⟩) (fun r_6 hw => ?_)
        exact rt_i hx hb hr hlocks hw dX9_wanted_40
      · have hw := hw.2 c_5
        refine lv_sipush (v := ((-1001) : Int32)) hx hb dX9_wanted_27 (by decide +kernel) ?_
        exact rt_i hx hb hr hlocks hw dX9_wanted_30
  · have hw := hw.2 c_2
    refine lv_iload_n hx hb dX9_wanted_10 rfl (lv_at hl 0 rfl) ?_
    exact rt_i hx hb hr hlocks hw dX9_wanted_11
set_option maxHeartbeats 4000000 in
set_option maxRecDepth 100000 in
theorem c_X10_isGood (l : Launch) {D : va_G} {q : Nat → Nat} {cA : Nat → ClassId} {i_pageLength : Int32} {a_page : Nat → Int32} {i_states : Int32} {i_columns : Int32} {a_entries : Nat → Int32} {i_signals : Int32} {a_signalAt : Nat → Int32} {i_walksAt : Int32} {i_turned : Int32} {i_changed : Int32} {i_read : Int32} {i_newRows : Int32} {i_newEntries : Int32} {i_newColumns : Int32} {i_greatest : Int32} {a_newAt : Nat → Int32} {i_partings : Int32} {a_lowSet : Nat → Int32} {a_highSet : Nat → Int32} {i_leastMany : Int32} {a_leastAt : Nat → Int32} {a_tried : Nat → Int32} {a_keptLow : Nat → Int64} {a_keptHigh : Nat → Int64} {i_laid : Int32} {a_wants : Nat → Int32} {i_wide : Int32} {a_wideAsked : Nat → Int32} {a_wideOnes : Nat → Int32} {i_sum : Int32} {i_flickers : Int32} {a_sumAt : Nat → Int32} {j_h : Int64} {post : Int32 → Prop}  (hw : wp_X10_isGood post i_states i_columns a_entries i_signals a_signalAt i_partings a_lowSet a_highSet ) : Met l yX10_isGood (Cond.code yX10_isGood cX10_isGood 1 (some .boolean) :: wsL_law) (rmH 3) (va_Pc [.ref (q 0)] (fun U => va_P D vwCl (wM q cA i_pageLength a_page i_states i_columns a_entries i_signals a_signalAt i_walksAt i_turned i_changed i_read i_newRows i_newEntries i_newColumns i_greatest a_newAt i_partings a_lowSet a_highSet i_leastMany a_leastAt a_tried a_keptLow a_keptHigh i_laid a_wants i_wide a_wideAsked a_wideOnes i_sum i_flickers a_sumAt j_h) U.heap ∧ va_K D vwCl (tyM cA) U)) (qRi post) 0 0 (fun _ => False) := by
  refine Met.ofW (cc := cX10_isGood) (maxL := 1) (ret := (some .boolean)) (by decide) rfl ?_
  intro p e s m args below meth c s₁ B hml hv
  obtain ⟨rfl, hP, hK⟩ := hv
  have X : kC p (headSpec (Cond.code yX10_isGood cX10_isGood 1 (some .boolean) :: wsL_law) (rmH 3)).room s m _ meth c cX10_isGood RX10 1 (some .boolean) 3 := ⟨B.exec, B.bytes, hml, findClass_of_methodNamed B.named, fun w h => atoms_spec (ws := Cond.code yX10_isGood cX10_isGood 1 (some .boolean) :: wsL_law) B.pre w (List.mem_cons_of_mem _ h), B.returns, B.notSynchronized, Nat.le_refl _, Nat.le_refl _⟩
  obtain ⟨hx, hb, hml, hown, hts, hr, hlocks, hRf, hRl⟩ := id X
  have hl := lv_entry ([.ref (q 0)]) (n := 1) (Nat.le_of_ble_eq_true rfl)
  rw [lg_entry_eq]
  generalize (lg_sl ([.ref (q 0)]) ++ List.replicate (1 - (lg_sl ([.ref (q 0)])).length) Slot.unset).toArray = ls at hl ⊢
  have hl : lv_has ls 1 [(0, .ref (q 0))] := hl
  refine lv_aload_n hx hb dX10_isGood_0 rfl (lv_at hl 0 rfl) ?_
  refine ro_i (va_runV (As := []) (rest := []) ⟨hx, hb, hml, hown, hts⟩ (c_X10_isNormal l hw) (kRX10_125 (h := 2) hts (Nat.le_trans (Nat.le_of_ble_eq_true rfl) hRf) (Nat.le_trans (Nat.le_of_ble_eq_true rfl) hRl)) (preM hK hP) rfl rfl hl.1 rfl (lv_room (Nat.le_of_ble_eq_true rfl)) dX10_isGood_1 ⟨Nat.zero_le _, Nat.zero_le _⟩) (fun r_1 hw => ?_)
  refine lv_if_eq (tgt := 18) hx hb dX10_isGood_4 (by decide) (fun c_2 => ?_) (fun c_2 => ?_)
  · have hw := hw.1 c_2
    refine lv_iconst (v := (0 : Int32)) hx hb dX10_isGood_18 (by decide) ?_
    exact rt_z hx hb hr hlocks rfl hw dX10_isGood_19
  · have hw := hw.2 c_2
    refine lv_aload_n hx hb dX10_isGood_7 rfl (lv_at hl 0 rfl) ?_
    refine ro_i (va_runV (As := []) (rest := []) ⟨hx, hb, hml, hown, hts⟩ (c_X10_lost l hw) (kRX10_193 (h := 2) hts (Nat.le_trans (Nat.le_of_ble_eq_true rfl) hRf) (Nat.le_trans (Nat.le_of_ble_eq_true rfl) hRl)) (preM hK hP) rfl rfl hl.1 rfl (lv_room (Nat.le_of_ble_eq_true rfl)) dX10_isGood_8 ⟨Nat.zero_le _, Nat.zero_le _⟩) (fun r_3 hw => ?_)
    refine lv_if_ne (tgt := 18) hx hb dX10_isGood_11 (by decide) (fun c_4 => ?_) (fun c_4 => ?_)
    · have hw := hw.2 c_4
      refine lv_iconst (v := (0 : Int32)) hx hb dX10_isGood_18 (by decide) ?_
      exact rt_z hx hb hr hlocks rfl hw dX10_isGood_19
    · have hw := hw.1 c_4
      refine lv_iconst (v := (1 : Int32)) hx hb dX10_isGood_14 (by decide) ?_
      refine lv_goto (tgt := 19) hx hb dX10_isGood_15 (by decide) ?_
      exact rt_z hx hb hr hlocks rfl hw dX10_isGood_19
set_option maxHeartbeats 4000000 in
set_option maxRecDepth 100000 in
theorem t_X10_wantedAt_10 {p : Program} {l : Launch} {e : Env} {R : Room} {s : State} {m : MethodId} {args : Array Value} {below : List Frame} {meth : Method} {c : Code} {D : va_G} {q : Nat → Nat} {cA : Nat → ClassId} {i_pageLength : Int32} {a_page : Nat → Int32} {i_states : Int32} {i_columns : Int32} {a_entries : Nat → Int32} {i_signals : Int32} {a_signalAt : Nat → Int32} {i_walksAt : Int32} {i_turned : Int32} {i_changed : Int32} {i_read : Int32} {i_newRows : Int32} {i_newEntries : Int32} {i_newColumns : Int32} {i_greatest : Int32} {a_newAt : Nat → Int32} {i_partings : Int32} {a_lowSet : Nat → Int32} {a_highSet : Nat → Int32} {i_leastMany : Int32} {a_leastAt : Nat → Int32} {a_tried : Nat → Int32} {a_keptLow : Nat → Int64} {a_keptHigh : Nat → Int64} {i_laid : Int32} {a_wants : Nat → Int32} {i_wide : Int32} {a_wideAsked : Nat → Int32} {a_wideOnes : Nat → Int32} {i_sum : Int32} {i_flickers : Int32} {a_sumAt : Nat → Int32} {j_h : Int64} {post : Int32 → Prop} {KE : Int32 → Prop} {x1 : Int32} {x2 : Int32} {x3 : Int32} (X : kC p R s m args meth c cX10_wantedAt RX10 6 (some .int) 2) (hK : va_K D vwCl (tyM cA) s) (hP : va_P D vwCl (wM q cA i_pageLength a_page i_states i_columns a_entries i_signals a_signalAt i_walksAt i_turned i_changed i_read i_newRows i_newEntries i_newColumns i_greatest a_newAt i_partings a_lowSet a_highSet i_leastMany a_leastAt a_tried a_keptLow a_keptHigh i_laid a_wants i_wide a_wideAsked a_wideOnes i_sum i_flickers a_sumAt j_h) s.heap) (hE : ∀ (x4 : Int32), KE x4 → ∀ (ls : Array Slot), lv_has ls 6 [(4, .int x4)] → W p l e R s m args below meth c s.heap [] 0 0 (MQ below (qRi post) args s 0 0 (fun _ => False)) (F0 m 63 ls [])) : ∀ (n : Nat) (x4 : Int32) (x5 : Int32), w_X10_wantedAt_10 KE i_states i_columns a_entries i_signals a_signalAt x1 x2 x3 n x4 x5 → ∀ (ls : Array Slot), lv_has ls 6 [(0, .ref (q 0)), (1, .int x1), (2, .int x2), (3, .int x3), (4, .int x4), (5, .int x5)] → W p l e R s m args below meth c s.heap [] 0 0 (MQ below (qRi post) args s 0 0 (fun _ => False)) (F0 m 10 ls []) := by
  obtain ⟨hx, hb, hml, hown, hts, hr, hlocks, hRf, hRl⟩ := id X
  intro n
  induction n with
  | zero => intro x4 x5 hw; exact (show False from hw).elim
  | succ n ih =>
    intro x4 x5 hw ls hl
    refine lv_iload hx hb dX10_wantedAt_10 (lv_at hl 5 rfl) ?_
    refine lv_aload_n hx hb dX10_wantedAt_12 rfl (lv_at hl 0 rfl) ?_
    refine gRX10_87 hx hb hown hts hK hP dX10_wantedAt_13 ?_
    refine lv_icmp_ge (tgt := 63) hx hb dX10_wantedAt_16 (by decide) (fun c_2 => ?_) (fun c_2 => ?_)
    · have hw := hw.1 c_2
      exact hE _ hw ls (lv_sub hl [4] rfl)
    · have hw := hw.2 c_2
      refine lv_iload_n hx hb dX10_wantedAt_19 rfl (lv_at hl 3 rfl) ?_
      refine lv_aload_n hx hb dX10_wantedAt_20 rfl (lv_at hl 0 rfl) ?_
      refine gRX10_90 hx hb hown hts hK hP dX10_wantedAt_21 ?_
      refine lv_icmp_ge (tgt := 63) hx hb dX10_wantedAt_24 (by decide) (fun c_3 => ?_) (fun c_3 => ?_)
      · have hw := hw.1 c_3
        exact hE _ hw ls (lv_sub hl [4] rfl)
      · have hw := hw.2 c_3
        refine lv_aload_n hx hb dX10_wantedAt_27 rfl (lv_at hl 0 rfl) ?_
        refine lv_iload_n hx hb dX10_wantedAt_28 rfl (lv_at hl 2 rfl) ?_
        refine lv_iconst (v := (4 : Int32)) hx hb dX10_wantedAt_29 (by decide) ?_
        refine lv_idiv hx hb dX10_wantedAt_30 (by decide) ?_
        refine lv_iload hx hb dX10_wantedAt_31 (lv_at hl 5 rfl) ?_
        refine lv_iload_n hx hb dX10_wantedAt_33 rfl (lv_at hl 3 rfl) ?_
        refine ro_i (va_runV (As := [.int (x2 / (4 : Int32)), .int x5, .int x3]) (rest := []) ⟨hx, hb, hml, hown, hts⟩ (c_X10_isOnWay l hw) (kRX10_181 (h := 1) hts (Nat.le_trans (Nat.le_of_ble_eq_true rfl) hRf) (Nat.le_trans (Nat.le_of_ble_eq_true rfl) hRl)) (preM hK hP) rfl rfl hl.1 rfl (lv_room (Nat.le_of_ble_eq_true rfl)) dX10_wantedAt_34 ⟨Nat.zero_le _, Nat.zero_le _⟩) (fun r_4 hw => ?_)
        refine lv_if_eq (tgt := 57) hx hb dX10_wantedAt_37 (by decide) (fun c_5 => ?_) (fun c_5 => ?_)
        · have hw := hw.1 c_5
          obtain ⟨x5_6, e_6⟩ : ∃ z : Int32, z = x5 + (1 : Int32) := ⟨_, rfl⟩
          have hw := hw x5_6 e_6
          refine lv_iinc (v := x5_6) (lv' := [(5, .int x5_6), (0, .ref (q 0)), (1, .int x1), (2, .int x2), (3, .int x3), (4, .int x4)]) hx hb dX10_wantedAt_57 hl (k := 5) rfl (by rw [e_6]; rfl) (by decide) rfl (fun ls hl => ?_)
          refine lv_goto (tgt := 10) hx hb dX10_wantedAt_60 (by decide) ?_
          exact ih _ _ hw ls (lv_sub hl [1, 2, 3, 4, 5, 0] rfl)
        · have hw := hw.2 c_5
          refine lv_aload_n hx hb dX10_wantedAt_40 rfl (lv_at hl 0 rfl) ?_
          refine lv_aload_n hx hb dX10_wantedAt_41 rfl (lv_at hl 0 rfl) ?_
          refine lv_iload hx hb dX10_wantedAt_42 (lv_at hl 5 rfl) ?_
          refine lv_iload_n hx hb dX10_wantedAt_44 rfl (lv_at hl 3 rfl) ?_
          refine ro_i (va_runV (As := [.int x5, .int x3]) (rest := [.ref (q 0)]) ⟨hx, hb, hml, hown, hts⟩ (c_X10_entryAt l hw) (kRX10_118 (h := 0) hts (Nat.le_trans (Nat.le_of_ble_eq_true rfl) hRf) (Nat.le_trans (Nat.le_of_ble_eq_true rfl) hRl)) (preM hK hP) rfl rfl hl.1 rfl (lv_room (Nat.le_of_ble_eq_true rfl)) dX10_wantedAt_45 ⟨Nat.zero_le _, Nat.zero_le _⟩) (fun r_7 hw => ?_)
          refine ro_i (va_runV (As := [.int r_7]) (rest := []) ⟨hx, hb, hml, hown, hts⟩ (c_X10_codeOf l hw) (kRX10_178 (h := 0) hts (Nat.le_trans (Nat.le_of_ble_eq_true rfl) hRf) (Nat.le_trans (Nat.le_of_ble_eq_true rfl) hRl)) (preM hK hP) rfl rfl hl.1 rfl (lv_room (Nat.le_of_ble_eq_true rfl)) dX10_wantedAt_48 ⟨Nat.zero_le _, Nat.zero_le _⟩) (fun r_8 hw => ?_)
          refine lv_iload_n hx hb dX10_wantedAt_51 rfl (lv_at hl 1 rfl) ?_
          refine lv_ishr hx hb dX10_wantedAt_52 ?_
          refine lv_iconst (v := (1 : Int32)) hx hb dX10_wantedAt_53 (by decide) ?_
          refine lv_iand hx hb dX10_wantedAt_54 ?_
          refine lv_topi (fun x4_9 e_9 => ?_)
          have hw := hw x4_9 e_9
          refine lv_istore (lv' := [(4, .int x4_9), (0, .ref (q 0)), (1, .int x1), (2, .int x2), (3, .int x3), (5, .int x5)]) hx hb dX10_wantedAt_55 hl (by decide) rfl (fun ls hl => ?_)
          obtain ⟨x5_10, e_10⟩ : ∃ z : Int32, z = x5 + (1 : Int32) := ⟨_, rfl⟩
          have hw := hw x5_10 e_10
          refine lv_iinc (v := x5_10) (lv' := [(5, .int x5_10), (4, .int x4_9), (0, .ref (q 0)), (1, .int x1), (2, .int x2), (3, .int x3)]) hx hb dX10_wantedAt_57 hl (k := 5) rfl (by rw [e_10]; rfl) (by decide) rfl (fun ls hl => ?_)
          refine lv_goto (tgt := 10) hx hb dX10_wantedAt_60 (by decide) ?_
          exact ih _ _ hw ls (lv_sub hl [2, 3, 4, 5, 1, 0] rfl)
set_option maxHeartbeats 4000000 in
set_option maxRecDepth 100000 in
theorem c_X10_wantedAt (l : Launch) {D : va_G} {q : Nat → Nat} {cA : Nat → ClassId} {i_pageLength : Int32} {a_page : Nat → Int32} {i_states : Int32} {i_columns : Int32} {a_entries : Nat → Int32} {i_signals : Int32} {a_signalAt : Nat → Int32} {i_walksAt : Int32} {i_turned : Int32} {i_changed : Int32} {i_read : Int32} {i_newRows : Int32} {i_newEntries : Int32} {i_newColumns : Int32} {i_greatest : Int32} {a_newAt : Nat → Int32} {i_partings : Int32} {a_lowSet : Nat → Int32} {a_highSet : Nat → Int32} {i_leastMany : Int32} {a_leastAt : Nat → Int32} {a_tried : Nat → Int32} {a_keptLow : Nat → Int64} {a_keptHigh : Nat → Int64} {i_laid : Int32} {a_wants : Nat → Int32} {i_wide : Int32} {a_wideAsked : Nat → Int32} {a_wideOnes : Nat → Int32} {i_sum : Int32} {i_flickers : Int32} {a_sumAt : Nat → Int32} {j_h : Int64} {post : Int32 → Prop} {x1 : Int32} {x2 : Int32} (hw : wp_X10_wantedAt post i_states i_columns a_entries i_signals a_signalAt x1 x2) : Met l yX10_wantedAt (Cond.code yX10_wantedAt cX10_wantedAt 6 (some .int) :: wsL_law) (rmH 2) (va_Pc [.ref (q 0), .int x1, .int x2] (fun U => va_P D vwCl (wM q cA i_pageLength a_page i_states i_columns a_entries i_signals a_signalAt i_walksAt i_turned i_changed i_read i_newRows i_newEntries i_newColumns i_greatest a_newAt i_partings a_lowSet a_highSet i_leastMany a_leastAt a_tried a_keptLow a_keptHigh i_laid a_wants i_wide a_wideAsked a_wideOnes i_sum i_flickers a_sumAt j_h) U.heap ∧ va_K D vwCl (tyM cA) U)) (qRi post) 0 0 (fun _ => False) := by
  refine Met.ofW (cc := cX10_wantedAt) (maxL := 6) (ret := (some .int)) (by decide) rfl ?_
  intro p e s m args below meth c s₁ B hml hv
  obtain ⟨rfl, hP, hK⟩ := hv
  have X : kC p (headSpec (Cond.code yX10_wantedAt cX10_wantedAt 6 (some .int) :: wsL_law) (rmH 2)).room s m _ meth c cX10_wantedAt RX10 6 (some .int) 2 := ⟨B.exec, B.bytes, hml, findClass_of_methodNamed B.named, fun w h => atoms_spec (ws := Cond.code yX10_wantedAt cX10_wantedAt 6 (some .int) :: wsL_law) B.pre w (List.mem_cons_of_mem _ h), B.returns, B.notSynchronized, Nat.le_refl _, Nat.le_refl _⟩
  obtain ⟨hx, hb, hml, hown, hts, hr, hlocks, hRf, hRl⟩ := id X
  have hl := lv_entry ([.ref (q 0), .int x1, .int x2]) (n := 6) (Nat.le_of_ble_eq_true rfl)
  rw [lg_entry_eq]
  generalize (lg_sl ([.ref (q 0), .int x1, .int x2]) ++ List.replicate (6 - (lg_sl ([.ref (q 0), .int x1, .int x2])).length) Slot.unset).toArray = ls at hl ⊢
  have hl : lv_has ls 6 [(0, .ref (q 0)), (1, .int x1), (2, .int x2)] := hl
  refine lv_iload_n hx hb dX10_wantedAt_0 rfl (lv_at hl 2 rfl) ?_
  refine lv_iconst (v := (4 : Int32)) hx hb dX10_wantedAt_1 (by decide) ?_
  refine lv_irem hx hb dX10_wantedAt_2 (by decide) ?_
  refine lv_topi (fun x3_1 e_1 => ?_)
  have hw := hw x3_1 e_1
  refine lv_istore_n (lv' := [(3, .int x3_1), (0, .ref (q 0)), (1, .int x1), (2, .int x2)]) hx hb dX10_wantedAt_3 rfl hl (by decide) rfl (fun ls hl => ?_)
  refine lv_iconst (v := ((-1) : Int32)) hx hb dX10_wantedAt_4 (by decide) ?_
  refine lv_istore (lv' := [(4, .int ((-1) : Int32)), (3, .int x3_1), (0, .ref (q 0)), (1, .int x1), (2, .int x2)]) hx hb dX10_wantedAt_5 hl (by decide) rfl (fun ls hl => ?_)
  refine lv_iconst (v := (0 : Int32)) hx hb dX10_wantedAt_7 (by decide) ?_
  refine lv_istore (lv' := [(5, .int (0 : Int32)), (4, .int ((-1) : Int32)), (3, .int x3_1), (0, .ref (q 0)), (1, .int x1), (2, .int x2)]) hx hb dX10_wantedAt_8 hl (by decide) rfl (fun ls hl => ?_)
  obtain ⟨n_11, hw⟩ := hw
  refine t_X10_wantedAt_10 X hK hP (fun x4_11 hw ls hl => ?_) n_11 _ _ hw ls (lv_sub hl [3, 4, 5, 2, 1, 0] rfl)
  refine lv_iload hx hb dX10_wantedAt_63 (lv_at hl 0 rfl) ?_
  exact rt_i hx hb hr hlocks hw dX10_wantedAt_65
