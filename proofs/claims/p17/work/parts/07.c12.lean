set_option maxHeartbeats 4000000 in
set_option maxRecDepth 100000 in
theorem t_X10_hasOne_5 {p : Program} {l : Launch} {e : Env} {R : Room} {s : State} {m : MethodId} {args : Array Value} {below : List Frame} {meth : Method} {c : Code} {D : va_G} {q : Nat → Nat} {cA : Nat → ClassId} {i_pageLength : Int32} {a_page : Nat → Int32} {i_states : Int32} {i_columns : Int32} {a_entries : Nat → Int32} {i_signals : Int32} {a_signalAt : Nat → Int32} {i_walksAt : Int32} {i_turned : Int32} {i_changed : Int32} {i_read : Int32} {i_newRows : Int32} {i_newEntries : Int32} {i_newColumns : Int32} {i_greatest : Int32} {a_newAt : Nat → Int32} {i_partings : Int32} {a_lowSet : Nat → Int32} {a_highSet : Nat → Int32} {i_leastMany : Int32} {a_leastAt : Nat → Int32} {a_tried : Nat → Int32} {a_keptLow : Nat → Int64} {a_keptHigh : Nat → Int64} {i_laid : Int32} {a_wants : Nat → Int32} {i_wide : Int32} {a_wideAsked : Nat → Int32} {a_wideOnes : Nat → Int32} {i_sum : Int32} {i_flickers : Int32} {a_sumAt : Nat → Int32} {j_h : Int64} {post : Int32 → Prop} {KE : Int32 → Prop} {x1 : Int32} {x2 : Int32} (X : kC p R s m args meth c cX10_hasOne RX10 5 (some .boolean) 1) (hK : va_K D vwCl (tyM cA) s) (hP : va_P D vwCl (wM q cA i_pageLength a_page i_states i_columns a_entries i_signals a_signalAt i_walksAt i_turned i_changed i_read i_newRows i_newEntries i_newColumns i_greatest a_newAt i_partings a_lowSet a_highSet i_leastMany a_leastAt a_tried a_keptLow a_keptHigh i_laid a_wants i_wide a_wideAsked a_wideOnes i_sum i_flickers a_sumAt j_h) s.heap) (hE : ∀ (x3 : Int32), KE x3 → ∀ (ls : Array Slot), lv_has ls 5 [(3, .int x3)] → W p l e R s m args below meth c s.heap [] 0 0 (MQ below (qRi post) args s 0 0 (fun _ => False)) (F0 m 51 ls [])) : ∀ (n : Nat) (x3 : Int32) (x4 : Int32), w_X10_hasOne_5 KE i_signals a_wants x1 x2 n x3 x4 → ∀ (ls : Array Slot), lv_has ls 5 [(0, .ref (q 0)), (1, .int x1), (2, .int x2), (3, .int x3), (4, .int x4)] → W p l e R s m args below meth c s.heap [] 0 0 (MQ below (qRi post) args s 0 0 (fun _ => False)) (F0 m 5 ls []) := by
  obtain ⟨hx, hb, hml, hown, hts, hr, hlocks, hRf, hRl⟩ := id X
  intro n
  induction n with
  | zero => intro x3 x4 hw; exact (show False from hw).elim
  | succ n ih =>
    intro x3 x4 hw ls hl
    have hw : (wp_X10_points (fun (r_1 : Int32) => ((r_1 ≤ x4 → KE x3) ∧ (¬ r_1 ≤ x4 → ((x3 = 0 → (vp_in x4 128 ∧ (((a_wants x4.toNatClampNeg) = (1 : Int32) → (wp_X10_has (fun (r_7 : Int32) => ((r_7 = 0 → (∀ x4_9 : Int32, x4_9 = x4 + (1 : Int32) → w_X10_hasOne_5 KE i_signals a_wants x1 x2 n (0 : Int32) x4_9)) ∧ (¬ r_7 = 0 → (∀ x4_10 : Int32, x4_10 = x4 + (1 : Int32) → w_X10_hasOne_5 KE i_signals a_wants x1 x2 n (1 : Int32) x4_10)))) x1 x2 x4)) ∧ (¬ (a_wants x4.toNatClampNeg) = (1 : Int32) → (∀ x4_6 : Int32, x4_6 = x4 + (1 : Int32) → w_X10_hasOne_5 KE i_signals a_wants x1 x2 n (0 : Int32) x4_6))))) ∧ (¬ x3 = 0 → KE x3))))) i_signals) := hw
    refine lv_iload hx hb dX10_hasOne_5 (lv_at hl 4 rfl) ?_
    refine lv_aload_n hx hb dX10_hasOne_7 rfl (lv_at hl 0 rfl) ?_
    refine ro_i (va_runV (As := []) (rest := [.int x4]) ⟨hx, hb, hml, hown, hts⟩ (c_X10_points l hw) (kRX10_211 (h := 0) hts (Nat.le_trans (Nat.le_of_ble_eq_true rfl) hRf) (Nat.le_trans (Nat.le_of_ble_eq_true rfl) hRl)) (preM hK hP) rfl rfl hl.1 rfl (lv_room (Nat.le_of_ble_eq_true rfl)) dX10_hasOne_8 ⟨Nat.zero_le _, Nat.zero_le _⟩) (fun r_1 hw => ?_)
    refine lv_icmp_ge (tgt := 51) hx hb dX10_hasOne_11 (by decide) (fun c_2 => ?_) (fun c_2 => ?_)
    · have hw := hw.1 c_2
      exact hE _ hw ls (lv_sub hl [3] rfl)
    · have hw := hw.2 c_2
      refine lv_iload_n hx hb dX10_hasOne_14 rfl (lv_at hl 3 rfl) ?_
      refine lv_if_ne (tgt := 51) hx hb dX10_hasOne_15 (by decide) (fun c_3 => ?_) (fun c_3 => ?_)
      · have hw := hw.2 c_3
        exact hE _ hw ls (lv_sub hl [3] rfl)
      · have hw := hw.1 c_3
        refine lv_aload_n hx hb dX10_hasOne_18 rfl (lv_at hl 0 rfl) ?_
        refine gRX10_48 hx hb hown hts hK hP dX10_hasOne_19 ?_
        refine lv_iload hx hb dX10_hasOne_22 (lv_at hl 4 rfl) ?_
        have h_4 := hw.1
        have hw := hw.2
        refine ld_a_wants hx hb hK hP h_4 dX10_hasOne_24 ?_
        refine lv_iconst (v := (1 : Int32)) hx hb dX10_hasOne_25 (by decide) ?_
        refine lv_icmp_ne (tgt := 43) hx hb dX10_hasOne_26 (by decide) (fun c_5 => ?_) (fun c_5 => ?_)
        · have hw := hw.2 c_5
          refine lv_iconst (v := (0 : Int32)) hx hb dX10_hasOne_43 (by decide) ?_
          refine lv_istore_n (lv' := [(3, .int (0 : Int32)), (0, .ref (q 0)), (1, .int x1), (2, .int x2), (4, .int x4)]) hx hb dX10_hasOne_44 rfl hl (by decide) rfl (fun ls hl => ?_)
          obtain ⟨x4_6, e_6⟩ : ∃ z : Int32, z = x4 + (1 : Int32) := ⟨_, rfl⟩
          have hw := hw x4_6 e_6
          refine lv_iinc (v := x4_6) (lv' := [(4, .int x4_6), (3, .int (0 : Int32)), (0, .ref (q 0)), (1, .int x1), (2, .int x2)]) hx hb dX10_hasOne_45 hl (k := 4) rfl (by rw [e_6]; rfl) (by decide) rfl (fun ls hl => ?_)
          refine lv_goto (tgt := 5) hx hb dX10_hasOne_48 (by decide) ?_
          exact ih _ _ hw ls (lv_sub hl [2, 3, 4, 1, 0] rfl)
        · have hw := hw.1 c_5
          refine lv_iload_n hx hb dX10_hasOne_29 rfl (lv_at hl 1 rfl) ?_
          refine lv_iload_n hx hb dX10_hasOne_30 rfl (lv_at hl 2 rfl) ?_
          refine lv_iload hx hb dX10_hasOne_31 (lv_at hl 4 rfl) ?_
          refine ro_i (va_runS (As := [.int x1, .int x2, .int x4]) (rest := []) ⟨hx, hb, hml, hown, hts⟩ (c_X10_has l hw) (kRX10_217 (h := 0) hts (Nat.le_trans (Nat.le_of_ble_eq_true rfl) hRf) (Nat.le_trans (Nat.le_of_ble_eq_true rfl) hRl)) pre_0 rfl rfl hl.1 rfl (lv_room (Nat.le_of_ble_eq_true rfl)) dX10_hasOne_33 ⟨Nat.zero_le _, Nat.zero_le _⟩) (fun r_7 hw => ?_)
          refine lv_if_eq (tgt := 43) hx hb dX10_hasOne_36 (by decide) (fun c_8 => ?_) (fun c_8 => ?_)
          · have hw := hw.1 c_8
            refine lv_iconst (v := (0 : Int32)) hx hb dX10_hasOne_43 (by decide) ?_
            refine lv_istore_n (lv' := [(3, .int (0 : Int32)), (0, .ref (q 0)), (1, .int x1), (2, .int x2), (4, .int x4)]) hx hb dX10_hasOne_44 rfl hl (by decide) rfl (fun ls hl => ?_)
            obtain ⟨x4_9, e_9⟩ : ∃ z : Int32, z = x4 + (1 : Int32) := ⟨_, rfl⟩
            have hw := hw x4_9 e_9
            refine lv_iinc (v := x4_9) (lv' := [(4, .int x4_9), (3, .int (0 : Int32)), (0, .ref (q 0)), (1, .int x1), (2, .int x2)]) hx hb dX10_hasOne_45 hl (k := 4) rfl (by rw [e_9]; rfl) (by decide) rfl (fun ls hl => ?_)
            refine lv_goto (tgt := 5) hx hb dX10_hasOne_48 (by decide) ?_
            exact ih _ _ hw ls (lv_sub hl [2, 3, 4, 1, 0] rfl)
          · have hw := hw.2 c_8
            refine lv_iconst (v := (1 : Int32)) hx hb dX10_hasOne_39 (by decide) ?_
            refine lv_goto (tgt := 44) hx hb dX10_hasOne_40 (by decide) ?_
            refine lv_istore_n (lv' := [(3, .int (1 : Int32)), (0, .ref (q 0)), (1, .int x1), (2, .int x2), (4, .int x4)]) hx hb dX10_hasOne_44 rfl hl (by decide) rfl (fun ls hl => ?_)
            obtain ⟨x4_10, e_10⟩ : ∃ z : Int32, z = x4 + (1 : Int32) := ⟨_, rfl⟩
            have hw := hw x4_10 e_10
            refine lv_iinc (v := x4_10) (lv' := [(4, .int x4_10), (3, .int (1 : Int32)), (0, .ref (q 0)), (1, .int x1), (2, .int x2)]) hx hb dX10_hasOne_45 hl (k := 4) rfl (by rw [e_10]; rfl) (by decide) rfl (fun ls hl => ?_)
            refine lv_goto (tgt := 5) hx hb dX10_hasOne_48 (by decide) ?_
            exact ih _ _ hw ls (lv_sub hl [2, 3, 4, 1, 0] rfl)
set_option maxHeartbeats 4000000 in
set_option maxRecDepth 100000 in
theorem c_X10_hasOne (l : Launch) {D : va_G} {q : Nat → Nat} {cA : Nat → ClassId} {i_pageLength : Int32} {a_page : Nat → Int32} {i_states : Int32} {i_columns : Int32} {a_entries : Nat → Int32} {i_signals : Int32} {a_signalAt : Nat → Int32} {i_walksAt : Int32} {i_turned : Int32} {i_changed : Int32} {i_read : Int32} {i_newRows : Int32} {i_newEntries : Int32} {i_newColumns : Int32} {i_greatest : Int32} {a_newAt : Nat → Int32} {i_partings : Int32} {a_lowSet : Nat → Int32} {a_highSet : Nat → Int32} {i_leastMany : Int32} {a_leastAt : Nat → Int32} {a_tried : Nat → Int32} {a_keptLow : Nat → Int64} {a_keptHigh : Nat → Int64} {i_laid : Int32} {a_wants : Nat → Int32} {i_wide : Int32} {a_wideAsked : Nat → Int32} {a_wideOnes : Nat → Int32} {i_sum : Int32} {i_flickers : Int32} {a_sumAt : Nat → Int32} {j_h : Int64} {post : Int32 → Prop} {x1 : Int32} {x2 : Int32} (hw : wp_X10_hasOne post i_signals a_wants x1 x2) : Met l yX10_hasOne (Cond.code yX10_hasOne cX10_hasOne 5 (some .boolean) :: wsL_law) (rmH 1) (va_Pc [.ref (q 0), .int x1, .int x2] (fun U => va_P D vwCl (wM q cA i_pageLength a_page i_states i_columns a_entries i_signals a_signalAt i_walksAt i_turned i_changed i_read i_newRows i_newEntries i_newColumns i_greatest a_newAt i_partings a_lowSet a_highSet i_leastMany a_leastAt a_tried a_keptLow a_keptHigh i_laid a_wants i_wide a_wideAsked a_wideOnes i_sum i_flickers a_sumAt j_h) U.heap ∧ va_K D vwCl (tyM cA) U)) (qRi post) 0 0 (fun _ => False) := by
  refine Met.ofW (cc := cX10_hasOne) (maxL := 5) (ret := (some .boolean)) (by decide) rfl ?_
  intro p e s m args below meth c s₁ B hml hv
  obtain ⟨rfl, hP, hK⟩ := hv
  have X : kC p (headSpec (Cond.code yX10_hasOne cX10_hasOne 5 (some .boolean) :: wsL_law) (rmH 1)).room s m _ meth c cX10_hasOne RX10 5 (some .boolean) 1 := ⟨B.exec, B.bytes, hml, findClass_of_methodNamed B.named, fun w h => atoms_spec (ws := Cond.code yX10_hasOne cX10_hasOne 5 (some .boolean) :: wsL_law) B.pre w (List.mem_cons_of_mem _ h), B.returns, B.notSynchronized, Nat.le_refl _, Nat.le_refl _⟩
  obtain ⟨hx, hb, hml, hown, hts, hr, hlocks, hRf, hRl⟩ := id X
  have hl := lv_entry ([.ref (q 0), .int x1, .int x2]) (n := 5) (Nat.le_of_ble_eq_true rfl)
  rw [lg_entry_eq]
  generalize (lg_sl ([.ref (q 0), .int x1, .int x2]) ++ List.replicate (5 - (lg_sl ([.ref (q 0), .int x1, .int x2])).length) Slot.unset).toArray = ls at hl ⊢
  have hl : lv_has ls 5 [(0, .ref (q 0)), (1, .int x1), (2, .int x2)] := hl
  refine lv_iconst (v := (0 : Int32)) hx hb dX10_hasOne_0 (by decide) ?_
  refine lv_istore_n (lv' := [(3, .int (0 : Int32)), (0, .ref (q 0)), (1, .int x1), (2, .int x2)]) hx hb dX10_hasOne_1 rfl hl (by decide) rfl (fun ls hl => ?_)
  refine lv_iconst (v := (0 : Int32)) hx hb dX10_hasOne_2 (by decide) ?_
  refine lv_istore (lv' := [(4, .int (0 : Int32)), (3, .int (0 : Int32)), (0, .ref (q 0)), (1, .int x1), (2, .int x2)]) hx hb dX10_hasOne_3 hl (by decide) rfl (fun ls hl => ?_)
  obtain ⟨n_11, hw⟩ := hw
  refine t_X10_hasOne_5 X hK hP (fun x3_11 hw ls hl => ?_) n_11 _ _ hw ls (lv_sub hl [2, 3, 4, 1, 0] rfl)
  refine lv_iload_n hx hb dX10_hasOne_51 rfl (lv_at hl 0 rfl) ?_
  have hz := hw.1
  have hw := hw.2
  exact rt_z hx hb hr hlocks hz hw dX10_hasOne_52
set_option maxHeartbeats 4000000 in
set_option maxRecDepth 100000 in
theorem t_X10_isWide_35 {p : Program} {l : Launch} {e : Env} {R : Room} {s : State} {m : MethodId} {args : Array Value} {below : List Frame} {meth : Method} {c : Code} {D : va_G} {q : Nat → Nat} {cA : Nat → ClassId} {i_pageLength : Int32} {a_page : Nat → Int32} {i_states : Int32} {i_columns : Int32} {a_entries : Nat → Int32} {i_signals : Int32} {a_signalAt : Nat → Int32} {i_walksAt : Int32} {i_turned : Int32} {i_changed : Int32} {i_read : Int32} {i_newRows : Int32} {i_newEntries : Int32} {i_newColumns : Int32} {i_greatest : Int32} {a_newAt : Nat → Int32} {i_partings : Int32} {a_lowSet : Nat → Int32} {a_highSet : Nat → Int32} {i_leastMany : Int32} {a_leastAt : Nat → Int32} {a_tried : Nat → Int32} {a_keptLow : Nat → Int64} {a_keptHigh : Nat → Int64} {i_laid : Int32} {a_wants : Nat → Int32} {i_wide : Int32} {a_wideAsked : Nat → Int32} {a_wideOnes : Nat → Int32} {i_sum : Int32} {i_flickers : Int32} {a_sumAt : Nat → Int32} {j_h : Int64} {post : Int32 → Prop} {KE : Int32 → Prop} {x1 : Int32} {x2 : Int32} (X : kC p R s m args meth c cX10_isWide RX10 5 (some .boolean) 2) (hK : va_K D vwCl (tyM cA) s) (hP : va_P D vwCl (wM q cA i_pageLength a_page i_states i_columns a_entries i_signals a_signalAt i_walksAt i_turned i_changed i_read i_newRows i_newEntries i_newColumns i_greatest a_newAt i_partings a_lowSet a_highSet i_leastMany a_leastAt a_tried a_keptLow a_keptHigh i_laid a_wants i_wide a_wideAsked a_wideOnes i_sum i_flickers a_sumAt j_h) s.heap) (hE : ∀ (x3 : Int32), KE x3 → ∀ (ls : Array Slot), lv_has ls 5 [(3, .int x3)] → W p l e R s m args below meth c s.heap [] 0 0 (MQ below (qRi post) args s 0 0 (fun _ => False)) (F0 m 94 ls [])) : ∀ (n : Nat) (x3 : Int32) (x4 : Int32), w_X10_isWide_35 KE i_signals a_wants x1 x2 n x3 x4 → ∀ (ls : Array Slot), lv_has ls 5 [(0, .ref (q 0)), (1, .int x1), (2, .int x2), (3, .int x3), (4, .int x4)] → W p l e R s m args below meth c s.heap [] 0 0 (MQ below (qRi post) args s 0 0 (fun _ => False)) (F0 m 35 ls []) := by
  obtain ⟨hx, hb, hml, hown, hts, hr, hlocks, hRf, hRl⟩ := id X
  intro n
  induction n with
  | zero => intro x3 x4 hw; exact (show False from hw).elim
  | succ n ih =>
    intro x3 x4 hw ls hl
    refine lv_iload hx hb dX10_isWide_35 (lv_at hl 4 rfl) ?_
    refine lv_aload_n hx hb dX10_isWide_37 rfl (lv_at hl 0 rfl) ?_
    refine gRX10_99 hx hb hown hts hK hP dX10_isWide_38 ?_
    refine lv_iconst (v := (2 : Int32)) hx hb dX10_isWide_41 (by decide) ?_
    refine lv_iadd hx hb dX10_isWide_42 ?_
    refine lv_icmp_ge (tgt := 94) hx hb dX10_isWide_43 (by decide) (fun c_2 => ?_) (fun c_2 => ?_)
    · have hw := hw.1 c_2
      exact hE _ hw ls (lv_sub hl [3] rfl)
    · have hw := hw.2 c_2
      refine lv_iload_n hx hb dX10_isWide_46 rfl (lv_at hl 3 rfl) ?_
      refine lv_if_eq (tgt := 94) hx hb dX10_isWide_47 (by decide) (fun c_3 => ?_) (fun c_3 => ?_)
      · have hw := hw.1 c_3
        exact hE _ hw ls (lv_sub hl [3] rfl)
      · have hw := hw.2 c_3
        refine lv_iload_n hx hb dX10_isWide_50 rfl (lv_at hl 1 rfl) ?_
        refine lv_iload hx hb dX10_isWide_51 (lv_at hl 4 rfl) ?_
        refine lv_ishr hx hb dX10_isWide_53 ?_
        refine lv_iconst (v := (1 : Int32)) hx hb dX10_isWide_54 (by decide) ?_
        refine lv_iand hx hb dX10_isWide_55 ?_
        refine lv_if_eq (tgt := 82) hx hb dX10_isWide_56 (by decide) (fun c_4 => ?_) (fun c_4 => ?_)
        · have hw := hw.1 c_4
          refine lv_iconst (v := (1 : Int32)) hx hb dX10_isWide_82 (by decide) ?_
          refine lv_goto (tgt := 87) hx hb dX10_isWide_83 (by decide) ?_
          refine lv_istore_n (lv' := [(3, .int (1 : Int32)), (0, .ref (q 0)), (1, .int x1), (2, .int x2), (4, .int x4)]) hx hb dX10_isWide_87 rfl hl (by decide) rfl (fun ls hl => ?_)
          obtain ⟨x4_5, e_5⟩ : ∃ z : Int32, z = x4 + (1 : Int32) := ⟨_, rfl⟩
          have hw := hw x4_5 e_5
          refine lv_iinc (v := x4_5) (lv' := [(4, .int x4_5), (3, .int (1 : Int32)), (0, .ref (q 0)), (1, .int x1), (2, .int x2)]) hx hb dX10_isWide_88 hl (k := 4) rfl (by rw [e_5]; rfl) (by decide) rfl (fun ls hl => ?_)
          refine lv_goto (tgt := 35) hx hb dX10_isWide_91 (by decide) ?_
          exact ih _ _ hw ls (lv_sub hl [2, 3, 4, 1, 0] rfl)
        · have hw := hw.2 c_4
          refine lv_aload_n hx hb dX10_isWide_59 rfl (lv_at hl 0 rfl) ?_
          refine lv_iload_n hx hb dX10_isWide_60 rfl (lv_at hl 1 rfl) ?_
          refine lv_iconst (v := (1 : Int32)) hx hb dX10_isWide_61 (by decide) ?_
          refine lv_iload hx hb dX10_isWide_62 (lv_at hl 4 rfl) ?_
          refine lv_ishl hx hb dX10_isWide_64 ?_
          refine lv_iconst (v := ((-1) : Int32)) hx hb dX10_isWide_65 (by decide) ?_
          refine lv_ixor hx hb dX10_isWide_66 ?_
          refine lv_iand hx hb dX10_isWide_67 ?_
          refine lv_iload_n hx hb dX10_isWide_68 rfl (lv_at hl 2 rfl) ?_
          refine lv_iconst (v := (1 : Int32)) hx hb dX10_isWide_69 (by decide) ?_
          refine lv_iload hx hb dX10_isWide_70 (lv_at hl 4 rfl) ?_
          refine lv_ishl hx hb dX10_isWide_72 ?_
          refine lv_iconst (v := ((-1) : Int32)) hx hb dX10_isWide_73 (by decide) ?_
          refine lv_ixor hx hb dX10_isWide_74 ?_
          refine lv_iand hx hb dX10_isWide_75 ?_
          refine ro_i (va_runV (As := [.int (x1 &&& (((1 : Int32) <<< (x4 &&& 31)) ^^^ ((-1) : Int32))), .int (x2 &&& (((1 : Int32) <<< (x4 &&& 31)) ^^^ ((-1) : Int32)))]) (rest := []) ⟨hx, hb, hml, hown, hts⟩ (c_X10_isClean l hw) (kRX10_223 (h := 1) hts (Nat.le_trans (Nat.le_of_ble_eq_true rfl) hRf) (Nat.le_trans (Nat.le_of_ble_eq_true rfl) hRl)) (preM hK hP) rfl rfl hl.1 rfl (lv_room (Nat.le_of_ble_eq_true rfl)) dX10_isWide_76 ⟨Nat.zero_le _, Nat.zero_le _⟩) (fun r_6 hw => ?_)
          refine lv_if_ne (tgt := 86) hx hb dX10_isWide_79 (by decide) (fun c_7 => ?_) (fun c_7 => ?_)
          · have hw := hw.2 c_7
            refine lv_iconst (v := (0 : Int32)) hx hb dX10_isWide_86 (by decide) ?_
            refine lv_istore_n (lv' := [(3, .int (0 : Int32)), (0, .ref (q 0)), (1, .int x1), (2, .int x2), (4, .int x4)]) hx hb dX10_isWide_87 rfl hl (by decide) rfl (fun ls hl => ?_)
            obtain ⟨x4_8, e_8⟩ : ∃ z : Int32, z = x4 + (1 : Int32) := ⟨_, rfl⟩
            have hw := hw x4_8 e_8
            refine lv_iinc (v := x4_8) (lv' := [(4, .int x4_8), (3, .int (0 : Int32)), (0, .ref (q 0)), (1, .int x1), (2, .int x2)]) hx hb dX10_isWide_88 hl (k := 4) rfl (by rw [e_8]; rfl) (by decide) rfl (fun ls hl => ?_)
            refine lv_goto (tgt := 35) hx hb dX10_isWide_91 (by decide) ?_
            exact ih _ _ hw ls (lv_sub hl [2, 3, 4, 1, 0] rfl)
          · have hw := hw.1 c_7
            refine lv_iconst (v := (1 : Int32)) hx hb dX10_isWide_82 (by decide) ?_
            refine lv_goto (tgt := 87) hx hb dX10_isWide_83 (by decide) ?_
            refine lv_istore_n (lv' := [(3, .int (1 : Int32)), (0, .ref (q 0)), (1, .int x1), (2, .int x2), (4, .int x4)]) hx hb dX10_isWide_87 rfl hl (by decide) rfl (fun ls hl => ?_)
            obtain ⟨x4_9, e_9⟩ : ∃ z : Int32, z = x4 + (1 : Int32) := ⟨_, rfl⟩
            have hw := hw x4_9 e_9
            refine lv_iinc (v := x4_9) (lv' := [(4, .int x4_9), (3, .int (1 : Int32)), (0, .ref (q 0)), (1, .int x1), (2, .int x2)]) hx hb dX10_isWide_88 hl (k := 4) rfl (by rw [e_9]; rfl) (by decide) rfl (fun ls hl => ?_)
            refine lv_goto (tgt := 35) hx hb dX10_isWide_91 (by decide) ?_
            exact ih _ _ hw ls (lv_sub hl [2, 3, 4, 1, 0] rfl)
set_option maxHeartbeats 4000000 in
set_option maxRecDepth 100000 in
theorem c_X10_isWide (l : Launch) {D : va_G} {q : Nat → Nat} {cA : Nat → ClassId} {i_pageLength : Int32} {a_page : Nat → Int32} {i_states : Int32} {i_columns : Int32} {a_entries : Nat → Int32} {i_signals : Int32} {a_signalAt : Nat → Int32} {i_walksAt : Int32} {i_turned : Int32} {i_changed : Int32} {i_read : Int32} {i_newRows : Int32} {i_newEntries : Int32} {i_newColumns : Int32} {i_greatest : Int32} {a_newAt : Nat → Int32} {i_partings : Int32} {a_lowSet : Nat → Int32} {a_highSet : Nat → Int32} {i_leastMany : Int32} {a_leastAt : Nat → Int32} {a_tried : Nat → Int32} {a_keptLow : Nat → Int64} {a_keptHigh : Nat → Int64} {i_laid : Int32} {a_wants : Nat → Int32} {i_wide : Int32} {a_wideAsked : Nat → Int32} {a_wideOnes : Nat → Int32} {i_sum : Int32} {i_flickers : Int32} {a_sumAt : Nat → Int32} {j_h : Int64} {post : Int32 → Prop} {x1 : Int32} {x2 : Int32} (hw : wp_X10_isWide post i_signals a_wants x1 x2) : Met l yX10_isWide (Cond.code yX10_isWide cX10_isWide 5 (some .boolean) :: wsL_law) (rmH 2) (va_Pc [.ref (q 0), .int x1, .int x2] (fun U => va_P D vwCl (wM q cA i_pageLength a_page i_states i_columns a_entries i_signals a_signalAt i_walksAt i_turned i_changed i_read i_newRows i_newEntries i_newColumns i_greatest a_newAt i_partings a_lowSet a_highSet i_leastMany a_leastAt a_tried a_keptLow a_keptHigh i_laid a_wants i_wide a_wideAsked a_wideOnes i_sum i_flickers a_sumAt j_h) U.heap ∧ va_K D vwCl (tyM cA) U)) (qRi post) 0 0 (fun _ => False) := by
  refine Met.ofW (cc := cX10_isWide) (maxL := 5) (ret := (some .boolean)) (by decide) rfl ?_
  intro p e s m args below meth c s₁ B hml hv
  obtain ⟨rfl, hP, hK⟩ := hv
  have X : kC p (headSpec (Cond.code yX10_isWide cX10_isWide 5 (some .boolean) :: wsL_law) (rmH 2)).room s m _ meth c cX10_isWide RX10 5 (some .boolean) 2 := ⟨B.exec, B.bytes, hml, findClass_of_methodNamed B.named, fun w h => atoms_spec (ws := Cond.code yX10_isWide cX10_isWide 5 (some .boolean) :: wsL_law) B.pre w (List.mem_cons_of_mem _ h), B.returns, B.notSynchronized, Nat.le_refl _, Nat.le_refl _⟩
  obtain ⟨hx, hb, hml, hown, hts, hr, hlocks, hRf, hRl⟩ := id X
  have hl := lv_entry ([.ref (q 0), .int x1, .int x2]) (n := 5) (Nat.le_of_ble_eq_true rfl)
  rw [lg_entry_eq]
  generalize (lg_sl ([.ref (q 0), .int x1, .int x2]) ++ List.replicate (5 - (lg_sl ([.ref (q 0), .int x1, .int x2])).length) Slot.unset).toArray = ls at hl ⊢
  have hl : lv_has ls 5 [(0, .ref (q 0)), (1, .int x1), (2, .int x2)] := hl
  refine lv_iload_n hx hb dX10_isWide_0 rfl (lv_at hl 2 rfl) ?_
  refine lv_iload_n hx hb dX10_isWide_1 rfl (lv_at hl 1 rfl) ?_
  refine lv_iconst (v := ((-1) : Int32)) hx hb dX10_isWide_2 (by decide) ?_
  refine lv_ixor hx hb dX10_isWide_3 ?_
  refine lv_iand hx hb dX10_isWide_4 ?_
  refine lv_if_ne (tgt := 30) hx hb dX10_isWide_5 (by decide) (fun c_1 => ?_) (fun c_1 => ?_)
  · have hw := hw.2 c_1
    refine lv_iconst (v := (0 : Int32)) hx hb dX10_isWide_30 (by decide) ?_
    refine lv_istore_n (lv' := [(3, .int (0 : Int32)), (0, .ref (q 0)), (1, .int x1), (2, .int x2)]) hx hb dX10_isWide_31 rfl hl (by decide) rfl (fun ls hl => ?_)
    refine lv_iconst (v := (0 : Int32)) hx hb dX10_isWide_32 (by decide) ?_
    refine lv_istore (lv' := [(4, .int (0 : Int32)), (3, .int (0 : Int32)), (0, .ref (q 0)), (1, .int x1), (2, .int x2)]) hx hb dX10_isWide_33 hl (by decide) rfl (fun ls hl => ?_)
    obtain ⟨n_10, hw⟩ := hw
    refine t_X10_isWide_35 X hK hP (fun x3_10 hw ls hl => ?_) n_10 _ _ hw ls (lv_sub hl [2, 3, 4, 1, 0] rfl)
    refine lv_iload_n hx hb dX10_isWide_94 rfl (lv_at hl 0 rfl) ?_
    have hz := hw.1
    have hw := hw.2
    exact rt_z hx hb hr hlocks hz hw dX10_isWide_95
  · have hw := hw.1 c_1
    refine lv_aload_n hx hb dX10_isWide_8 rfl (lv_at hl 0 rfl) ?_
    refine lv_iload_n hx hb dX10_isWide_9 rfl (lv_at hl 1 rfl) ?_
    refine lv_iload_n hx hb dX10_isWide_10 rfl (lv_at hl 2 rfl) ?_
    refine ro_i (va_runV (As := [.int x1, .int x2]) (rest := []) ⟨hx, hb, hml, hown, hts⟩ (c_X10_hasOne l hw) (kRX10_220 (h := 1) hts (Nat.le_trans (Nat.le_of_ble_eq_true rfl) hRf) (Nat.le_trans (Nat.le_of_ble_eq_true rfl) hRl)) (preM hK hP) rfl rfl hl.1 rfl (lv_room (Nat.le_of_ble_eq_true rfl)) dX10_isWide_11 ⟨Nat.zero_le _, Nat.zero_le _⟩) (fun r_11 hw => ?_)
    refine lv_if_eq (tgt := 30) hx hb dX10_isWide_14 (by decide) (fun c_12 => ?_) (fun c_12 => ?_)
    · have hw := hw.1 c_12
      refine lv_iconst (v := (0 : Int32)) hx hb dX10_isWide_30 (by decide) ?_
      refine lv_istore_n (lv' := [(3, .int (0 : Int32)), (0, .ref (q 0)), (1, .int x1), (2, .int x2)]) hx hb dX10_isWide_31 rfl hl (by decide) rfl (fun ls hl => ?_)
      refine lv_iconst (v := (0 : Int32)) hx hb dX10_isWide_32 (by decide) ?_
      refine lv_istore (lv' := [(4, .int (0 : Int32)), (3, .int (0 : Int32)), (0, .ref (q 0)), (1, .int x1), (2, .int x2)]) hx hb dX10_isWide_33 hl (by decide) rfl (fun ls hl => ?_)
      obtain ⟨n_13, hw⟩ := hw
      refine t_X10_isWide_35 X hK hP (fun x3_13 hw ls hl => ?_) n_13 _ _ hw ls (lv_sub hl [2, 3, 4, 1, 0] rfl)
      refine lv_iload_n hx hb dX10_isWide_94 rfl (lv_at hl 0 rfl) ?_
      have hz := hw.1
      have hw := hw.2
      exact rt_z hx hb hr hlocks hz hw dX10_isWide_95
    · have hw := hw.2 c_12
      refine lv_aload_n hx hb dX10_isWide_17 rfl (lv_at hl 0 rfl) ?_
      refine lv_iload_n hx hb dX10_isWide_18 rfl (lv_at hl 1 rfl) ?_
      refine lv_iload_n hx hb dX10_isWide_19 rfl (lv_at hl 2 rfl) ?_
      refine ro_i (va_runV (As := [.int x1, .int x2]) (rest := []) ⟨hx, hb, hml, hown, hts⟩ (c_X10_isClean l hw) (kRX10_223 (h := 1) hts (Nat.le_trans (Nat.le_of_ble_eq_true rfl) hRf) (Nat.le_trans (Nat.le_of_ble_eq_true rfl) hRl)) (preM hK hP) rfl rfl hl.1 rfl (lv_room (Nat.le_of_ble_eq_true rfl)) dX10_isWide_20 ⟨Nat.zero_le _, Nat.zero_le _⟩) (fun r_14 hw => ?_)
      refine lv_if_eq (tgt := 30) hx hb dX10_isWide_23 (by decide) (fun c_15 => ?_) (fun c_15 => ?_)
      · have hw := hw.1 c_15
        refine lv_iconst (v := (0 : Int32)) hx hb dX10_isWide_30 (by decide) ?_
        refine lv_istore_n (lv' := [(3, .int (0 : Int32)), (0, .ref (q 0)), (1, .int x1), (2, .int x2)]) hx hb dX10_isWide_31 rfl hl (by decide) rfl (fun ls hl => ?_)
        refine lv_iconst (v := (0 : Int32)) hx hb dX10_isWide_32 (by decide) ?_
        refine lv_istore (lv' := [(4, .int (0 : Int32)), (3, .int (0 : Int32)), (0, .ref (q 0)), (1, .int x1), (2, .int x2)]) hx hb dX10_isWide_33 hl (by decide) rfl (fun ls hl => ?_)
        obtain ⟨n_16, hw⟩ := hw
        refine t_X10_isWide_35 X hK hP (fun x3_16 hw ls hl => ?_) n_16 _ _ hw ls (lv_sub hl [2, 3, 4, 1, 0] rfl)
        refine lv_iload_n hx hb dX10_isWide_94 rfl (lv_at hl 0 rfl) ?_
        have hz := hw.1
        have hw := hw.2
        exact rt_z hx hb hr hlocks hz hw dX10_isWide_95
      · have hw := hw.2 c_15
        refine lv_iconst (v := (1 : Int32)) hx hb dX10_isWide_26 (by decide) ?_
        refine lv_goto (tgt := 31) hx hb dX10_isWide_27 (by decide) ?_
        refine lv_istore_n (lv' := [(3, .int (1 : Int32)), (0, .ref (q 0)), (1, .int x1), (2, .int x2)]) hx hb dX10_isWide_31 rfl hl (by decide) rfl (fun ls hl => ?_)
        refine lv_iconst (v := (0 : Int32)) hx hb dX10_isWide_32 (by decide) ?_
        refine lv_istore (lv' := [(4, .int (0 : Int32)), (3, .int (1 : Int32)), (0, .ref (q 0)), (1, .int x1), (2, .int x2)]) hx hb dX10_isWide_33 hl (by decide) rfl (fun ls hl => ?_)
        obtain ⟨n_17, hw⟩ := hw
        refine t_X10_isWide_35 X hK hP (fun x3_17 hw ls hl => ?_) n_17 _ _ hw ls (lv_sub hl [2, 3, 4, 1, 0] rfl)
        refine lv_iload_n hx hb dX10_isWide_94 rfl (lv_at hl 0 rfl) ?_
        have hz := hw.1
        have hw := hw.2
        exact rt_z hx hb hr hlocks hz hw dX10_isWide_95
abbrev Z_X10_layWide (D : va_G) (q : Nat → Nat) (cA : Nat → ClassId) (i_pageLength : Int32) (a_page : Nat → Int32) (i_states : Int32) (i_columns : Int32) (a_entries : Nat → Int32) (i_signals : Int32) (a_signalAt : Nat → Int32) (i_walksAt : Int32) (i_turned : Int32) (i_changed : Int32) (i_read : Int32) (i_newRows : Int32) (i_newEntries : Int32) (i_newColumns : Int32) (i_greatest : Int32) (a_newAt : Nat → Int32) (i_partings : Int32) (a_lowSet : Nat → Int32) (a_highSet : Nat → Int32) (i_leastMany : Int32) (a_leastAt : Nat → Int32) (a_tried : Nat → Int32) (a_keptLow : Nat → Int64) (a_keptHigh : Nat → Int64) (i_laid : Int32) (a_wants : Nat → Int32) (i_sum : Int32) (i_flickers : Int32) (a_sumAt : Nat → Int32) (j_h : Int64) (post : Int32 → (Nat → Int32) → (Nat → Int32) → Prop) : State → Prop := fun t => ∃ (y_i_wide : Int32) (y_a_wideAsked : Nat → Int32) (y_a_wideOnes : Nat → Int32), post y_i_wide y_a_wideAsked y_a_wideOnes ∧ va_P D vwCl (wM q cA i_pageLength a_page i_states i_columns a_entries i_signals a_signalAt i_walksAt i_turned i_changed i_read i_newRows i_newEntries i_newColumns i_greatest a_newAt i_partings a_lowSet a_highSet i_leastMany a_leastAt a_tried a_keptLow a_keptHigh i_laid a_wants y_i_wide y_a_wideAsked y_a_wideOnes i_sum i_flickers a_sumAt j_h) t.heap
set_option maxHeartbeats 4000000 in
set_option maxRecDepth 100000 in
theorem t_X10_layWide_17 {p : Program} {l : Launch} {e : Env} {R : Room} {s : State} {m : MethodId} {args : Array Value} {below : List Frame} {meth : Method} {c : Code} {A : Nat → Prop} {D : va_G} {q : Nat → Nat} {cA : Nat → ClassId} {i_pageLength : Int32} {a_page : Nat → Int32} {i_states : Int32} {i_columns : Int32} {a_entries : Nat → Int32} {i_signals : Int32} {a_signalAt : Nat → Int32} {i_walksAt : Int32} {i_turned : Int32} {i_changed : Int32} {i_read : Int32} {i_newRows : Int32} {i_newEntries : Int32} {i_newColumns : Int32} {i_greatest : Int32} {a_newAt : Nat → Int32} {i_partings : Int32} {a_lowSet : Nat → Int32} {a_highSet : Nat → Int32} {i_leastMany : Int32} {a_leastAt : Nat → Int32} {a_tried : Nat → Int32} {a_keptLow : Nat → Int64} {a_keptHigh : Nat → Int64} {i_laid : Int32} {a_wants : Nat → Int32} {i_sum : Int32} {i_flickers : Int32} {a_sumAt : Nat → Int32} {j_h : Int64} {post : Int32 → (Nat → Int32) → (Nat → Int32) → Prop} {KE : Int32 → (Nat → Int32) → (Nat → Int32) → Prop} {x1 : Int32} (X : kC p R s m args meth c cX10_layWide RX10 3 none 3) (hK : va_K D vwCl (tyM cA) s) (hE : ∀ (i_wide : Int32) (a_wideAsked : Nat → Int32) (a_wideOnes : Nat → Int32), KE i_wide a_wideAsked a_wideOnes → ∀ (ls : Array Slot) (H : Heap) (locs : List Loc), lv_has ls 3 [(0, .ref (q 0)), (1, .int x1)] → va_P D vwCl (wM q cA i_pageLength a_page i_states i_columns a_entries i_signals a_signalAt i_walksAt i_turned i_changed i_read i_newRows i_newEntries i_newColumns i_greatest a_newAt i_partings a_lowSet a_highSet i_leastMany a_leastAt a_tried a_keptLow a_keptHigh i_laid a_wants i_wide a_wideAsked a_wideOnes i_sum i_flickers a_sumAt j_h) H → va_D A (wM q cA i_pageLength a_page i_states i_columns a_entries i_signals a_signalAt i_walksAt i_turned i_changed i_read i_newRows i_newEntries i_newColumns i_greatest a_newAt i_partings a_lowSet a_highSet i_leastMany a_leastAt a_tried a_keptLow a_keptHigh i_laid a_wants i_wide a_wideAsked a_wideOnes i_sum i_flickers a_sumAt j_h) → va_S A s.heap H locs → W p l e R s m args below meth c H locs 0 0 (MQ below (qWv (Z_X10_layWide D q cA i_pageLength a_page i_states i_columns a_entries i_signals a_signalAt i_walksAt i_turned i_changed i_read i_newRows i_newEntries i_newColumns i_greatest a_newAt i_partings a_lowSet a_highSet i_leastMany a_leastAt a_tried a_keptLow a_keptHigh i_laid a_wants i_sum i_flickers a_sumAt j_h post) A) args s 0 0 A) (F0 m 67 ls [])) : ∀ (n : Nat) (x2 : Int32) (i_wide : Int32) (a_wideAsked : Nat → Int32) (a_wideOnes : Nat → Int32), w_X10_layWide_17 KE i_signals a_wants x1 n x2 i_wide a_wideAsked a_wideOnes → ∀ (ls : Array Slot) (H : Heap) (locs : List Loc), lv_has ls 3 [(0, .ref (q 0)), (1, .int x1), (2, .int x2)] → va_P D vwCl (wM q cA i_pageLength a_page i_states i_columns a_entries i_signals a_signalAt i_walksAt i_turned i_changed i_read i_newRows i_newEntries i_newColumns i_greatest a_newAt i_partings a_lowSet a_highSet i_leastMany a_leastAt a_tried a_keptLow a_keptHigh i_laid a_wants i_wide a_wideAsked a_wideOnes i_sum i_flickers a_sumAt j_h) H → va_D A (wM q cA i_pageLength a_page i_states i_columns a_entries i_signals a_signalAt i_walksAt i_turned i_changed i_read i_newRows i_newEntries i_newColumns i_greatest a_newAt i_partings a_lowSet a_highSet i_leastMany a_leastAt a_tried a_keptLow a_keptHigh i_laid a_wants i_wide a_wideAsked a_wideOnes i_sum i_flickers a_sumAt j_h) → va_S A s.heap H locs → W p l e R s m args below meth c H locs 0 0 (MQ below (qWv (Z_X10_layWide D q cA i_pageLength a_page i_states i_columns a_entries i_signals a_signalAt i_walksAt i_turned i_changed i_read i_newRows i_newEntries i_newColumns i_greatest a_newAt i_partings a_lowSet a_highSet i_leastMany a_leastAt a_tried a_keptLow a_keptHigh i_laid a_wants i_sum i_flickers a_sumAt j_h post) A) args s 0 0 A) (F0 m 17 ls []) := by
  obtain ⟨hx, hb, hml, hown, hts, hr, hlocks, hRf, hRl⟩ := id X
  intro n
  induction n with
  | zero => intro x2 i_wide a_wideAsked a_wideOnes hw; exact (show False from hw).elim
  | succ n ih =>
    intro x2 i_wide a_wideAsked a_wideOnes hw ls H locs hl hP hD hS
    refine lv_iload_n hx hb dX10_layWide_17 rfl (lv_at hl 2 rfl) ?_
    refine lv_iload_n hx hb dX10_layWide_18 rfl (lv_at hl 1 rfl) ?_
    refine lv_icmp_gt (tgt := 67) hx hb dX10_layWide_19 (by decide) (fun c_3 => ?_) (fun c_3 => ?_)
    · have hw := hw.1 c_3
      exact hE _ _ _ hw ls _ _ (lv_sub hl [0, 1] rfl) hP hD hS
    · have hw := hw.2 c_3
      refine lv_aload_n hx hb dX10_layWide_22 rfl (lv_at hl 0 rfl) ?_
      refine lv_iload_n hx hb dX10_layWide_23 rfl (lv_at hl 1 rfl) ?_
      refine lv_iload_n hx hb dX10_layWide_24 rfl (lv_at hl 2 rfl) ?_
      refine ro_i (va_runV (As := [.int x1, .int x2]) (rest := []) ⟨hx, hb, hml, hown, hts⟩ (c_X10_isWide l hw) (kRX10_229 (h := 2) hts (Nat.le_trans (Nat.le_of_ble_eq_true rfl) hRf) (Nat.le_trans (Nat.le_of_ble_eq_true rfl) hRl)) (preM hK hP) rfl rfl hl.1 rfl (lv_room (Nat.le_of_ble_eq_true rfl)) dX10_layWide_25 ⟨Nat.zero_le _, Nat.zero_le _⟩) (fun r_4 hw => ?_)
      refine lv_if_eq (tgt := 61) hx hb dX10_layWide_28 (by decide) (fun c_5 => ?_) (fun c_5 => ?_)
      · have hw := hw.1 c_5
        obtain ⟨x2_6, e_6⟩ : ∃ z : Int32, z = x2 + (1 : Int32) := ⟨_, rfl⟩
        have hw := hw x2_6 e_6
        refine lv_iinc (v := x2_6) (lv' := [(2, .int x2_6), (0, .ref (q 0)), (1, .int x1)]) hx hb dX10_layWide_61 hl (k := 2) rfl (by rw [e_6]; rfl) (by decide) rfl (fun ls hl => ?_)
        refine lv_goto (tgt := 17) hx hb dX10_layWide_64 (by decide) ?_
        exact ih _ _ _ _ hw ls _ _ (lv_sub hl [1, 2, 0] rfl) hP hD hS
      · have hw := hw.2 c_5
        refine lv_aload_n hx hb dX10_layWide_31 rfl (lv_at hl 0 rfl) ?_
        refine gRX10_51 hx hb hown hts hK hP dX10_layWide_32 ?_
        refine lv_aload_n hx hb dX10_layWide_35 rfl (lv_at hl 0 rfl) ?_
        refine gRX10_226 hx hb hown hts hK hP dX10_layWide_36 ?_
        refine lv_iload_n hx hb dX10_layWide_39 rfl (lv_at hl 1 rfl) ?_
        have h_7 := hw.1
        have hw := hw.2
        refine st_a_wideAsked hx hb hK hP hD hS h_7 dX10_layWide_40 (fun H locs a_7 e_7 hP hD hS => ?_)
        have hw := hw a_7 e_7
        refine lv_aload_n hx hb dX10_layWide_41 rfl (lv_at hl 0 rfl) ?_
        refine gRX10_54 hx hb hown hts hK hP dX10_layWide_42 ?_
        refine lv_aload_n hx hb dX10_layWide_45 rfl (lv_at hl 0 rfl) ?_
        refine gRX10_226 hx hb hown hts hK hP dX10_layWide_46 ?_
        refine lv_iload_n hx hb dX10_layWide_49 rfl (lv_at hl 2 rfl) ?_
        have h_8 := hw.1
        have hw := hw.2
        refine st_a_wideOnes hx hb hK hP hD hS h_8 dX10_layWide_50 (fun H locs a_8 e_8 hP hD hS => ?_)
        have hw := hw a_8 e_8
        refine lv_aload_n hx hb dX10_layWide_51 rfl (lv_at hl 0 rfl) ?_
        refine lv_dup hx hb dX10_layWide_52 rfl ?_
        refine gRX10_226 hx hb hown hts hK hP dX10_layWide_53 ?_
        refine lv_iconst (v := (1 : Int32)) hx hb dX10_layWide_56 (by decide) ?_
        refine lv_iadd hx hb dX10_layWide_57 ?_
        refine lv_topi (fun f_9 e_9 => ?_)
        have hw := hw f_9 e_9
        refine pRX10_226 hx hb hown hts hK hP hD hS dX10_layWide_58 (fun H locs hP hD hS => ?_)
        obtain ⟨x2_10, e_10⟩ : ∃ z : Int32, z = x2 + (1 : Int32) := ⟨_, rfl⟩
        have hw := hw x2_10 e_10
        refine lv_iinc (v := x2_10) (lv' := [(2, .int x2_10), (0, .ref (q 0)), (1, .int x1)]) hx hb dX10_layWide_61 hl (k := 2) rfl (by rw [e_10]; rfl) (by decide) rfl (fun ls hl => ?_)
        refine lv_goto (tgt := 17) hx hb dX10_layWide_64 (by decide) ?_
        exact ih _ _ _ _ hw ls _ _ (lv_sub hl [1, 2, 0] rfl) hP hD hS
set_option maxHeartbeats 4000000 in
set_option maxRecDepth 100000 in
theorem t_X10_layWide_7 {p : Program} {l : Launch} {e : Env} {R : Room} {s : State} {m : MethodId} {args : Array Value} {below : List Frame} {meth : Method} {c : Code} {A : Nat → Prop} {D : va_G} {q : Nat → Nat} {cA : Nat → ClassId} {i_pageLength : Int32} {a_page : Nat → Int32} {i_states : Int32} {i_columns : Int32} {a_entries : Nat → Int32} {i_signals : Int32} {a_signalAt : Nat → Int32} {i_walksAt : Int32} {i_turned : Int32} {i_changed : Int32} {i_read : Int32} {i_newRows : Int32} {i_newEntries : Int32} {i_newColumns : Int32} {i_greatest : Int32} {a_newAt : Nat → Int32} {i_partings : Int32} {a_lowSet : Nat → Int32} {a_highSet : Nat → Int32} {i_leastMany : Int32} {a_leastAt : Nat → Int32} {a_tried : Nat → Int32} {a_keptLow : Nat → Int64} {a_keptHigh : Nat → Int64} {i_laid : Int32} {a_wants : Nat → Int32} {i_sum : Int32} {i_flickers : Int32} {a_sumAt : Nat → Int32} {j_h : Int64} {post : Int32 → (Nat → Int32) → (Nat → Int32) → Prop} {KE : Int32 → (Nat → Int32) → (Nat → Int32) → Prop} (X : kC p R s m args meth c cX10_layWide RX10 3 none 3) (hK : va_K D vwCl (tyM cA) s) (hE : ∀ (i_wide : Int32) (a_wideAsked : Nat → Int32) (a_wideOnes : Nat → Int32), KE i_wide a_wideAsked a_wideOnes → ∀ (ls : Array Slot) (H : Heap) (locs : List Loc), lv_has ls 3 [] → va_P D vwCl (wM q cA i_pageLength a_page i_states i_columns a_entries i_signals a_signalAt i_walksAt i_turned i_changed i_read i_newRows i_newEntries i_newColumns i_greatest a_newAt i_partings a_lowSet a_highSet i_leastMany a_leastAt a_tried a_keptLow a_keptHigh i_laid a_wants i_wide a_wideAsked a_wideOnes i_sum i_flickers a_sumAt j_h) H → va_D A (wM q cA i_pageLength a_page i_states i_columns a_entries i_signals a_signalAt i_walksAt i_turned i_changed i_read i_newRows i_newEntries i_newColumns i_greatest a_newAt i_partings a_lowSet a_highSet i_leastMany a_leastAt a_tried a_keptLow a_keptHigh i_laid a_wants i_wide a_wideAsked a_wideOnes i_sum i_flickers a_sumAt j_h) → va_S A s.heap H locs → W p l e R s m args below meth c H locs 0 0 (MQ below (qWv (Z_X10_layWide D q cA i_pageLength a_page i_states i_columns a_entries i_signals a_signalAt i_walksAt i_turned i_changed i_read i_newRows i_newEntries i_newColumns i_greatest a_newAt i_partings a_lowSet a_highSet i_leastMany a_leastAt a_tried a_keptLow a_keptHigh i_laid a_wants i_sum i_flickers a_sumAt j_h post) A) args s 0 0 A) (F0 m 73 ls [])) : ∀ (n : Nat) (x1 : Int32) (i_wide : Int32) (a_wideAsked : Nat → Int32) (a_wideOnes : Nat → Int32), w_X10_layWide_7 KE i_signals a_wants n x1 i_wide a_wideAsked a_wideOnes → ∀ (ls : Array Slot) (H : Heap) (locs : List Loc), lv_has ls 3 [(0, .ref (q 0)), (1, .int x1)] → va_P D vwCl (wM q cA i_pageLength a_page i_states i_columns a_entries i_signals a_signalAt i_walksAt i_turned i_changed i_read i_newRows i_newEntries i_newColumns i_greatest a_newAt i_partings a_lowSet a_highSet i_leastMany a_leastAt a_tried a_keptLow a_keptHigh i_laid a_wants i_wide a_wideAsked a_wideOnes i_sum i_flickers a_sumAt j_h) H → va_D A (wM q cA i_pageLength a_page i_states i_columns a_entries i_signals a_signalAt i_walksAt i_turned i_changed i_read i_newRows i_newEntries i_newColumns i_greatest a_newAt i_partings a_lowSet a_highSet i_leastMany a_leastAt a_tried a_keptLow a_keptHigh i_laid a_wants i_wide a_wideAsked a_wideOnes i_sum i_flickers a_sumAt j_h) → va_S A s.heap H locs → W p l e R s m args below meth c H locs 0 0 (MQ below (qWv (Z_X10_layWide D q cA i_pageLength a_page i_states i_columns a_entries i_signals a_signalAt i_walksAt i_turned i_changed i_read i_newRows i_newEntries i_newColumns i_greatest a_newAt i_partings a_lowSet a_highSet i_leastMany a_leastAt a_tried a_keptLow a_keptHigh i_laid a_wants i_sum i_flickers a_sumAt j_h post) A) args s 0 0 A) (F0 m 7 ls []) := by
  obtain ⟨hx, hb, hml, hown, hts, hr, hlocks, hRf, hRl⟩ := id X
  intro n
  induction n with
  | zero => intro x1 i_wide a_wideAsked a_wideOnes hw; exact (show False from hw).elim
  | succ n ih =>
    intro x1 i_wide a_wideAsked a_wideOnes hw ls H locs hl hP hD hS
    have hw : (wp_X10_points (fun (r_1 : Int32) => ((r_1 ≤ x1 → KE i_wide a_wideAsked a_wideOnes) ∧ (¬ r_1 ≤ x1 → (∃ fu : Nat, w_X10_layWide_17 (fun (ywide_11 : Int32) (ywideAsked_11 : Nat → Int32) (ywideOnes_11 : Nat → Int32) => (∀ x1_12 : Int32, x1_12 = x1 + (1 : Int32) → w_X10_layWide_7 KE i_signals a_wants n x1_12 ywide_11 ywideAsked_11 ywideOnes_11)) i_signals a_wants x1 fu (0 : Int32) i_wide a_wideAsked a_wideOnes)))) i_signals) := hw
    refine lv_iload_n hx hb dX10_layWide_7 rfl (lv_at hl 1 rfl) ?_
    refine lv_aload_n hx hb dX10_layWide_8 rfl (lv_at hl 0 rfl) ?_
    refine ro_i (va_runV (As := []) (rest := [.int x1]) ⟨hx, hb, hml, hown, hts⟩ (c_X10_points l hw) (kRX10_211 (h := 0) hts (Nat.le_trans (Nat.le_of_ble_eq_true rfl) hRf) (Nat.le_trans (Nat.le_of_ble_eq_true rfl) hRl)) (preM hK hP) rfl rfl hl.1 rfl (lv_room (Nat.le_of_ble_eq_true rfl)) dX10_layWide_9 ⟨Nat.zero_le _, Nat.zero_le _⟩) (fun r_1 hw => ?_)
    refine lv_icmp_ge (tgt := 73) hx hb dX10_layWide_12 (by decide) (fun c_2 => ?_) (fun c_2 => ?_)
    · have hw := hw.1 c_2
      exact hE _ _ _ hw ls _ _ (lv_sub hl [] rfl) hP hD hS
    · have hw := hw.2 c_2
      refine lv_iconst (v := (0 : Int32)) hx hb dX10_layWide_15 (by decide) ?_
      refine lv_istore_n (lv' := [(2, .int (0 : Int32)), (0, .ref (q 0)), (1, .int x1)]) hx hb dX10_layWide_16 rfl hl (by decide) rfl (fun ls hl => ?_)
      obtain ⟨n_11, hw⟩ := hw
      refine t_X10_layWide_17 X hK (fun ywide_11 ywideAsked_11 ywideOnes_11 hw ls H locs hl hP hD hS => ?_) n_11 _ _ _ _ hw ls _ _ (lv_sub hl [1, 2, 0] rfl) hP hD hS
      obtain ⟨x1_12, e_12⟩ : ∃ z : Int32, z = x1 + (1 : Int32) := ⟨_, rfl⟩
      have hw := hw x1_12 e_12
      refine lv_iinc (v := x1_12) (lv' := [(1, .int x1_12), (0, .ref (q 0))]) hx hb dX10_layWide_67 hl (k := 1) rfl (by rw [e_12]; rfl) (by decide) rfl (fun ls hl => ?_)
      refine lv_goto (tgt := 7) hx hb dX10_layWide_70 (by decide) ?_
      exact ih _ _ _ _ hw ls _ _ (lv_sub hl [1, 0] rfl) hP hD hS
set_option maxHeartbeats 4000000 in
set_option maxRecDepth 100000 in
theorem c_X10_layWide (l : Launch) {D : va_G} {q : Nat → Nat} {cA : Nat → ClassId} {i_pageLength : Int32} {a_page : Nat → Int32} {i_states : Int32} {i_columns : Int32} {a_entries : Nat → Int32} {i_signals : Int32} {a_signalAt : Nat → Int32} {i_walksAt : Int32} {i_turned : Int32} {i_changed : Int32} {i_read : Int32} {i_newRows : Int32} {i_newEntries : Int32} {i_newColumns : Int32} {i_greatest : Int32} {a_newAt : Nat → Int32} {i_partings : Int32} {a_lowSet : Nat → Int32} {a_highSet : Nat → Int32} {i_leastMany : Int32} {a_leastAt : Nat → Int32} {a_tried : Nat → Int32} {a_keptLow : Nat → Int64} {a_keptHigh : Nat → Int64} {i_laid : Int32} {a_wants : Nat → Int32} {i_wide : Int32} {a_wideAsked : Nat → Int32} {a_wideOnes : Nat → Int32} {i_sum : Int32} {i_flickers : Int32} {a_sumAt : Nat → Int32} {j_h : Int64} {A : Nat → Prop} {post : Int32 → (Nat → Int32) → (Nat → Int32) → Prop}  (hw : wp_X10_layWide post i_signals a_wants i_wide a_wideAsked a_wideOnes ) : Met l yX10_layWide (Cond.code yX10_layWide cX10_layWide 3 none :: wsL_law) (rmH 3) (va_Pc [.ref (q 0)] (fun U => va_P D vwCl (wM q cA i_pageLength a_page i_states i_columns a_entries i_signals a_signalAt i_walksAt i_turned i_changed i_read i_newRows i_newEntries i_newColumns i_greatest a_newAt i_partings a_lowSet a_highSet i_leastMany a_leastAt a_tried a_keptLow a_keptHigh i_laid a_wants i_wide a_wideAsked a_wideOnes i_sum i_flickers a_sumAt j_h) U.heap ∧ va_K D vwCl (tyM cA) U ∧ va_D A (wM q cA i_pageLength a_page i_states i_columns a_entries i_signals a_signalAt i_walksAt i_turned i_changed i_read i_newRows i_newEntries i_newColumns i_greatest a_newAt i_partings a_lowSet a_highSet i_leastMany a_leastAt a_tried a_keptLow a_keptHigh i_laid a_wants i_wide a_wideAsked a_wideOnes i_sum i_flickers a_sumAt j_h))) (qWv (Z_X10_layWide D q cA i_pageLength a_page i_states i_columns a_entries i_signals a_signalAt i_walksAt i_turned i_changed i_read i_newRows i_newEntries i_newColumns i_greatest a_newAt i_partings a_lowSet a_highSet i_leastMany a_leastAt a_tried a_keptLow a_keptHigh i_laid a_wants i_sum i_flickers a_sumAt j_h post) A) 0 0 A := by
  refine Met.ofW (cc := cX10_layWide) (maxL := 3) (ret := none) (by decide) rfl ?_
  intro p e s m args below meth c s₁ B hml hv
  obtain ⟨rfl, hP, hK, hD⟩ := hv
  have X : kC p (headSpec (Cond.code yX10_layWide cX10_layWide 3 none :: wsL_law) (rmH 3)).room s m _ meth c cX10_layWide RX10 3 none 3 := ⟨B.exec, B.bytes, hml, findClass_of_methodNamed B.named, fun w h => atoms_spec (ws := Cond.code yX10_layWide cX10_layWide 3 none :: wsL_law) B.pre w (List.mem_cons_of_mem _ h), B.returns, B.notSynchronized, Nat.le_refl _, Nat.le_refl _⟩
  obtain ⟨hx, hb, hml, hown, hts, hr, hlocks, hRf, hRl⟩ := id X
  have hS : va_S A s.heap s.heap [] := va_S.rf
  have hl := lv_entry ([.ref (q 0)]) (n := 3) (Nat.le_of_ble_eq_true rfl)
  rw [lg_entry_eq]
  generalize (lg_sl ([.ref (q 0)]) ++ List.replicate (3 - (lg_sl ([.ref (q 0)])).length) Slot.unset).toArray = ls at hl ⊢
  have hl : lv_has ls 3 [(0, .ref (q 0))] := hl
  refine lv_aload_n hx hb dX10_layWide_0 rfl (lv_at hl 0 rfl) ?_
  refine lv_iconst (v := (0 : Int32)) hx hb dX10_layWide_1 (by decide) ?_
  refine pRX10_226 hx hb hown hts hK hP hD hS dX10_layWide_2 (fun H locs hP hD hS => ?_)
  refine lv_iconst (v := (0 : Int32)) hx hb dX10_layWide_5 (by decide) ?_
  refine lv_istore_n (lv' := [(1, .int (0 : Int32)), (0, .ref (q 0))]) hx hb dX10_layWide_6 rfl hl (by decide) rfl (fun ls hl => ?_)
  obtain ⟨n_13, hw⟩ := hw
  refine t_X10_layWide_7 X hK (fun ywide_13 ywideAsked_13 ywideOnes_13 hw ls H locs hl hP hD hS => ?_) n_13 _ _ _ _ hw ls _ _ (lv_sub hl [1, 0] rfl) hP hD hS
  exact rw_v hx hb hr hlocks (fun t ht => ⟨ywide_13, ywideAsked_13, ywideOnes_13, hw, by rw [ht]; exact hP⟩) hS dX10_layWide_73
set_option maxHeartbeats 4000000 in
set_option maxRecDepth 100000 in
theorem t_X10_isSummed_5 {p : Program} {l : Launch} {e : Env} {R : Room} {s : State} {m : MethodId} {args : Array Value} {below : List Frame} {meth : Method} {c : Code} {D : va_G} {q : Nat → Nat} {cA : Nat → ClassId} {i_pageLength : Int32} {a_page : Nat → Int32} {i_states : Int32} {i_columns : Int32} {a_entries : Nat → Int32} {i_signals : Int32} {a_signalAt : Nat → Int32} {i_walksAt : Int32} {i_turned : Int32} {i_changed : Int32} {i_read : Int32} {i_newRows : Int32} {i_newEntries : Int32} {i_newColumns : Int32} {i_greatest : Int32} {a_newAt : Nat → Int32} {i_partings : Int32} {a_lowSet : Nat → Int32} {a_highSet : Nat → Int32} {i_leastMany : Int32} {a_leastAt : Nat → Int32} {a_tried : Nat → Int32} {a_keptLow : Nat → Int64} {a_keptHigh : Nat → Int64} {i_laid : Int32} {a_wants : Nat → Int32} {i_wide : Int32} {a_wideAsked : Nat → Int32} {a_wideOnes : Nat → Int32} {i_sum : Int32} {i_flickers : Int32} {a_sumAt : Nat → Int32} {j_h : Int64} {post : Int32 → Prop} {KE : Int32 → Prop} {x1 : Int32} {x2 : Int32} (X : kC p R s m args meth c cX10_isSummed RX10 6 (some .boolean) 1) (hK : va_K D vwCl (tyM cA) s) (hP : va_P D vwCl (wM q cA i_pageLength a_page i_states i_columns a_entries i_signals a_signalAt i_walksAt i_turned i_changed i_read i_newRows i_newEntries i_newColumns i_greatest a_newAt i_partings a_lowSet a_highSet i_leastMany a_leastAt a_tried a_keptLow a_keptHigh i_laid a_wants i_wide a_wideAsked a_wideOnes i_sum i_flickers a_sumAt j_h) s.heap) (hE : ∀ (x3 : Int32), KE x3 → ∀ (ls : Array Slot), lv_has ls 6 [(3, .int x3)] → W p l e R s m args below meth c s.heap [] 0 0 (MQ below (qRi post) args s 0 0 (fun _ => False)) (F0 m 81 ls [])) : ∀ (n : Nat) (x3 : Int32) (x4 : Int32), w_X10_isSummed_5 KE a_wideAsked a_wideOnes i_sum a_sumAt x1 x2 n x3 x4 → ∀ (ls : Array Slot), lv_has ls 6 [(0, .ref (q 0)), (1, .int x1), (2, .int x2), (3, .int x3), (4, .int x4)] → W p l e R s m args below meth c s.heap [] 0 0 (MQ below (qRi post) args s 0 0 (fun _ => False)) (F0 m 5 ls []) := by
  obtain ⟨hx, hb, hml, hown, hts, hr, hlocks, hRf, hRl⟩ := id X
  intro n
  induction n with
  | zero => intro x3 x4 hw; exact (show False from hw).elim
  | succ n ih =>
    intro x3 x4 hw ls hl
    refine lv_iload hx hb dX10_isSummed_5 (lv_at hl 4 rfl) ?_
    refine lv_aload_n hx hb dX10_isSummed_7 rfl (lv_at hl 0 rfl) ?_
    refine gRX10_232 hx hb hown hts hK hP dX10_isSummed_8 ?_
    refine lv_icmp_ge (tgt := 81) hx hb dX10_isSummed_11 (by decide) (fun c_1 => ?_) (fun c_1 => ?_)
    · have hw := hw.1 c_1
      exact hE _ hw ls (lv_sub hl [3] rfl)
    · have hw := hw.2 c_1
      refine lv_aload_n hx hb dX10_isSummed_14 rfl (lv_at hl 0 rfl) ?_
      refine gRX10_57 hx hb hown hts hK hP dX10_isSummed_15 ?_
      refine lv_iload hx hb dX10_isSummed_18 (lv_at hl 4 rfl) ?_
      have h_2 := hw.1
      have hw := hw.2
      refine ld_a_sumAt hx hb hK hP h_2 dX10_isSummed_20 ?_
      refine lv_topi (fun x5_3 e_3 => ?_)
      have hw := hw x5_3 e_3
      refine lv_istore (lv' := [(5, .int x5_3), (0, .ref (q 0)), (1, .int x1), (2, .int x2), (3, .int x3), (4, .int x4)]) hx hb dX10_isSummed_21 hl (by decide) rfl (fun ls hl => ?_)
      refine lv_iload_n hx hb dX10_isSummed_23 rfl (lv_at hl 4 rfl) ?_
      refine lv_if_ne (tgt := 69) hx hb dX10_isSummed_24 (by decide) (fun c_4 => ?_) (fun c_4 => ?_)
      · have hw := hw.2 c_4
        refine lv_iconst (v := (1 : Int32)) hx hb dX10_isSummed_69 (by decide) ?_
        refine lv_goto (tgt := 74) hx hb dX10_isSummed_70 (by decide) ?_
        refine lv_istore_n (lv' := [(3, .int (1 : Int32)), (5, .int x5_3), (0, .ref (q 0)), (1, .int x1), (2, .int x2), (4, .int x4)]) hx hb dX10_isSummed_74 rfl hl (by decide) rfl (fun ls hl => ?_)
        obtain ⟨x4_5, e_5⟩ : ∃ z : Int32, z = x4 + (1 : Int32) := ⟨_, rfl⟩
        have hw := hw x4_5 e_5
        refine lv_iinc (v := x4_5) (lv' := [(4, .int x4_5), (3, .int (1 : Int32)), (5, .int x5_3), (0, .ref (q 0)), (1, .int x1), (2, .int x2)]) hx hb dX10_isSummed_75 hl (k := 5) rfl (by rw [e_5]; rfl) (by decide) rfl (fun ls hl => ?_)
        refine lv_goto (tgt := 5) hx hb dX10_isSummed_78 (by decide) ?_
        exact ih _ _ hw ls (lv_sub hl [3, 4, 5, 1, 0] rfl)
      · have hw := hw.1 c_4
        refine lv_aload_n hx hb dX10_isSummed_27 rfl (lv_at hl 1 rfl) ?_
        refine gRX10_51 hx hb hown hts hK hP dX10_isSummed_28 ?_
        refine lv_iload hx hb dX10_isSummed_31 (lv_at hl 0 rfl) ?_
        have h_6 := hw.1
        have hw := hw.2
        refine ld_a_wideAsked hx hb hK hP h_6 dX10_isSummed_33 ?_
        refine lv_aload_n hx hb dX10_isSummed_34 rfl (lv_at hl 1 rfl) ?_
        refine gRX10_54 hx hb hown hts hK hP dX10_isSummed_35 ?_
        refine lv_iload hx hb dX10_isSummed_38 (lv_at hl 0 rfl) ?_
        have h_7 := hw.1
        have hw := hw.2
        refine ld_a_wideOnes hx hb hK hP h_7 dX10_isSummed_40 ?_
        refine lv_iload_n hx hb dX10_isSummed_41 rfl (lv_at hl 2 rfl) ?_
        refine ro_i (va_runS (As := [.int (a_wideAsked x5_3.toNatClampNeg), .int (a_wideOnes x5_3.toNatClampNeg), .int x1]) (rest := []) ⟨hx, hb, hml, hown, hts⟩ (c_X10_has l hw) (kRX10_217 (h := 0) hts (Nat.le_trans (Nat.le_of_ble_eq_true rfl) hRf) (Nat.le_trans (Nat.le_of_ble_eq_true rfl) hRl)) pre_0 rfl rfl hl.1 rfl (lv_room (Nat.le_of_ble_eq_true rfl)) dX10_isSummed_42 ⟨Nat.zero_le _, Nat.zero_le _⟩) (fun r_8 hw => ?_)
        refine lv_if_eq (tgt := 73) hx hb dX10_isSummed_45 (by decide) (fun c_9 => ?_) (fun c_9 => ?_)
        · have hw := hw.1 c_9
          refine lv_iconst (v := (0 : Int32)) hx hb dX10_isSummed_73 (by decide) ?_
          refine lv_istore_n (lv' := [(3, .int (0 : Int32)), (5, .int x5_3), (0, .ref (q 0)), (1, .int x1), (2, .int x2), (4, .int x4)]) hx hb dX10_isSummed_74 rfl hl (by decide) rfl (fun ls hl => ?_)
          obtain ⟨x4_10, e_10⟩ : ∃ z : Int32, z = x4 + (1 : Int32) := ⟨_, rfl⟩
          have hw := hw x4_10 e_10
          refine lv_iinc (v := x4_10) (lv' := [(4, .int x4_10), (3, .int (0 : Int32)), (5, .int x5_3), (0, .ref (q 0)), (1, .int x1), (2, .int x2)]) hx hb dX10_isSummed_75 hl (k := 5) rfl (by rw [e_10]; rfl) (by decide) rfl (fun ls hl => ?_)
          refine lv_goto (tgt := 5) hx hb dX10_isSummed_78 (by decide) ?_
          exact ih _ _ hw ls (lv_sub hl [3, 4, 5, 1, 0] rfl)
        · have hw := hw.2 c_9
          refine lv_aload_n hx hb dX10_isSummed_48 rfl (lv_at hl 1 rfl) ?_
          refine gRX10_51 hx hb hown hts hK hP dX10_isSummed_49 ?_
          refine lv_iload hx hb dX10_isSummed_52 (lv_at hl 0 rfl) ?_
          have h_11 := hw.1
          have hw := hw.2
          refine ld_a_wideAsked hx hb hK hP h_11 dX10_isSummed_54 ?_
          refine lv_aload_n hx hb dX10_isSummed_55 rfl (lv_at hl 1 rfl) ?_
          refine gRX10_54 hx hb hown hts hK hP dX10_isSummed_56 ?_
          refine lv_iload hx hb dX10_isSummed_59 (lv_at hl 0 rfl) ?_
          have h_12 := hw.1
          have hw := hw.2
          refine ld_a_wideOnes hx hb hK hP h_12 dX10_isSummed_61 ?_
          refine lv_iload_n hx hb dX10_isSummed_62 rfl (lv_at hl 3 rfl) ?_
          refine ro_i (va_runS (As := [.int (a_wideAsked x5_3.toNatClampNeg), .int (a_wideOnes x5_3.toNatClampNeg), .int x2]) (rest := []) ⟨hx, hb, hml, hown, hts⟩ (c_X10_has l hw) (kRX10_217 (h := 0) hts (Nat.le_trans (Nat.le_of_ble_eq_true rfl) hRf) (Nat.le_trans (Nat.le_of_ble_eq_true rfl) hRl)) pre_0 rfl rfl hl.1 rfl (lv_room (Nat.le_of_ble_eq_true rfl)) dX10_isSummed_63 ⟨Nat.zero_le _, Nat.zero_le _⟩) (fun r_13 hw => ?_)
          refine lv_if_eq (tgt := 73) hx hb dX10_isSummed_66 (by decide) (fun c_14 => ?_) (fun c_14 => ?_)
          · have hw := hw.1 c_14
            refine lv_iconst (v := (0 : Int32)) hx hb dX10_isSummed_73 (by decide) ?_
            refine lv_istore_n (lv' := [(3, .int (0 : Int32)), (5, .int x5_3), (0, .ref (q 0)), (1, .int x1), (2, .int x2), (4, .int x4)]) hx hb dX10_isSummed_74 rfl hl (by decide) rfl (fun ls hl => ?_)
            obtain ⟨x4_15, e_15⟩ : ∃ z : Int32, z = x4 + (1 : Int32) := ⟨_, rfl⟩
            have hw := hw x4_15 e_15
            refine lv_iinc (v := x4_15) (lv' := [(4, .int x4_15), (3, .int (0 : Int32)), (5, .int x5_3), (0, .ref (q 0)), (1, .int x1), (2, .int x2)]) hx hb dX10_isSummed_75 hl (k := 5) rfl (by rw [e_15]; rfl) (by decide) rfl (fun ls hl => ?_)
            refine lv_goto (tgt := 5) hx hb dX10_isSummed_78 (by decide) ?_
            exact ih _ _ hw ls (lv_sub hl [3, 4, 5, 1, 0] rfl)
          · have hw := hw.2 c_14
            refine lv_iconst (v := (1 : Int32)) hx hb dX10_isSummed_69 (by decide) ?_
            refine lv_goto (tgt := 74) hx hb dX10_isSummed_70 (by decide) ?_
            refine lv_istore_n (lv' := [(3, .int (1 : Int32)), (5, .int x5_3), (0, .ref (q 0)), (1, .int x1), (2, .int x2), (4, .int x4)]) hx hb dX10_isSummed_74 rfl hl (by decide) rfl (fun ls hl => ?_)
            obtain ⟨x4_16, e_16⟩ : ∃ z : Int32, z = x4 + (1 : Int32) := ⟨_, rfl⟩
            have hw := hw x4_16 e_16
            refine lv_iinc (v := x4_16) (lv' := [(4, .int x4_16), (3, .int (1 : Int32)), (5, .int x5_3), (0, .ref (q 0)), (1, .int x1), (2, .int x2)]) hx hb dX10_isSummed_75 hl (k := 5) rfl (by rw [e_16]; rfl) (by decide) rfl (fun ls hl => ?_)
            refine lv_goto (tgt := 5) hx hb dX10_isSummed_78 (by decide) ?_
            exact ih _ _ hw ls (lv_sub hl [3, 4, 5, 1, 0] rfl)
set_option maxHeartbeats 4000000 in
set_option maxRecDepth 100000 in
theorem c_X10_isSummed (l : Launch) {D : va_G} {q : Nat → Nat} {cA : Nat → ClassId} {i_pageLength : Int32} {a_page : Nat → Int32} {i_states : Int32} {i_columns : Int32} {a_entries : Nat → Int32} {i_signals : Int32} {a_signalAt : Nat → Int32} {i_walksAt : Int32} {i_turned : Int32} {i_changed : Int32} {i_read : Int32} {i_newRows : Int32} {i_newEntries : Int32} {i_newColumns : Int32} {i_greatest : Int32} {a_newAt : Nat → Int32} {i_partings : Int32} {a_lowSet : Nat → Int32} {a_highSet : Nat → Int32} {i_leastMany : Int32} {a_leastAt : Nat → Int32} {a_tried : Nat → Int32} {a_keptLow : Nat → Int64} {a_keptHigh : Nat → Int64} {i_laid : Int32} {a_wants : Nat → Int32} {i_wide : Int32} {a_wideAsked : Nat → Int32} {a_wideOnes : Nat → Int32} {i_sum : Int32} {i_flickers : Int32} {a_sumAt : Nat → Int32} {j_h : Int64} {post : Int32 → Prop} {x1 : Int32} {x2 : Int32} (hw : wp_X10_isSummed post a_wideAsked a_wideOnes i_sum a_sumAt x1 x2) : Met l yX10_isSummed (Cond.code yX10_isSummed cX10_isSummed 6 (some .boolean) :: wsL_law) (rmH 1) (va_Pc [.ref (q 0), .int x1, .int x2] (fun U => va_P D vwCl (wM q cA i_pageLength a_page i_states i_columns a_entries i_signals a_signalAt i_walksAt i_turned i_changed i_read i_newRows i_newEntries i_newColumns i_greatest a_newAt i_partings a_lowSet a_highSet i_leastMany a_leastAt a_tried a_keptLow a_keptHigh i_laid a_wants i_wide a_wideAsked a_wideOnes i_sum i_flickers a_sumAt j_h) U.heap ∧ va_K D vwCl (tyM cA) U)) (qRi post) 0 0 (fun _ => False) := by
  refine Met.ofW (cc := cX10_isSummed) (maxL := 6) (ret := (some .boolean)) (by decide) rfl ?_
  intro p e s m args below meth c s₁ B hml hv
  obtain ⟨rfl, hP, hK⟩ := hv
  have X : kC p (headSpec (Cond.code yX10_isSummed cX10_isSummed 6 (some .boolean) :: wsL_law) (rmH 1)).room s m _ meth c cX10_isSummed RX10 6 (some .boolean) 1 := ⟨B.exec, B.bytes, hml, findClass_of_methodNamed B.named, fun w h => atoms_spec (ws := Cond.code yX10_isSummed cX10_isSummed 6 (some .boolean) :: wsL_law) B.pre w (List.mem_cons_of_mem _ h), B.returns, B.notSynchronized, Nat.le_refl _, Nat.le_refl _⟩
  obtain ⟨hx, hb, hml, hown, hts, hr, hlocks, hRf, hRl⟩ := id X
  have hl := lv_entry ([.ref (q 0), .int x1, .int x2]) (n := 6) (Nat.le_of_ble_eq_true rfl)
  rw [lg_entry_eq]
  generalize (lg_sl ([.ref (q 0), .int x1, .int x2]) ++ List.replicate (6 - (lg_sl ([.ref (q 0), .int x1, .int x2])).length) Slot.unset).toArray = ls at hl ⊢
  have hl : lv_has ls 6 [(0, .ref (q 0)), (1, .int x1), (2, .int x2)] := hl
  refine lv_iconst (v := (0 : Int32)) hx hb dX10_isSummed_0 (by decide) ?_
  refine lv_istore_n (lv' := [(3, .int (0 : Int32)), (0, .ref (q 0)), (1, .int x1), (2, .int x2)]) hx hb dX10_isSummed_1 rfl hl (by decide) rfl (fun ls hl => ?_)
  refine lv_iconst (v := (0 : Int32)) hx hb dX10_isSummed_2 (by decide) ?_
  refine lv_istore (lv' := [(4, .int (0 : Int32)), (3, .int (0 : Int32)), (0, .ref (q 0)), (1, .int x1), (2, .int x2)]) hx hb dX10_isSummed_3 hl (by decide) rfl (fun ls hl => ?_)
  obtain ⟨n_17, hw⟩ := hw
  refine t_X10_isSummed_5 X hK hP (fun x3_17 hw ls hl => ?_) n_17 _ _ hw ls (lv_sub hl [2, 3, 4, 1, 0] rfl)
  refine lv_iload_n hx hb dX10_isSummed_81 rfl (lv_at hl 0 rfl) ?_
  have hz := hw.1
  have hw := hw.2
  exact rt_z hx hb hr hlocks hz hw dX10_isSummed_82
abbrev Z_X10_addSum (D : va_G) (q : Nat → Nat) (cA : Nat → ClassId) (i_pageLength : Int32) (a_page : Nat → Int32) (i_states : Int32) (i_columns : Int32) (a_entries : Nat → Int32) (i_signals : Int32) (a_signalAt : Nat → Int32) (i_walksAt : Int32) (i_turned : Int32) (i_changed : Int32) (i_read : Int32) (i_newRows : Int32) (i_newEntries : Int32) (i_newColumns : Int32) (i_greatest : Int32) (a_newAt : Nat → Int32) (i_partings : Int32) (a_lowSet : Nat → Int32) (a_highSet : Nat → Int32) (i_leastMany : Int32) (a_leastAt : Nat → Int32) (a_tried : Nat → Int32) (a_keptLow : Nat → Int64) (a_keptHigh : Nat → Int64) (i_laid : Int32) (a_wants : Nat → Int32) (i_wide : Int32) (a_wideAsked : Nat → Int32) (a_wideOnes : Nat → Int32) (i_flickers : Int32) (j_h : Int64) (post : Int32 → (Nat → Int32) → Prop) : State → Prop := fun t => ∃ (y_i_sum : Int32) (y_a_sumAt : Nat → Int32), post y_i_sum y_a_sumAt ∧ va_P D vwCl (wM q cA i_pageLength a_page i_states i_columns a_entries i_signals a_signalAt i_walksAt i_turned i_changed i_read i_newRows i_newEntries i_newColumns i_greatest a_newAt i_partings a_lowSet a_highSet i_leastMany a_leastAt a_tried a_keptLow a_keptHigh i_laid a_wants i_wide a_wideAsked a_wideOnes y_i_sum i_flickers y_a_sumAt j_h) t.heap
set_option maxHeartbeats 4000000 in
set_option maxRecDepth 100000 in
theorem t_X10_addSum_61 {p : Program} {l : Launch} {e : Env} {R : Room} {s : State} {m : MethodId} {args : Array Value} {below : List Frame} {meth : Method} {c : Code} {A : Nat → Prop} {D : va_G} {q : Nat → Nat} {cA : Nat → ClassId} {i_pageLength : Int32} {a_page : Nat → Int32} {i_states : Int32} {i_columns : Int32} {a_entries : Nat → Int32} {i_signals : Int32} {a_signalAt : Nat → Int32} {i_walksAt : Int32} {i_turned : Int32} {i_changed : Int32} {i_read : Int32} {i_newRows : Int32} {i_newEntries : Int32} {i_newColumns : Int32} {i_greatest : Int32} {a_newAt : Nat → Int32} {i_partings : Int32} {a_lowSet : Nat → Int32} {a_highSet : Nat → Int32} {i_leastMany : Int32} {a_leastAt : Nat → Int32} {a_tried : Nat → Int32} {a_keptLow : Nat → Int64} {a_keptHigh : Nat → Int64} {i_laid : Int32} {a_wants : Nat → Int32} {i_wide : Int32} {a_wideAsked : Nat → Int32} {a_wideOnes : Nat → Int32} {i_sum : Int32} {i_flickers : Int32} {a_sumAt : Nat → Int32} {j_h : Int64} {post : Int32 → (Nat → Int32) → Prop} {KL : Int32 → Int32 → Prop} {x1 : Int32} {x2 : Int32} {x3 : Int32} {x4 : Int32} {v0 : Int32} (X : kC p R s m args meth c cX10_addSum RX10 6 none 1) (hK : va_K D vwCl (tyM cA) s) (hL : ∀ (x3 : Int32) (x4 : Int32), KL x3 x4 → ∀ (ls : Array Slot) (H : Heap) (locs : List Loc), lv_has ls 6 [(0, .ref (q 0)), (1, .int x1), (2, .int x2), (3, .int x3), (4, .int x4)] → va_P D vwCl (wM q cA i_pageLength a_page i_states i_columns a_entries i_signals a_signalAt i_walksAt i_turned i_changed i_read i_newRows i_newEntries i_newColumns i_greatest a_newAt i_partings a_lowSet a_highSet i_leastMany a_leastAt a_tried a_keptLow a_keptHigh i_laid a_wants i_wide a_wideAsked a_wideOnes i_sum i_flickers a_sumAt j_h) H → va_D A (wM q cA i_pageLength a_page i_states i_columns a_entries i_signals a_signalAt i_walksAt i_turned i_changed i_read i_newRows i_newEntries i_newColumns i_greatest a_newAt i_partings a_lowSet a_highSet i_leastMany a_leastAt a_tried a_keptLow a_keptHigh i_laid a_wants i_wide a_wideAsked a_wideOnes i_sum i_flickers a_sumAt j_h) → va_S A s.heap H locs → W p l e R s m args below meth c H locs 0 0 (MQ below (qWv (Z_X10_addSum D q cA i_pageLength a_page i_states i_columns a_entries i_signals a_signalAt i_walksAt i_turned i_changed i_read i_newRows i_newEntries i_newColumns i_greatest a_newAt i_partings a_lowSet a_highSet i_leastMany a_leastAt a_tried a_keptLow a_keptHigh i_laid a_wants i_wide a_wideAsked a_wideOnes i_flickers j_h post) A) args s 0 0 A) (F0 m 5 ls [])) (hw : j_X10_addSum_61 KL a_wideAsked x3 x4 v0) (ls : Array Slot) (H : Heap) (locs : List Loc) (hl : lv_has ls 6 [(0, .ref (q 0)), (1, .int x1), (2, .int x2), (3, .int x3), (4, .int x4)]) (hP : va_P D vwCl (wM q cA i_pageLength a_page i_states i_columns a_entries i_signals a_signalAt i_walksAt i_turned i_changed i_read i_newRows i_newEntries i_newColumns i_greatest a_newAt i_partings a_lowSet a_highSet i_leastMany a_leastAt a_tried a_keptLow a_keptHigh i_laid a_wants i_wide a_wideAsked a_wideOnes i_sum i_flickers a_sumAt j_h) H) (hD : va_D A (wM q cA i_pageLength a_page i_states i_columns a_entries i_signals a_signalAt i_walksAt i_turned i_changed i_read i_newRows i_newEntries i_newColumns i_greatest a_newAt i_partings a_lowSet a_highSet i_leastMany a_leastAt a_tried a_keptLow a_keptHigh i_laid a_wants i_wide a_wideAsked a_wideOnes i_sum i_flickers a_sumAt j_h)) (hS : va_S A s.heap H locs) : W p l e R s m args below meth c H locs 0 0 (MQ below (qWv (Z_X10_addSum D q cA i_pageLength a_page i_states i_columns a_entries i_signals a_signalAt i_walksAt i_turned i_changed i_read i_newRows i_newEntries i_newColumns i_greatest a_newAt i_partings a_lowSet a_highSet i_leastMany a_leastAt a_tried a_keptLow a_keptHigh i_laid a_wants i_wide a_wideAsked a_wideOnes i_flickers j_h post) A) args s 0 0 A) (F0 m 61 ls [.int v0]) := by
  obtain ⟨hx, hb, hml, hown, hts, hr, hlocks, hRf, hRl⟩ := id X
  refine lv_istore (lv' := [(5, .int v0), (0, .ref (q 0)), (1, .int x1), (2, .int x2), (3, .int x3), (4, .int x4)]) hx hb dX10_addSum_61 hl (by decide) rfl (fun ls hl => ?_)
  refine lv_iload hx hb dX10_addSum_63 (lv_at hl 0 rfl) ?_
  refine lv_if_eq (tgt := 100) hx hb dX10_addSum_65 (by decide) (fun c_6 => ?_) (fun c_6 => ?_)
  · have hw := hw.1 c_6
    refine lv_iload_n hx hb dX10_addSum_100 rfl (lv_at hl 4 rfl) ?_
    refine lv_istore_n (lv' := [(3, .int x3), (5, .int v0), (0, .ref (q 0)), (1, .int x1), (2, .int x2), (4, .int x4)]) hx hb dX10_addSum_101 rfl hl (by decide) rfl (fun ls hl => ?_)
    obtain ⟨x4_7, e_7⟩ : ∃ z : Int32, z = x4 + (1 : Int32) := ⟨_, rfl⟩
    have hw := hw x4_7 e_7
    refine lv_iinc (v := x4_7) (lv' := [(4, .int x4_7), (3, .int x3), (5, .int v0), (0, .ref (q 0)), (1, .int x1), (2, .int x2)]) hx hb dX10_addSum_102 hl (k := 5) rfl (by rw [e_7]; rfl) (by decide) rfl (fun ls hl => ?_)
    refine lv_goto (tgt := 5) hx hb dX10_addSum_105 (by decide) ?_
    exact hL _ _ hw ls _ _ (lv_sub hl [3, 4, 5, 1, 0] rfl) hP hD hS
  · have hw := hw.2 c_6
    refine lv_iload_n hx hb dX10_addSum_68 rfl (lv_at hl 4 rfl) ?_
    refine lv_iconst (v := ((-1) : Int32)) hx hb dX10_addSum_69 (by decide) ?_
    refine lv_icmp_eq (tgt := 95) hx hb dX10_addSum_70 (by decide) (fun c_8 => ?_) (fun c_8 => ?_)
    · have hw := hw.1 c_8
      refine lv_iload hx hb dX10_addSum_95 (lv_at hl 5 rfl) ?_
      refine lv_goto (tgt := 101) hx hb dX10_addSum_97 (by decide) ?_
      refine lv_istore_n (lv' := [(3, .int x4), (5, .int v0), (0, .ref (q 0)), (1, .int x1), (2, .int x2), (4, .int x4)]) hx hb dX10_addSum_101 rfl hl (by decide) rfl (fun ls hl => ?_)
      obtain ⟨x4_9, e_9⟩ : ∃ z : Int32, z = x4 + (1 : Int32) := ⟨_, rfl⟩
      have hw := hw x4_9 e_9
      refine lv_iinc (v := x4_9) (lv' := [(4, .int x4_9), (3, .int x4), (5, .int v0), (0, .ref (q 0)), (1, .int x1), (2, .int x2)]) hx hb dX10_addSum_102 hl (k := 5) rfl (by rw [e_9]; rfl) (by decide) rfl (fun ls hl => ?_)
      refine lv_goto (tgt := 5) hx hb dX10_addSum_105 (by decide) ?_
      exact hL _ _ hw ls _ _ (lv_sub hl [3, 4, 5, 1, 0] rfl) hP hD hS
    · have hw := hw.2 c_8
      refine lv_aload_n hx hb dX10_addSum_73 rfl (lv_at hl 1 rfl) ?_
      refine gRX10_51 hx hb hown hts hK hP dX10_addSum_74 ?_
      refine lv_iload hx hb dX10_addSum_77 (lv_at hl 5 rfl) ?_
      have h_10 := hw.1
      have hw := hw.2
      refine ld_a_wideAsked hx hb hK hP h_10 dX10_addSum_79 ?_
      refine ro_i (va_runS (As := [.int (a_wideAsked x4.toNatClampNeg)]) (rest := []) ⟨hx, hb, hml, hown, hts⟩ (c_X10_ones l hw) (kRX10_190 (h := 0) hts (Nat.le_trans (Nat.le_of_ble_eq_true rfl) hRf) (Nat.le_trans (Nat.le_of_ble_eq_true rfl) hRl)) pre_0 rfl rfl hl.1 rfl (lv_room (Nat.le_of_ble_eq_true rfl)) dX10_addSum_80 ⟨Nat.zero_le _, Nat.zero_le _⟩) (fun r_11 hw => ?_)
      refine lv_aload_n hx hb dX10_addSum_83 rfl (lv_at hl 1 rfl) ?_
      refine gRX10_51 hx hb hown hts hK hP dX10_addSum_84 ?_
      refine lv_iload_n hx hb dX10_addSum_87 rfl (lv_at hl 4 rfl) ?_
      have h_12 := hw.1
      have hw := hw.2
      refine ld_a_wideAsked hx hb hK hP h_12 dX10_addSum_88 ?_
      refine ro_i (va_runS (As := [.int (a_wideAsked x3.toNatClampNeg)]) (rest := [.int r_11]) ⟨hx, hb, hml, hown, hts⟩ (c_X10_ones l hw) (kRX10_190 (h := 0) hts (Nat.le_trans (Nat.le_of_ble_eq_true rfl) hRf) (Nat.le_trans (Nat.le_of_ble_eq_true rfl) hRl)) pre_0 rfl rfl hl.1 rfl (lv_room (Nat.le_of_ble_eq_true rfl)) dX10_addSum_89 ⟨Nat.zero_le _, Nat.zero_le _⟩) (fun r_13 hw => ?_)
      refine lv_icmp_ge (tgt := 100) hx hb dX10_addSum_92 (by decide) (fun c_14 => ?_) (fun c_14 => ?_)
      · have hw := hw.1 c_14
        refine lv_iload_n hx hb dX10_addSum_100 rfl (lv_at hl 4 rfl) ?_
        refine lv_istore_n (lv' := [(3, .int x3), (5, .int v0), (0, .ref (q 0)), (1, .int x1), (2, .int x2), (4, .int x4)]) hx hb dX10_addSum_101 rfl hl (by decide) rfl (fun ls hl => ?_)
        obtain ⟨x4_15, e_15⟩ : ∃ z : Int32, z = x4 + (1 : Int32) := ⟨_, rfl⟩
        have hw := hw x4_15 e_15
        refine lv_iinc (v := x4_15) (lv' := [(4, .int x4_15), (3, .int x3), (5, .int v0), (0, .ref (q 0)), (1, .int x1), (2, .int x2)]) hx hb dX10_addSum_102 hl (k := 5) rfl (by rw [e_15]; rfl) (by decide) rfl (fun ls hl => ?_)
        refine lv_goto (tgt := 5) hx hb dX10_addSum_105 (by decide) ?_
        exact hL _ _ hw ls _ _ (lv_sub hl [3, 4, 5, 1, 0] rfl) hP hD hS
      · have hw := hw.2 c_14
        refine lv_iload hx hb dX10_addSum_95 (lv_at hl 5 rfl) ?_
        refine lv_goto (tgt := 101) hx hb dX10_addSum_97 (by decide) ?_
        refine lv_istore_n (lv' := [(3, .int x4), (5, .int v0), (0, .ref (q 0)), (1, .int x1), (2, .int x2), (4, .int x4)]) hx hb dX10_addSum_101 rfl hl (by decide) rfl (fun ls hl => ?_)
        obtain ⟨x4_16, e_16⟩ : ∃ z : Int32, z = x4 + (1 : Int32) := ⟨_, rfl⟩
        have hw := hw x4_16 e_16
        refine lv_iinc (v := x4_16) (lv' := [(4, .int x4_16), (3, .int x4), (5, .int v0), (0, .ref (q 0)), (1, .int x1), (2, .int x2)]) hx hb dX10_addSum_102 hl (k := 5) rfl (by rw [e_16]; rfl) (by decide) rfl (fun ls hl => ?_)
        refine lv_goto (tgt := 5) hx hb dX10_addSum_105 (by decide) ?_
        exact hL _ _ hw ls _ _ (lv_sub hl [3, 4, 5, 1, 0] rfl) hP hD hS
set_option maxHeartbeats 4000000 in
set_option maxRecDepth 100000 in
theorem t_X10_addSum_5 {p : Program} {l : Launch} {e : Env} {R : Room} {s : State} {m : MethodId} {args : Array Value} {below : List Frame} {meth : Method} {c : Code} {A : Nat → Prop} {D : va_G} {q : Nat → Nat} {cA : Nat → ClassId} {i_pageLength : Int32} {a_page : Nat → Int32} {i_states : Int32} {i_columns : Int32} {a_entries : Nat → Int32} {i_signals : Int32} {a_signalAt : Nat → Int32} {i_walksAt : Int32} {i_turned : Int32} {i_changed : Int32} {i_read : Int32} {i_newRows : Int32} {i_newEntries : Int32} {i_newColumns : Int32} {i_greatest : Int32} {a_newAt : Nat → Int32} {i_partings : Int32} {a_lowSet : Nat → Int32} {a_highSet : Nat → Int32} {i_leastMany : Int32} {a_leastAt : Nat → Int32} {a_tried : Nat → Int32} {a_keptLow : Nat → Int64} {a_keptHigh : Nat → Int64} {i_laid : Int32} {a_wants : Nat → Int32} {i_wide : Int32} {a_wideAsked : Nat → Int32} {a_wideOnes : Nat → Int32} {i_sum : Int32} {i_flickers : Int32} {a_sumAt : Nat → Int32} {j_h : Int64} {post : Int32 → (Nat → Int32) → Prop} {KE : Int32 → Prop} {x1 : Int32} {x2 : Int32} (X : kC p R s m args meth c cX10_addSum RX10 6 none 1) (hK : va_K D vwCl (tyM cA) s) (hE : ∀ (x3 : Int32), KE x3 → ∀ (ls : Array Slot) (H : Heap) (locs : List Loc), lv_has ls 6 [(0, .ref (q 0)), (3, .int x3)] → va_P D vwCl (wM q cA i_pageLength a_page i_states i_columns a_entries i_signals a_signalAt i_walksAt i_turned i_changed i_read i_newRows i_newEntries i_newColumns i_greatest a_newAt i_partings a_lowSet a_highSet i_leastMany a_leastAt a_tried a_keptLow a_keptHigh i_laid a_wants i_wide a_wideAsked a_wideOnes i_sum i_flickers a_sumAt j_h) H → va_D A (wM q cA i_pageLength a_page i_states i_columns a_entries i_signals a_signalAt i_walksAt i_turned i_changed i_read i_newRows i_newEntries i_newColumns i_greatest a_newAt i_partings a_lowSet a_highSet i_leastMany a_leastAt a_tried a_keptLow a_keptHigh i_laid a_wants i_wide a_wideAsked a_wideOnes i_sum i_flickers a_sumAt j_h) → va_S A s.heap H locs → W p l e R s m args below meth c H locs 0 0 (MQ below (qWv (Z_X10_addSum D q cA i_pageLength a_page i_states i_columns a_entries i_signals a_signalAt i_walksAt i_turned i_changed i_read i_newRows i_newEntries i_newColumns i_greatest a_newAt i_partings a_lowSet a_highSet i_leastMany a_leastAt a_tried a_keptLow a_keptHigh i_laid a_wants i_wide a_wideAsked a_wideOnes i_flickers j_h post) A) args s 0 0 A) (F0 m 108 ls [])) : ∀ (n : Nat) (x3 : Int32) (x4 : Int32), w_X10_addSum_5 KE i_wide a_wideAsked a_wideOnes x1 x2 n x3 x4 → ∀ (ls : Array Slot) (H : Heap) (locs : List Loc), lv_has ls 6 [(0, .ref (q 0)), (1, .int x1), (2, .int x2), (3, .int x3), (4, .int x4)] → va_P D vwCl (wM q cA i_pageLength a_page i_states i_columns a_entries i_signals a_signalAt i_walksAt i_turned i_changed i_read i_newRows i_newEntries i_newColumns i_greatest a_newAt i_partings a_lowSet a_highSet i_leastMany a_leastAt a_tried a_keptLow a_keptHigh i_laid a_wants i_wide a_wideAsked a_wideOnes i_sum i_flickers a_sumAt j_h) H → va_D A (wM q cA i_pageLength a_page i_states i_columns a_entries i_signals a_signalAt i_walksAt i_turned i_changed i_read i_newRows i_newEntries i_newColumns i_greatest a_newAt i_partings a_lowSet a_highSet i_leastMany a_leastAt a_tried a_keptLow a_keptHigh i_laid a_wants i_wide a_wideAsked a_wideOnes i_sum i_flickers a_sumAt j_h) → va_S A s.heap H locs → W p l e R s m args below meth c H locs 0 0 (MQ below (qWv (Z_X10_addSum D q cA i_pageLength a_page i_states i_columns a_entries i_signals a_signalAt i_walksAt i_turned i_changed i_read i_newRows i_newEntries i_newColumns i_greatest a_newAt i_partings a_lowSet a_highSet i_leastMany a_leastAt a_tried a_keptLow a_keptHigh i_laid a_wants i_wide a_wideAsked a_wideOnes i_flickers j_h post) A) args s 0 0 A) (F0 m 5 ls []) := by
  obtain ⟨hx, hb, hml, hown, hts, hr, hlocks, hRf, hRl⟩ := id X
  intro n
  induction n with
  | zero => intro x3 x4 hw; exact (show False from hw).elim
  | succ n ih =>
    intro x3 x4 hw ls H locs hl hP hD hS
    refine lv_iload hx hb dX10_addSum_5 (lv_at hl 4 rfl) ?_
    refine lv_aload_n hx hb dX10_addSum_7 rfl (lv_at hl 0 rfl) ?_
    refine gRX10_226 hx hb hown hts hK hP dX10_addSum_8 ?_
    refine lv_icmp_ge (tgt := 108) hx hb dX10_addSum_11 (by decide) (fun c_1 => ?_) (fun c_1 => ?_)
    · have hw := hw.1 c_1
      exact hE _ hw ls _ _ (lv_sub hl [0, 3] rfl) hP hD hS
    · have hw := hw.2 c_1
      refine lv_aload_n hx hb dX10_addSum_14 rfl (lv_at hl 0 rfl) ?_
      refine gRX10_51 hx hb hown hts hK hP dX10_addSum_15 ?_
      refine lv_iload hx hb dX10_addSum_18 (lv_at hl 4 rfl) ?_
      have h_2 := hw.1
      have hw := hw.2
      refine ld_a_wideAsked hx hb hK hP h_2 dX10_addSum_20 ?_
      refine lv_aload_n hx hb dX10_addSum_21 rfl (lv_at hl 0 rfl) ?_
      refine gRX10_54 hx hb hown hts hK hP dX10_addSum_22 ?_
      refine lv_iload hx hb dX10_addSum_25 (lv_at hl 4 rfl) ?_
      have h_3 := hw.1
      have hw := hw.2
      refine ld_a_wideOnes hx hb hK hP h_3 dX10_addSum_27 ?_
      refine lv_iload_n hx hb dX10_addSum_28 rfl (lv_at hl 1 rfl) ?_
      refine ro_i (va_runS (As := [.int (a_wideAsked x4.toNatClampNeg), .int (a_wideOnes x4.toNatClampNeg), .int x1]) (rest := []) ⟨hx, hb, hml, hown, hts⟩ (c_X10_has l hw) (kRX10_217 (h := 0) hts (Nat.le_trans (Nat.le_of_ble_eq_true rfl) hRf) (Nat.le_trans (Nat.le_of_ble_eq_true rfl) hRl)) pre_0 rfl rfl hl.1 rfl (lv_room (Nat.le_of_ble_eq_true rfl)) dX10_addSum_29 ⟨Nat.zero_le _, Nat.zero_le _⟩) (fun r_4 hw => ?_)
      refine lv_if_eq (tgt := 60) hx hb dX10_addSum_32 (by decide) (fun c_5 => ?_) (fun c_5 => ?_)
      · have hw := hw.1 c_5
        refine lv_iconst (v := (0 : Int32)) hx hb dX10_addSum_60 (by decide) ?_
        exact t_X10_addSum_61 X hK ih hw ls _ _ (lv_sub hl [0, 1, 2, 3, 4] rfl) hP hD hS
      · have hw := hw.2 c_5
        refine lv_aload_n hx hb dX10_addSum_35 rfl (lv_at hl 0 rfl) ?_
        refine gRX10_51 hx hb hown hts hK hP dX10_addSum_36 ?_
        refine lv_iload hx hb dX10_addSum_39 (lv_at hl 4 rfl) ?_
        have h_17 := hw.1
        have hw := hw.2
        refine ld_a_wideAsked hx hb hK hP h_17 dX10_addSum_41 ?_
        refine lv_aload_n hx hb dX10_addSum_42 rfl (lv_at hl 0 rfl) ?_
        refine gRX10_54 hx hb hown hts hK hP dX10_addSum_43 ?_
        refine lv_iload hx hb dX10_addSum_46 (lv_at hl 4 rfl) ?_
        have h_18 := hw.1
        have hw := hw.2
        refine ld_a_wideOnes hx hb hK hP h_18 dX10_addSum_48 ?_
        refine lv_iload_n hx hb dX10_addSum_49 rfl (lv_at hl 2 rfl) ?_
        refine ro_i (va_runS (As := [.int (a_wideAsked x4.toNatClampNeg), .int (a_wideOnes x4.toNatClampNeg), .int x2]) (rest := []) ⟨hx, hb, hml, hown, hts⟩ (c_X10_has l hw) (kRX10_217 (h := 0) hts (Nat.le_trans (Nat.le_of_ble_eq_true rfl) hRf) (Nat.le_trans (Nat.le_of_ble_eq_true rfl) hRl)) pre_0 rfl rfl hl.1 rfl (lv_room (Nat.le_of_ble_eq_true rfl)) dX10_addSum_50 ⟨Nat.zero_le _, Nat.zero_le _⟩) (fun r_19 hw => ?_)
        refine lv_if_eq (tgt := 60) hx hb dX10_addSum_53 (by decide) (fun c_20 => ?_) (fun c_20 => ?_)
        · have hw := hw.1 c_20
          refine lv_iconst (v := (0 : Int32)) hx hb dX10_addSum_60 (by decide) ?_
          exact t_X10_addSum_61 X hK ih hw ls _ _ (lv_sub hl [0, 1, 2, 3, 4] rfl) hP hD hS
        · have hw := hw.2 c_20
          refine lv_iconst (v := (1 : Int32)) hx hb dX10_addSum_56 (by decide) ?_
          refine lv_goto (tgt := 61) hx hb dX10_addSum_57 (by decide) ?_
          exact t_X10_addSum_61 X hK ih hw ls _ _ (lv_sub hl [0, 1, 2, 3, 4] rfl) hP hD hS
set_option maxHeartbeats 4000000 in
set_option maxRecDepth 100000 in
theorem c_X10_addSum (l : Launch) {D : va_G} {q : Nat → Nat} {cA : Nat → ClassId} {i_pageLength : Int32} {a_page : Nat → Int32} {i_states : Int32} {i_columns : Int32} {a_entries : Nat → Int32} {i_signals : Int32} {a_signalAt : Nat → Int32} {i_walksAt : Int32} {i_turned : Int32} {i_changed : Int32} {i_read : Int32} {i_newRows : Int32} {i_newEntries : Int32} {i_newColumns : Int32} {i_greatest : Int32} {a_newAt : Nat → Int32} {i_partings : Int32} {a_lowSet : Nat → Int32} {a_highSet : Nat → Int32} {i_leastMany : Int32} {a_leastAt : Nat → Int32} {a_tried : Nat → Int32} {a_keptLow : Nat → Int64} {a_keptHigh : Nat → Int64} {i_laid : Int32} {a_wants : Nat → Int32} {i_wide : Int32} {a_wideAsked : Nat → Int32} {a_wideOnes : Nat → Int32} {i_sum : Int32} {i_flickers : Int32} {a_sumAt : Nat → Int32} {j_h : Int64} {A : Nat → Prop} {post : Int32 → (Nat → Int32) → Prop} {x1 : Int32} {x2 : Int32} (hw : wp_X10_addSum post i_wide a_wideAsked a_wideOnes i_sum a_sumAt x1 x2) : Met l yX10_addSum (Cond.code yX10_addSum cX10_addSum 6 none :: wsL_law) (rmH 1) (va_Pc [.ref (q 0), .int x1, .int x2] (fun U => va_P D vwCl (wM q cA i_pageLength a_page i_states i_columns a_entries i_signals a_signalAt i_walksAt i_turned i_changed i_read i_newRows i_newEntries i_newColumns i_greatest a_newAt i_partings a_lowSet a_highSet i_leastMany a_leastAt a_tried a_keptLow a_keptHigh i_laid a_wants i_wide a_wideAsked a_wideOnes i_sum i_flickers a_sumAt j_h) U.heap ∧ va_K D vwCl (tyM cA) U ∧ va_D A (wM q cA i_pageLength a_page i_states i_columns a_entries i_signals a_signalAt i_walksAt i_turned i_changed i_read i_newRows i_newEntries i_newColumns i_greatest a_newAt i_partings a_lowSet a_highSet i_leastMany a_leastAt a_tried a_keptLow a_keptHigh i_laid a_wants i_wide a_wideAsked a_wideOnes i_sum i_flickers a_sumAt j_h))) (qWv (Z_X10_addSum D q cA i_pageLength a_page i_states i_columns a_entries i_signals a_signalAt i_walksAt i_turned i_changed i_read i_newRows i_newEntries i_newColumns i_greatest a_newAt i_partings a_lowSet a_highSet i_leastMany a_leastAt a_tried a_keptLow a_keptHigh i_laid a_wants i_wide a_wideAsked a_wideOnes i_flickers j_h post) A) 0 0 A := by
  refine Met.ofW (cc := cX10_addSum) (maxL := 6) (ret := none) (by decide) rfl ?_
  intro p e s m args below meth c s₁ B hml hv
  obtain ⟨rfl, hP, hK, hD⟩ := hv
  have X : kC p (headSpec (Cond.code yX10_addSum cX10_addSum 6 none :: wsL_law) (rmH 1)).room s m _ meth c cX10_addSum RX10 6 none 1 := ⟨B.exec, B.bytes, hml, findClass_of_methodNamed B.named, fun w h => atoms_spec (ws := Cond.code yX10_addSum cX10_addSum 6 none :: wsL_law) B.pre w (List.mem_cons_of_mem _ h), B.returns, B.notSynchronized, Nat.le_refl _, Nat.le_refl _⟩
  obtain ⟨hx, hb, hml, hown, hts, hr, hlocks, hRf, hRl⟩ := id X
  have hS : va_S A s.heap s.heap [] := va_S.rf
  have hl := lv_entry ([.ref (q 0), .int x1, .int x2]) (n := 6) (Nat.le_of_ble_eq_true rfl)
  rw [lg_entry_eq]
  generalize (lg_sl ([.ref (q 0), .int x1, .int x2]) ++ List.replicate (6 - (lg_sl ([.ref (q 0), .int x1, .int x2])).length) Slot.unset).toArray = ls at hl ⊢
  have hl : lv_has ls 6 [(0, .ref (q 0)), (1, .int x1), (2, .int x2)] := hl
  refine lv_iconst (v := ((-1) : Int32)) hx hb dX10_addSum_0 (by decide) ?_
  refine lv_istore_n (lv' := [(3, .int ((-1) : Int32)), (0, .ref (q 0)), (1, .int x1), (2, .int x2)]) hx hb dX10_addSum_1 rfl hl (by decide) rfl (fun ls hl => ?_)
  refine lv_iconst (v := (0 : Int32)) hx hb dX10_addSum_2 (by decide) ?_
  refine lv_istore (lv' := [(4, .int (0 : Int32)), (3, .int ((-1) : Int32)), (0, .ref (q 0)), (1, .int x1), (2, .int x2)]) hx hb dX10_addSum_3 hl (by decide) rfl (fun ls hl => ?_)
  obtain ⟨n_21, hw⟩ := hw
  refine t_X10_addSum_5 X hK (fun x3_21 hw ls H locs hl hP hD hS => ?_) n_21 _ _ hw ls _ _ (lv_sub hl [2, 3, 4, 1, 0] rfl) hP hD hS
  refine lv_aload_n hx hb dX10_addSum_108 rfl (lv_at hl 0 rfl) ?_
  refine gRX10_57 hx hb hown hts hK hP dX10_addSum_109 ?_
  refine lv_aload_n hx hb dX10_addSum_112 rfl (lv_at hl 0 rfl) ?_
  refine gRX10_232 hx hb hown hts hK hP dX10_addSum_113 ?_
  refine lv_iload_n hx hb dX10_addSum_116 rfl (lv_at hl 1 rfl) ?_
  have h_22 := hw.1
  have hw := hw.2
  refine st_a_sumAt hx hb hK hP hD hS h_22 dX10_addSum_117 (fun H locs a_22 e_22 hP hD hS => ?_)
  have hw := hw a_22 e_22
  refine lv_aload_n hx hb dX10_addSum_118 rfl (lv_at hl 0 rfl) ?_
  refine lv_dup hx hb dX10_addSum_119 rfl ?_
  refine gRX10_232 hx hb hown hts hK hP dX10_addSum_120 ?_
  refine lv_iconst (v := (1 : Int32)) hx hb dX10_addSum_123 (by decide) ?_
  refine lv_iadd hx hb dX10_addSum_124 ?_
  refine lv_topi (fun f_23 e_23 => ?_)
  have hw := hw f_23 e_23
  refine pRX10_232 hx hb hown hts hK hP hD hS dX10_addSum_125 (fun H locs hP hD hS => ?_)
  exact rw_v hx hb hr hlocks (fun t ht => ⟨f_23, a_22, hw, by rw [ht]; exact hP⟩) hS dX10_addSum_128
abbrev Z_X10_layFlickers (D : va_G) (q : Nat → Nat) (cA : Nat → ClassId) (i_pageLength : Int32) (a_page : Nat → Int32) (i_states : Int32) (i_columns : Int32) (a_entries : Nat → Int32) (i_signals : Int32) (a_signalAt : Nat → Int32) (i_walksAt : Int32) (i_turned : Int32) (i_changed : Int32) (i_read : Int32) (i_newRows : Int32) (i_newEntries : Int32) (i_newColumns : Int32) (i_greatest : Int32) (a_newAt : Nat → Int32) (i_partings : Int32) (a_lowSet : Nat → Int32) (a_highSet : Nat → Int32) (i_leastMany : Int32) (a_leastAt : Nat → Int32) (a_tried : Nat → Int32) (a_keptLow : Nat → Int64) (a_keptHigh : Nat → Int64) (i_laid : Int32) (a_wants : Nat → Int32) (i_wide : Int32) (a_wideAsked : Nat → Int32) (a_wideOnes : Nat → Int32) (j_h : Int64) (post : Int32 → Int32 → (Nat → Int32) → Prop) : State → Prop := fun t => ∃ (y_i_sum : Int32) (y_i_flickers : Int32) (y_a_sumAt : Nat → Int32), post y_i_sum y_i_flickers y_a_sumAt ∧ va_P D vwCl (wM q cA i_pageLength a_page i_states i_columns a_entries i_signals a_signalAt i_walksAt i_turned i_changed i_read i_newRows i_newEntries i_newColumns i_greatest a_newAt i_partings a_lowSet a_highSet i_leastMany a_leastAt a_tried a_keptLow a_keptHigh i_laid a_wants i_wide a_wideAsked a_wideOnes y_i_sum y_i_flickers y_a_sumAt j_h) t.heap
set_option maxHeartbeats 4000000 in
set_option maxRecDepth 100000 in
theorem t_X10_layFlickers_2 {p : Program} {l : Launch} {e : Env} {R : Room} {s : State} {m : MethodId} {args : Array Value} {below : List Frame} {meth : Method} {c : Code} {A : Nat → Prop} {D : va_G} {q : Nat → Nat} {cA : Nat → ClassId} {i_pageLength : Int32} {a_page : Nat → Int32} {i_states : Int32} {i_columns : Int32} {a_entries : Nat → Int32} {i_signals : Int32} {a_signalAt : Nat → Int32} {i_walksAt : Int32} {i_turned : Int32} {i_changed : Int32} {i_read : Int32} {i_newRows : Int32} {i_newEntries : Int32} {i_newColumns : Int32} {i_greatest : Int32} {a_newAt : Nat → Int32} {i_partings : Int32} {a_lowSet : Nat → Int32} {a_highSet : Nat → Int32} {i_leastMany : Int32} {a_leastAt : Nat → Int32} {a_tried : Nat → Int32} {a_keptLow : Nat → Int64} {a_keptHigh : Nat → Int64} {i_laid : Int32} {a_wants : Nat → Int32} {i_wide : Int32} {a_wideAsked : Nat → Int32} {a_wideOnes : Nat → Int32} {j_h : Int64} {post : Int32 → Int32 → (Nat → Int32) → Prop} {KE : Int32 → Int32 → (Nat → Int32) → Prop} {x1 : Int32} (X : kC p R s m args meth c cX10_layFlickers RX10 4 none 2) (hK : va_K D vwCl (tyM cA) s) (hE : ∀ (i_sum : Int32) (i_flickers : Int32) (a_sumAt : Nat → Int32), KE i_sum i_flickers a_sumAt → ∀ (ls : Array Slot) (H : Heap) (locs : List Loc), lv_has ls 4 [] → va_P D vwCl (wM q cA i_pageLength a_page i_states i_columns a_entries i_signals a_signalAt i_walksAt i_turned i_changed i_read i_newRows i_newEntries i_newColumns i_greatest a_newAt i_partings a_lowSet a_highSet i_leastMany a_leastAt a_tried a_keptLow a_keptHigh i_laid a_wants i_wide a_wideAsked a_wideOnes i_sum i_flickers a_sumAt j_h) H → va_D A (wM q cA i_pageLength a_page i_states i_columns a_entries i_signals a_signalAt i_walksAt i_turned i_changed i_read i_newRows i_newEntries i_newColumns i_greatest a_newAt i_partings a_lowSet a_highSet i_leastMany a_leastAt a_tried a_keptLow a_keptHigh i_laid a_wants i_wide a_wideAsked a_wideOnes i_sum i_flickers a_sumAt j_h) → va_S A s.heap H locs → W p l e R s m args below meth c H locs 0 0 (MQ below (qWv (Z_X10_layFlickers D q cA i_pageLength a_page i_states i_columns a_entries i_signals a_signalAt i_walksAt i_turned i_changed i_read i_newRows i_newEntries i_newColumns i_greatest a_newAt i_partings a_lowSet a_highSet i_leastMany a_leastAt a_tried a_keptLow a_keptHigh i_laid a_wants i_wide a_wideAsked a_wideOnes j_h post) A) args s 0 0 A) (F0 m 74 ls [])) : ∀ (n : Nat) (x2 : Int32) (i_sum : Int32) (i_flickers : Int32) (a_sumAt : Nat → Int32), w_X10_layFlickers_2 KE i_signals a_wants i_wide a_wideAsked a_wideOnes x1 n x2 i_sum i_flickers a_sumAt → ∀ (ls : Array Slot) (H : Heap) (locs : List Loc), lv_has ls 4 [(0, .ref (q 0)), (1, .int x1), (2, .int x2)] → va_P D vwCl (wM q cA i_pageLength a_page i_states i_columns a_entries i_signals a_signalAt i_walksAt i_turned i_changed i_read i_newRows i_newEntries i_newColumns i_greatest a_newAt i_partings a_lowSet a_highSet i_leastMany a_leastAt a_tried a_keptLow a_keptHigh i_laid a_wants i_wide a_wideAsked a_wideOnes i_sum i_flickers a_sumAt j_h) H → va_D A (wM q cA i_pageLength a_page i_states i_columns a_entries i_signals a_signalAt i_walksAt i_turned i_changed i_read i_newRows i_newEntries i_newColumns i_greatest a_newAt i_partings a_lowSet a_highSet i_leastMany a_leastAt a_tried a_keptLow a_keptHigh i_laid a_wants i_wide a_wideAsked a_wideOnes i_sum i_flickers a_sumAt j_h) → va_S A s.heap H locs → W p l e R s m args below meth c H locs 0 0 (MQ below (qWv (Z_X10_layFlickers D q cA i_pageLength a_page i_states i_columns a_entries i_signals a_signalAt i_walksAt i_turned i_changed i_read i_newRows i_newEntries i_newColumns i_greatest a_newAt i_partings a_lowSet a_highSet i_leastMany a_leastAt a_tried a_keptLow a_keptHigh i_laid a_wants i_wide a_wideAsked a_wideOnes j_h post) A) args s 0 0 A) (F0 m 2 ls []) := by
  obtain ⟨hx, hb, hml, hown, hts, hr, hlocks, hRf, hRl⟩ := id X
  intro n
  induction n with
  | zero => intro x2 i_sum i_flickers a_sumAt hw; exact (show False from hw).elim
  | succ n ih =>
    intro x2 i_sum i_flickers a_sumAt hw ls H locs hl hP hD hS
    refine lv_iload_n hx hb dX10_layFlickers_2 rfl (lv_at hl 2 rfl) ?_
    refine lv_aload_n hx hb dX10_layFlickers_3 rfl (lv_at hl 0 rfl) ?_
    refine gRX10_99 hx hb hown hts hK hP dX10_layFlickers_4 ?_
    refine lv_iconst (v := (2 : Int32)) hx hb dX10_layFlickers_7 (by decide) ?_
    refine lv_iadd hx hb dX10_layFlickers_8 ?_
    refine lv_icmp_ge (tgt := 74) hx hb dX10_layFlickers_9 (by decide) (fun c_1 => ?_) (fun c_1 => ?_)
    · have hw := hw.1 c_1
      exact hE _ _ _ hw ls _ _ (lv_sub hl [] rfl) hP hD hS
    · have hw := hw.2 c_1
      refine lv_iload_n hx hb dX10_layFlickers_12 rfl (lv_at hl 1 rfl) ?_
      refine lv_iconst (v := (1 : Int32)) hx hb dX10_layFlickers_13 (by decide) ?_
      refine lv_iload_n hx hb dX10_layFlickers_14 rfl (lv_at hl 2 rfl) ?_
      refine lv_ishl hx hb dX10_layFlickers_15 ?_
      refine lv_ior hx hb dX10_layFlickers_16 ?_
      refine lv_topi (fun x3_2 e_2 => ?_)
      have hw := hw x3_2 e_2
      refine lv_istore_n (lv' := [(3, .int x3_2), (0, .ref (q 0)), (1, .int x1), (2, .int x2)]) hx hb dX10_layFlickers_17 rfl hl (by decide) rfl (fun ls hl => ?_)
      refine lv_iload_n hx hb dX10_layFlickers_18 rfl (lv_at hl 0 rfl) ?_
      refine lv_iload_n hx hb dX10_layFlickers_19 rfl (lv_at hl 2 rfl) ?_
      refine lv_icmp_eq (tgt := 68) hx hb dX10_layFlickers_20 (by decide) (fun c_3 => ?_) (fun c_3 => ?_)
      · have hw := hw.1 c_3
        obtain ⟨x2_4, e_4⟩ : ∃ z : Int32, z = x2 + (1 : Int32) := ⟨_, rfl⟩
        have hw := hw x2_4 e_4
        refine lv_iinc (v := x2_4) (lv' := [(2, .int x2_4), (3, .int x3_2), (0, .ref (q 0)), (1, .int x1)]) hx hb dX10_layFlickers_68 hl (k := 3) rfl (by rw [e_4]; rfl) (by decide) rfl (fun ls hl => ?_)
        refine lv_goto (tgt := 2) hx hb dX10_layFlickers_71 (by decide) ?_
        exact ih _ _ _ _ hw ls _ _ (lv_sub hl [2, 3, 0] rfl) hP hD hS
      · have hw := hw.2 c_3
        refine lv_aload_n hx hb dX10_layFlickers_23 rfl (lv_at hl 1 rfl) ?_
        refine gRX10_48 hx hb hown hts hK hP dX10_layFlickers_24 ?_
        refine lv_iload_n hx hb dX10_layFlickers_27 rfl (lv_at hl 2 rfl) ?_
        have h_5 := hw.1
        have hw := hw.2
        refine ld_a_wants hx hb hK hP h_5 dX10_layFlickers_28 ?_
        refine lv_iconst (v := (1 : Int32)) hx hb dX10_layFlickers_29 (by decide) ?_
        refine lv_icmp_ne (tgt := 68) hx hb dX10_layFlickers_30 (by decide) (fun c_6 => ?_) (fun c_6 => ?_)
        · have hw := hw.2 c_6
          obtain ⟨x2_7, e_7⟩ : ∃ z : Int32, z = x2 + (1 : Int32) := ⟨_, rfl⟩
          have hw := hw x2_7 e_7
          refine lv_iinc (v := x2_7) (lv' := [(2, .int x2_7), (3, .int x3_2), (0, .ref (q 0)), (1, .int x1)]) hx hb dX10_layFlickers_68 hl (k := 3) rfl (by rw [e_7]; rfl) (by decide) rfl (fun ls hl => ?_)
          refine lv_goto (tgt := 2) hx hb dX10_layFlickers_71 (by decide) ?_
          exact ih _ _ _ _ hw ls _ _ (lv_sub hl [2, 3, 0] rfl) hP hD hS
        · have hw := hw.1 c_6
          refine lv_aload_n hx hb dX10_layFlickers_33 rfl (lv_at hl 1 rfl) ?_
          refine gRX10_48 hx hb hown hts hK hP dX10_layFlickers_34 ?_
          refine lv_iload_n hx hb dX10_layFlickers_37 rfl (lv_at hl 0 rfl) ?_
          have h_8 := hw.1
          have hw := hw.2
          refine ld_a_wants hx hb hK hP h_8 dX10_layFlickers_38 ?_
          refine lv_iconst (v := (1 : Int32)) hx hb dX10_layFlickers_39 (by decide) ?_
          refine lv_icmp_ne (tgt := 68) hx hb dX10_layFlickers_40 (by decide) (fun c_9 => ?_) (fun c_9 => ?_)
          · have hw := hw.2 c_9
            obtain ⟨x2_10, e_10⟩ : ∃ z : Int32, z = x2 + (1 : Int32) := ⟨_, rfl⟩
            have hw := hw x2_10 e_10
            refine lv_iinc (v := x2_10) (lv' := [(2, .int x2_10), (3, .int x3_2), (0, .ref (q 0)), (1, .int x1)]) hx hb dX10_layFlickers_68 hl (k := 3) rfl (by rw [e_10]; rfl) (by decide) rfl (fun ls hl => ?_)
            refine lv_goto (tgt := 2) hx hb dX10_layFlickers_71 (by decide) ?_
            exact ih _ _ _ _ hw ls _ _ (lv_sub hl [2, 3, 0] rfl) hP hD hS
          · have hw := hw.1 c_9
            refine lv_aload_n hx hb dX10_layFlickers_43 rfl (lv_at hl 1 rfl) ?_
            refine lv_iload_n hx hb dX10_layFlickers_44 rfl (lv_at hl 2 rfl) ?_
            refine lv_iload_n hx hb dX10_layFlickers_45 rfl (lv_at hl 0 rfl) ?_
            refine ro_i (va_runV (As := [.int x1, .int x3_2]) (rest := []) ⟨hx, hb, hml, hown, hts⟩ (c_X10_isSummed l hw) (kRX10_235 (h := 1) hts (Nat.le_trans (Nat.le_of_ble_eq_true rfl) hRf) (Nat.le_trans (Nat.le_of_ble_eq_true rfl) hRl)) (preM hK hP) rfl rfl hl.1 rfl (lv_room (Nat.le_of_ble_eq_true rfl)) dX10_layFlickers_46 ⟨Nat.zero_le _, Nat.zero_le _⟩) (fun r_11 hw => ?_)
            refine lv_if_ne (tgt := 68) hx hb dX10_layFlickers_49 (by decide) (fun c_12 => ?_) (fun c_12 => ?_)
            · have hw := hw.2 c_12
              obtain ⟨x2_13, e_13⟩ : ∃ z : Int32, z = x2 + (1 : Int32) := ⟨_, rfl⟩
              have hw := hw x2_13 e_13
              refine lv_iinc (v := x2_13) (lv' := [(2, .int x2_13), (3, .int x3_2), (0, .ref (q 0)), (1, .int x1)]) hx hb dX10_layFlickers_68 hl (k := 3) rfl (by rw [e_13]; rfl) (by decide) rfl (fun ls hl => ?_)
              refine lv_goto (tgt := 2) hx hb dX10_layFlickers_71 (by decide) ?_
              exact ih _ _ _ _ hw ls _ _ (lv_sub hl [2, 3, 0] rfl) hP hD hS
            · have hw := hw.1 c_12
              refine lv_aload_n hx hb dX10_layFlickers_52 rfl (lv_at hl 1 rfl) ?_
              refine lv_iload_n hx hb dX10_layFlickers_53 rfl (lv_at hl 2 rfl) ?_
              refine lv_iload_n hx hb dX10_layFlickers_54 rfl (lv_at hl 0 rfl) ?_
              refine wr_v (va_runV (As := [.int x1, .int x3_2]) (rest := []) ⟨hx, hb, hml, hown, hts⟩ (c_X10_addSum l hw) (kRX10_238 (h := 1) hts (Nat.le_trans (Nat.le_of_ble_eq_true rfl) hRf) (Nat.le_trans (Nat.le_of_ble_eq_true rfl) hRl)) (preMw hK hP hD) rfl rfl hl.1 rfl (lv_room (Nat.le_of_ble_eq_true rfl)) dX10_layFlickers_55 ⟨Nat.zero_le _, Nat.zero_le _⟩) hS (fun t H locs ht hw hS => ?_)
              obtain ⟨ysum_14, ysumAt_14, hw, hP⟩ := hw
              rw [ht] at hP
              have hP : va_P D vwCl (wM q cA i_pageLength a_page i_states i_columns a_entries i_signals a_signalAt i_walksAt i_turned i_changed i_read i_newRows i_newEntries i_newColumns i_greatest a_newAt i_partings a_lowSet a_highSet i_leastMany a_leastAt a_tried a_keptLow a_keptHigh i_laid a_wants i_wide a_wideAsked a_wideOnes ysum_14 i_flickers ysumAt_14 j_h) H := hP
              have hD : va_D A (wM q cA i_pageLength a_page i_states i_columns a_entries i_signals a_signalAt i_walksAt i_turned i_changed i_read i_newRows i_newEntries i_newColumns i_greatest a_newAt i_partings a_lowSet a_highSet i_leastMany a_leastAt a_tried a_keptLow a_keptHigh i_laid a_wants i_wide a_wideAsked a_wideOnes ysum_14 i_flickers ysumAt_14 j_h) := dM hD
              refine lv_aload_n hx hb dX10_layFlickers_58 rfl (lv_at hl 1 rfl) ?_
              refine lv_dup hx hb dX10_layFlickers_59 rfl ?_
              refine gRX10_241 hx hb hown hts hK hP dX10_layFlickers_60 ?_
              refine lv_iconst (v := (1 : Int32)) hx hb dX10_layFlickers_63 (by decide) ?_
              refine lv_iadd hx hb dX10_layFlickers_64 ?_
              refine lv_topi (fun f_15 e_15 => ?_)
              have hw := hw f_15 e_15
              refine pRX10_241 hx hb hown hts hK hP hD hS dX10_layFlickers_65 (fun H locs hP hD hS => ?_)
              obtain ⟨x2_16, e_16⟩ : ∃ z : Int32, z = x2 + (1 : Int32) := ⟨_, rfl⟩
              have hw := hw x2_16 e_16
              refine lv_iinc (v := x2_16) (lv' := [(2, .int x2_16), (3, .int x3_2), (0, .ref (q 0)), (1, .int x1)]) hx hb dX10_layFlickers_68 hl (k := 3) rfl (by rw [e_16]; rfl) (by decide) rfl (fun ls hl => ?_)
              refine lv_goto (tgt := 2) hx hb dX10_layFlickers_71 (by decide) ?_
              exact ih _ _ _ _ hw ls _ _ (lv_sub hl [2, 3, 0] rfl) hP hD hS
set_option maxHeartbeats 4000000 in
set_option maxRecDepth 100000 in
theorem c_X10_layFlickers (l : Launch) {D : va_G} {q : Nat → Nat} {cA : Nat → ClassId} {i_pageLength : Int32} {a_page : Nat → Int32} {i_states : Int32} {i_columns : Int32} {a_entries : Nat → Int32} {i_signals : Int32} {a_signalAt : Nat → Int32} {i_walksAt : Int32} {i_turned : Int32} {i_changed : Int32} {i_read : Int32} {i_newRows : Int32} {i_newEntries : Int32} {i_newColumns : Int32} {i_greatest : Int32} {a_newAt : Nat → Int32} {i_partings : Int32} {a_lowSet : Nat → Int32} {a_highSet : Nat → Int32} {i_leastMany : Int32} {a_leastAt : Nat → Int32} {a_tried : Nat → Int32} {a_keptLow : Nat → Int64} {a_keptHigh : Nat → Int64} {i_laid : Int32} {a_wants : Nat → Int32} {i_wide : Int32} {a_wideAsked : Nat → Int32} {a_wideOnes : Nat → Int32} {i_sum : Int32} {i_flickers : Int32} {a_sumAt : Nat → Int32} {j_h : Int64} {A : Nat → Prop} {post : Int32 → Int32 → (Nat → Int32) → Prop} {x1 : Int32} (hw : wp_X10_layFlickers post i_signals a_wants i_wide a_wideAsked a_wideOnes i_sum i_flickers a_sumAt x1) : Met l yX10_layFlickers (Cond.code yX10_layFlickers cX10_layFlickers 4 none :: wsL_law) (rmH 2) (va_Pc [.ref (q 0), .int x1] (fun U => va_P D vwCl (wM q cA i_pageLength a_page i_states i_columns a_entries i_signals a_signalAt i_walksAt i_turned i_changed i_read i_newRows i_newEntries i_newColumns i_greatest a_newAt i_partings a_lowSet a_highSet i_leastMany a_leastAt a_tried a_keptLow a_keptHigh i_laid a_wants i_wide a_wideAsked a_wideOnes i_sum i_flickers a_sumAt j_h) U.heap ∧ va_K D vwCl (tyM cA) U ∧ va_D A (wM q cA i_pageLength a_page i_states i_columns a_entries i_signals a_signalAt i_walksAt i_turned i_changed i_read i_newRows i_newEntries i_newColumns i_greatest a_newAt i_partings a_lowSet a_highSet i_leastMany a_leastAt a_tried a_keptLow a_keptHigh i_laid a_wants i_wide a_wideAsked a_wideOnes i_sum i_flickers a_sumAt j_h))) (qWv (Z_X10_layFlickers D q cA i_pageLength a_page i_states i_columns a_entries i_signals a_signalAt i_walksAt i_turned i_changed i_read i_newRows i_newEntries i_newColumns i_greatest a_newAt i_partings a_lowSet a_highSet i_leastMany a_leastAt a_tried a_keptLow a_keptHigh i_laid a_wants i_wide a_wideAsked a_wideOnes j_h post) A) 0 0 A := by
  refine Met.ofW (cc := cX10_layFlickers) (maxL := 4) (ret := none) (by decide) rfl ?_
  intro p e s m args below meth c s₁ B hml hv
  obtain ⟨rfl, hP, hK, hD⟩ := hv
  have X : kC p (headSpec (Cond.code yX10_layFlickers cX10_layFlickers 4 none :: wsL_law) (rmH 2)).room s m _ meth c cX10_layFlickers RX10 4 none 2 := ⟨B.exec, B.bytes, hml, findClass_of_methodNamed B.named, fun w h => atoms_spec (ws := Cond.code yX10_layFlickers cX10_layFlickers 4 none :: wsL_law) B.pre w (List.mem_cons_of_mem _ h), B.returns, B.notSynchronized, Nat.le_refl _, Nat.le_refl _⟩
  obtain ⟨hx, hb, hml, hown, hts, hr, hlocks, hRf, hRl⟩ := id X
  have hS : va_S A s.heap s.heap [] := va_S.rf
  have hl := lv_entry ([.ref (q 0), .int x1]) (n := 4) (Nat.le_of_ble_eq_true rfl)
  rw [lg_entry_eq]
  generalize (lg_sl ([.ref (q 0), .int x1]) ++ List.replicate (4 - (lg_sl ([.ref (q 0), .int x1])).length) Slot.unset).toArray = ls at hl ⊢
  have hl : lv_has ls 4 [(0, .ref (q 0)), (1, .int x1)] := hl
  refine lv_iconst (v := (0 : Int32)) hx hb dX10_layFlickers_0 (by decide) ?_
  refine lv_istore_n (lv' := [(2, .int (0 : Int32)), (0, .ref (q 0)), (1, .int x1)]) hx hb dX10_layFlickers_1 rfl hl (by decide) rfl (fun ls hl => ?_)
  obtain ⟨n_17, hw⟩ := hw
  refine t_X10_layFlickers_2 X hK (fun ysum_17 yflickers_17 ysumAt_17 hw ls H locs hl hP hD hS => ?_) n_17 _ _ _ _ hw ls _ _ (lv_sub hl [1, 2, 0] rfl) hP hD hS
  exact rw_v hx hb hr hlocks (fun t ht => ⟨ysum_17, yflickers_17, ysumAt_17, hw, by rw [ht]; exact hP⟩) hS dX10_layFlickers_74
abbrev Z_X10_laySignal (D : va_G) (q : Nat → Nat) (cA : Nat → ClassId) (i_pageLength : Int32) (a_page : Nat → Int32) (i_states : Int32) (i_columns : Int32) (a_entries : Nat → Int32) (i_signals : Int32) (a_signalAt : Nat → Int32) (i_walksAt : Int32) (i_turned : Int32) (i_changed : Int32) (i_read : Int32) (i_newRows : Int32) (i_newEntries : Int32) (i_newColumns : Int32) (i_greatest : Int32) (a_newAt : Nat → Int32) (i_partings : Int32) (a_lowSet : Nat → Int32) (a_highSet : Nat → Int32) (i_leastMany : Int32) (a_leastAt : Nat → Int32) (a_tried : Nat → Int32) (a_keptLow : Nat → Int64) (a_keptHigh : Nat → Int64) (j_h : Int64) (post : Int32 → (Nat → Int32) → Int32 → (Nat → Int32) → (Nat → Int32) → Int32 → Int32 → (Nat → Int32) → Prop) : State → Prop := fun t => ∃ (y_i_laid : Int32) (y_a_wants : Nat → Int32) (y_i_wide : Int32) (y_a_wideAsked : Nat → Int32) (y_a_wideOnes : Nat → Int32) (y_i_sum : Int32) (y_i_flickers : Int32) (y_a_sumAt : Nat → Int32), post y_i_laid y_a_wants y_i_wide y_a_wideAsked y_a_wideOnes y_i_sum y_i_flickers y_a_sumAt ∧ va_P D vwCl (wM q cA i_pageLength a_page i_states i_columns a_entries i_signals a_signalAt i_walksAt i_turned i_changed i_read i_newRows i_newEntries i_newColumns i_greatest a_newAt i_partings a_lowSet a_highSet i_leastMany a_leastAt a_tried a_keptLow a_keptHigh y_i_laid y_a_wants y_i_wide y_a_wideAsked y_a_wideOnes y_i_sum y_i_flickers y_a_sumAt j_h) t.heap
set_option maxHeartbeats 4000000 in
set_option maxRecDepth 100000 in
theorem t_X10_laySignal_16 {p : Program} {l : Launch} {e : Env} {R : Room} {s : State} {m : MethodId} {args : Array Value} {below : List Frame} {meth : Method} {c : Code} {A : Nat → Prop} {D : va_G} {q : Nat → Nat} {cA : Nat → ClassId} {i_pageLength : Int32} {a_page : Nat → Int32} {i_states : Int32} {i_columns : Int32} {a_entries : Nat → Int32} {i_signals : Int32} {a_signalAt : Nat → Int32} {i_walksAt : Int32} {i_turned : Int32} {i_changed : Int32} {i_read : Int32} {i_newRows : Int32} {i_newEntries : Int32} {i_newColumns : Int32} {i_greatest : Int32} {a_newAt : Nat → Int32} {i_partings : Int32} {a_lowSet : Nat → Int32} {a_highSet : Nat → Int32} {i_leastMany : Int32} {a_leastAt : Nat → Int32} {a_tried : Nat → Int32} {a_keptLow : Nat → Int64} {a_keptHigh : Nat → Int64} {i_laid : Int32} {i_wide : Int32} {a_wideAsked : Nat → Int32} {a_wideOnes : Nat → Int32} {i_sum : Int32} {i_flickers : Int32} {a_sumAt : Nat → Int32} {j_h : Int64} {post : Int32 → (Nat → Int32) → Int32 → (Nat → Int32) → (Nat → Int32) → Int32 → Int32 → (Nat → Int32) → Prop} {KE : (Nat → Int32) → Prop} {x1 : Int32} (X : kC p R s m args meth c cX10_laySignal RX10 3 none 4) (hK : va_K D vwCl (tyM cA) s) (hE : ∀ (a_wants : Nat → Int32), KE a_wants → ∀ (ls : Array Slot) (H : Heap) (locs : List Loc), lv_has ls 3 [(0, .ref (q 0))] → va_P D vwCl (wM q cA i_pageLength a_page i_states i_columns a_entries i_signals a_signalAt i_walksAt i_turned i_changed i_read i_newRows i_newEntries i_newColumns i_greatest a_newAt i_partings a_lowSet a_highSet i_leastMany a_leastAt a_tried a_keptLow a_keptHigh i_laid a_wants i_wide a_wideAsked a_wideOnes i_sum i_flickers a_sumAt j_h) H → va_D A (wM q cA i_pageLength a_page i_states i_columns a_entries i_signals a_signalAt i_walksAt i_turned i_changed i_read i_newRows i_newEntries i_newColumns i_greatest a_newAt i_partings a_lowSet a_highSet i_leastMany a_leastAt a_tried a_keptLow a_keptHigh i_laid a_wants i_wide a_wideAsked a_wideOnes i_sum i_flickers a_sumAt j_h) → va_S A s.heap H locs → W p l e R s m args below meth c H locs 0 0 (MQ below (qWv (Z_X10_laySignal D q cA i_pageLength a_page i_states i_columns a_entries i_signals a_signalAt i_walksAt i_turned i_changed i_read i_newRows i_newEntries i_newColumns i_greatest a_newAt i_partings a_lowSet a_highSet i_leastMany a_leastAt a_tried a_keptLow a_keptHigh j_h post) A) args s 0 0 A) (F0 m 42 ls [])) : ∀ (n : Nat) (x2 : Int32) (a_wants : Nat → Int32), w_X10_laySignal_16 KE i_states i_columns a_entries i_signals a_signalAt x1 n x2 a_wants → ∀ (ls : Array Slot) (H : Heap) (locs : List Loc), lv_has ls 3 [(0, .ref (q 0)), (1, .int x1), (2, .int x2)] → va_P D vwCl (wM q cA i_pageLength a_page i_states i_columns a_entries i_signals a_signalAt i_walksAt i_turned i_changed i_read i_newRows i_newEntries i_newColumns i_greatest a_newAt i_partings a_lowSet a_highSet i_leastMany a_leastAt a_tried a_keptLow a_keptHigh i_laid a_wants i_wide a_wideAsked a_wideOnes i_sum i_flickers a_sumAt j_h) H → va_D A (wM q cA i_pageLength a_page i_states i_columns a_entries i_signals a_signalAt i_walksAt i_turned i_changed i_read i_newRows i_newEntries i_newColumns i_greatest a_newAt i_partings a_lowSet a_highSet i_leastMany a_leastAt a_tried a_keptLow a_keptHigh i_laid a_wants i_wide a_wideAsked a_wideOnes i_sum i_flickers a_sumAt j_h) → va_S A s.heap H locs → W p l e R s m args below meth c H locs 0 0 (MQ below (qWv (Z_X10_laySignal D q cA i_pageLength a_page i_states i_columns a_entries i_signals a_signalAt i_walksAt i_turned i_changed i_read i_newRows i_newEntries i_newColumns i_greatest a_newAt i_partings a_lowSet a_highSet i_leastMany a_leastAt a_tried a_keptLow a_keptHigh j_h post) A) args s 0 0 A) (F0 m 16 ls []) := by
  obtain ⟨hx, hb, hml, hown, hts, hr, hlocks, hRf, hRl⟩ := id X
  intro n
  induction n with
  | zero => intro x2 a_wants hw; exact (show False from hw).elim
  | succ n ih =>
    intro x2 a_wants hw ls H locs hl hP hD hS
    have hw : (wp_X10_points (fun (r_2 : Int32) => ((r_2 ≤ x2 → KE a_wants) ∧ (¬ r_2 ≤ x2 → (wp_X10_wantedAt (fun (r_4 : Int32) => (vp_in x2 128 ∧ ∀ a_5 : Nat → Int32, a_5 = upd a_wants x2.toNatClampNeg r_4 → (∀ x2_6 : Int32, x2_6 = x2 + (1 : Int32) → w_X10_laySignal_16 KE i_states i_columns a_entries i_signals a_signalAt x1 n x2_6 a_5))) i_states i_columns a_entries i_signals a_signalAt x1 x2)))) i_signals) := hw
    refine lv_iload_n hx hb dX10_laySignal_16 rfl (lv_at hl 2 rfl) ?_
    refine lv_aload_n hx hb dX10_laySignal_17 rfl (lv_at hl 0 rfl) ?_
    refine ro_i (va_runV (As := []) (rest := [.int x2]) ⟨hx, hb, hml, hown, hts⟩ (c_X10_points l hw) (kRX10_211 (h := 0) hts (Nat.le_trans (Nat.le_of_ble_eq_true rfl) hRf) (Nat.le_trans (Nat.le_of_ble_eq_true rfl) hRl)) (preM hK hP) rfl rfl hl.1 rfl (lv_room (Nat.le_of_ble_eq_true rfl)) dX10_laySignal_18 ⟨Nat.zero_le _, Nat.zero_le _⟩) (fun r_2 hw => ?_)
    refine lv_icmp_ge (tgt := 42) hx hb dX10_laySignal_21 (by decide) (fun c_3 => ?_) (fun c_3 => ?_)
    · have hw := hw.1 c_3
      exact hE _ hw ls _ _ (lv_sub hl [0] rfl) hP hD hS
    · have hw := hw.2 c_3
      refine lv_aload_n hx hb dX10_laySignal_24 rfl (lv_at hl 0 rfl) ?_
      refine gRX10_48 hx hb hown hts hK hP dX10_laySignal_25 ?_
      refine lv_iload_n hx hb dX10_laySignal_28 rfl (lv_at hl 2 rfl) ?_
      refine lv_aload_n hx hb dX10_laySignal_29 rfl (lv_at hl 0 rfl) ?_
      refine lv_iload_n hx hb dX10_laySignal_30 rfl (lv_at hl 1 rfl) ?_
      refine lv_iload_n hx hb dX10_laySignal_31 rfl (lv_at hl 2 rfl) ?_
      refine ro_i (va_runV (As := [.int x1, .int x2]) (rest := [.int x2, .ref (q 11)]) ⟨hx, hb, hml, hown, hts⟩ (c_X10_wantedAt l hw) (kRX10_214 (h := 2) hts (Nat.le_trans (Nat.le_of_ble_eq_true rfl) hRf) (Nat.le_trans (Nat.le_of_ble_eq_true rfl) hRl)) (preM hK hP) rfl rfl hl.1 rfl (lv_room (Nat.le_of_ble_eq_true rfl)) dX10_laySignal_32 ⟨Nat.zero_le _, Nat.zero_le _⟩) (fun r_4 hw => ?_)
      have h_5 := hw.1
      have hw := hw.2
      refine st_a_wants hx hb hK hP hD hS h_5 dX10_laySignal_35 (fun H locs a_5 e_5 hP hD hS => ?_)
      have hw := hw a_5 e_5
      obtain ⟨x2_6, e_6⟩ : ∃ z : Int32, z = x2 + (1 : Int32) := ⟨_, rfl⟩
      have hw := hw x2_6 e_6
      refine lv_iinc (v := x2_6) (lv' := [(2, .int x2_6), (0, .ref (q 0)), (1, .int x1)]) hx hb dX10_laySignal_36 hl (k := 2) rfl (by rw [e_6]; rfl) (by decide) rfl (fun ls hl => ?_)
      refine lv_goto (tgt := 16) hx hb dX10_laySignal_39 (by decide) ?_
      exact ih _ _ hw ls _ _ (lv_sub hl [1, 2, 0] rfl) hP hD hS
set_option maxHeartbeats 4000000 in
set_option maxRecDepth 100000 in
theorem t_X10_laySignal_58 {p : Program} {l : Launch} {e : Env} {R : Room} {s : State} {m : MethodId} {args : Array Value} {below : List Frame} {meth : Method} {c : Code} {A : Nat → Prop} {D : va_G} {q : Nat → Nat} {cA : Nat → ClassId} {i_pageLength : Int32} {a_page : Nat → Int32} {i_states : Int32} {i_columns : Int32} {a_entries : Nat → Int32} {i_signals : Int32} {a_signalAt : Nat → Int32} {i_walksAt : Int32} {i_turned : Int32} {i_changed : Int32} {i_read : Int32} {i_newRows : Int32} {i_newEntries : Int32} {i_newColumns : Int32} {i_greatest : Int32} {a_newAt : Nat → Int32} {i_partings : Int32} {a_lowSet : Nat → Int32} {a_highSet : Nat → Int32} {i_leastMany : Int32} {a_leastAt : Nat → Int32} {a_tried : Nat → Int32} {a_keptLow : Nat → Int64} {a_keptHigh : Nat → Int64} {i_laid : Int32} {a_wants : Nat → Int32} {i_wide : Int32} {a_wideAsked : Nat → Int32} {a_wideOnes : Nat → Int32} {i_flickers : Int32} {j_h : Int64} {post : Int32 → (Nat → Int32) → Int32 → (Nat → Int32) → (Nat → Int32) → Int32 → Int32 → (Nat → Int32) → Prop} {KE : Int32 → (Nat → Int32) → Prop} (X : kC p R s m args meth c cX10_laySignal RX10 3 none 4) (hK : va_K D vwCl (tyM cA) s) (hE : ∀ (i_sum : Int32) (a_sumAt : Nat → Int32), KE i_sum a_sumAt → ∀ (ls : Array Slot) (H : Heap) (locs : List Loc), lv_has ls 3 [(0, .ref (q 0))] → va_P D vwCl (wM q cA i_pageLength a_page i_states i_columns a_entries i_signals a_signalAt i_walksAt i_turned i_changed i_read i_newRows i_newEntries i_newColumns i_greatest a_newAt i_partings a_lowSet a_highSet i_leastMany a_leastAt a_tried a_keptLow a_keptHigh i_laid a_wants i_wide a_wideAsked a_wideOnes i_sum i_flickers a_sumAt j_h) H → va_D A (wM q cA i_pageLength a_page i_states i_columns a_entries i_signals a_signalAt i_walksAt i_turned i_changed i_read i_newRows i_newEntries i_newColumns i_greatest a_newAt i_partings a_lowSet a_highSet i_leastMany a_leastAt a_tried a_keptLow a_keptHigh i_laid a_wants i_wide a_wideAsked a_wideOnes i_sum i_flickers a_sumAt j_h) → va_S A s.heap H locs → W p l e R s m args below meth c H locs 0 0 (MQ below (qWv (Z_X10_laySignal D q cA i_pageLength a_page i_states i_columns a_entries i_signals a_signalAt i_walksAt i_turned i_changed i_read i_newRows i_newEntries i_newColumns i_greatest a_newAt i_partings a_lowSet a_highSet i_leastMany a_leastAt a_tried a_keptLow a_keptHigh j_h post) A) args s 0 0 A) (F0 m 97 ls [])) : ∀ (n : Nat) (x2 : Int32) (i_sum : Int32) (a_sumAt : Nat → Int32), w_X10_laySignal_58 KE i_signals a_wants i_wide a_wideAsked a_wideOnes n x2 i_sum a_sumAt → ∀ (ls : Array Slot) (H : Heap) (locs : List Loc), lv_has ls 3 [(0, .ref (q 0)), (2, .int x2)] → va_P D vwCl (wM q cA i_pageLength a_page i_states i_columns a_entries i_signals a_signalAt i_walksAt i_turned i_changed i_read i_newRows i_newEntries i_newColumns i_greatest a_newAt i_partings a_lowSet a_highSet i_leastMany a_leastAt a_tried a_keptLow a_keptHigh i_laid a_wants i_wide a_wideAsked a_wideOnes i_sum i_flickers a_sumAt j_h) H → va_D A (wM q cA i_pageLength a_page i_states i_columns a_entries i_signals a_signalAt i_walksAt i_turned i_changed i_read i_newRows i_newEntries i_newColumns i_greatest a_newAt i_partings a_lowSet a_highSet i_leastMany a_leastAt a_tried a_keptLow a_keptHigh i_laid a_wants i_wide a_wideAsked a_wideOnes i_sum i_flickers a_sumAt j_h) → va_S A s.heap H locs → W p l e R s m args below meth c H locs 0 0 (MQ below (qWv (Z_X10_laySignal D q cA i_pageLength a_page i_states i_columns a_entries i_signals a_signalAt i_walksAt i_turned i_changed i_read i_newRows i_newEntries i_newColumns i_greatest a_newAt i_partings a_lowSet a_highSet i_leastMany a_leastAt a_tried a_keptLow a_keptHigh j_h post) A) args s 0 0 A) (F0 m 58 ls []) := by
  obtain ⟨hx, hb, hml, hown, hts, hr, hlocks, hRf, hRl⟩ := id X
  intro n
  induction n with
  | zero => intro x2 i_sum a_sumAt hw; exact (show False from hw).elim
  | succ n ih =>
    intro x2 i_sum a_sumAt hw ls H locs hl hP hD hS
    have hw : (wp_X10_points (fun (r_9 : Int32) => ((r_9 ≤ x2 → KE i_sum a_sumAt) ∧ (¬ r_9 ≤ x2 → (vp_in x2 128 ∧ (((a_wants x2.toNatClampNeg) = (1 : Int32) → (wp_X10_isSummed (fun (r_14 : Int32) => ((r_14 = 0 → (wp_X10_addSum (fun (ysum_17 : Int32) (ysumAt_17 : Nat → Int32) => (∀ x2_18 : Int32, x2_18 = x2 + (1 : Int32) → w_X10_laySignal_58 KE i_signals a_wants i_wide a_wideAsked a_wideOnes n x2_18 ysum_17 ysumAt_17)) i_wide a_wideAsked a_wideOnes i_sum a_sumAt x2 x2)) ∧ (¬ r_14 = 0 → (∀ x2_16 : Int32, x2_16 = x2 + (1 : Int32) → w_X10_laySignal_58 KE i_signals a_wants i_wide a_wideAsked a_wideOnes n x2_16 i_sum a_sumAt)))) a_wideAsked a_wideOnes i_sum a_sumAt x2 x2)) ∧ (¬ (a_wants x2.toNatClampNeg) = (1 : Int32) → (∀ x2_13 : Int32, x2_13 = x2 + (1 : Int32) → w_X10_laySignal_58 KE i_signals a_wants i_wide a_wideAsked a_wideOnes n x2_13 i_sum a_sumAt))))))) i_signals) := hw
    refine lv_iload_n hx hb dX10_laySignal_58 rfl (lv_at hl 1 rfl) ?_
    refine lv_aload_n hx hb dX10_laySignal_59 rfl (lv_at hl 0 rfl) ?_
    refine ro_i (va_runV (As := []) (rest := [.int x2]) ⟨hx, hb, hml, hown, hts⟩ (c_X10_points l hw) (kRX10_211 (h := 0) hts (Nat.le_trans (Nat.le_of_ble_eq_true rfl) hRf) (Nat.le_trans (Nat.le_of_ble_eq_true rfl) hRl)) (preM hK hP) rfl rfl hl.1 rfl (lv_room (Nat.le_of_ble_eq_true rfl)) dX10_laySignal_60 ⟨Nat.zero_le _, Nat.zero_le _⟩) (fun r_9 hw => ?_)
    refine lv_icmp_ge (tgt := 97) hx hb dX10_laySignal_63 (by decide) (fun c_10 => ?_) (fun c_10 => ?_)
    · have hw := hw.1 c_10
      exact hE _ _ hw ls _ _ (lv_sub hl [0] rfl) hP hD hS
    · have hw := hw.2 c_10
      refine lv_aload_n hx hb dX10_laySignal_66 rfl (lv_at hl 0 rfl) ?_
      refine gRX10_48 hx hb hown hts hK hP dX10_laySignal_67 ?_
      refine lv_iload_n hx hb dX10_laySignal_70 rfl (lv_at hl 1 rfl) ?_
      have h_11 := hw.1
      have hw := hw.2
      refine ld_a_wants hx hb hK hP h_11 dX10_laySignal_71 ?_
      refine lv_iconst (v := (1 : Int32)) hx hb dX10_laySignal_72 (by decide) ?_
      refine lv_icmp_ne (tgt := 91) hx hb dX10_laySignal_73 (by decide) (fun c_12 => ?_) (fun c_12 => ?_)
      · have hw := hw.2 c_12
        obtain ⟨x2_13, e_13⟩ : ∃ z : Int32, z = x2 + (1 : Int32) := ⟨_, rfl⟩
        have hw := hw x2_13 e_13
        refine lv_iinc (v := x2_13) (lv' := [(2, .int x2_13), (0, .ref (q 0))]) hx hb dX10_laySignal_91 hl (k := 1) rfl (by rw [e_13]; rfl) (by decide) rfl (fun ls hl => ?_)
        refine lv_goto (tgt := 58) hx hb dX10_laySignal_94 (by decide) ?_
        exact ih _ _ _ hw ls _ _ (lv_sub hl [1, 0] rfl) hP hD hS
      · have hw := hw.1 c_12
        refine lv_aload_n hx hb dX10_laySignal_76 rfl (lv_at hl 0 rfl) ?_
        refine lv_iload_n hx hb dX10_laySignal_77 rfl (lv_at hl 1 rfl) ?_
        refine lv_iload_n hx hb dX10_laySignal_78 rfl (lv_at hl 1 rfl) ?_
        refine ro_i (va_runV (As := [.int x2, .int x2]) (rest := []) ⟨hx, hb, hml, hown, hts⟩ (c_X10_isSummed l hw) (kRX10_235 (h := 1) hts (Nat.le_trans (Nat.le_of_ble_eq_true rfl) hRf) (Nat.le_trans (Nat.le_of_ble_eq_true rfl) hRl)) (preM hK hP) rfl rfl hl.1 rfl (lv_room (Nat.le_of_ble_eq_true rfl)) dX10_laySignal_79 ⟨Nat.zero_le _, Nat.zero_le _⟩) (fun r_14 hw => ?_)
        refine lv_if_ne (tgt := 91) hx hb dX10_laySignal_82 (by decide) (fun c_15 => ?_) (fun c_15 => ?_)
        · have hw := hw.2 c_15
          obtain ⟨x2_16, e_16⟩ : ∃ z : Int32, z = x2 + (1 : Int32) := ⟨_, rfl⟩
          have hw := hw x2_16 e_16
          refine lv_iinc (v := x2_16) (lv' := [(2, .int x2_16), (0, .ref (q 0))]) hx hb dX10_laySignal_91 hl (k := 1) rfl (by rw [e_16]; rfl) (by decide) rfl (fun ls hl => ?_)
          refine lv_goto (tgt := 58) hx hb dX10_laySignal_94 (by decide) ?_
          exact ih _ _ _ hw ls _ _ (lv_sub hl [1, 0] rfl) hP hD hS
        · have hw := hw.1 c_15
          refine lv_aload_n hx hb dX10_laySignal_85 rfl (lv_at hl 0 rfl) ?_
          refine lv_iload_n hx hb dX10_laySignal_86 rfl (lv_at hl 1 rfl) ?_
          refine lv_iload_n hx hb dX10_laySignal_87 rfl (lv_at hl 1 rfl) ?_
          refine wr_v (va_runV (As := [.int x2, .int x2]) (rest := []) ⟨hx, hb, hml, hown, hts⟩ (c_X10_addSum l hw) (kRX10_238 (h := 1) hts (Nat.le_trans (Nat.le_of_ble_eq_true rfl) hRf) (Nat.le_trans (Nat.le_of_ble_eq_true rfl) hRl)) (preMw hK hP hD) rfl rfl hl.1 rfl (lv_room (Nat.le_of_ble_eq_true rfl)) dX10_laySignal_88 ⟨Nat.zero_le _, Nat.zero_le _⟩) hS (fun t H locs ht hw hS => ?_)
          obtain ⟨ysum_17, ysumAt_17, hw, hP⟩ := hw
          rw [ht] at hP
          have hP : va_P D vwCl (wM q cA i_pageLength a_page i_states i_columns a_entries i_signals a_signalAt i_walksAt i_turned i_changed i_read i_newRows i_newEntries i_newColumns i_greatest a_newAt i_partings a_lowSet a_highSet i_leastMany a_leastAt a_tried a_keptLow a_keptHigh i_laid a_wants i_wide a_wideAsked a_wideOnes ysum_17 i_flickers ysumAt_17 j_h) H := hP
          have hD : va_D A (wM q cA i_pageLength a_page i_states i_columns a_entries i_signals a_signalAt i_walksAt i_turned i_changed i_read i_newRows i_newEntries i_newColumns i_greatest a_newAt i_partings a_lowSet a_highSet i_leastMany a_leastAt a_tried a_keptLow a_keptHigh i_laid a_wants i_wide a_wideAsked a_wideOnes ysum_17 i_flickers ysumAt_17 j_h) := dM hD
          obtain ⟨x2_18, e_18⟩ : ∃ z : Int32, z = x2 + (1 : Int32) := ⟨_, rfl⟩
          have hw := hw x2_18 e_18
          refine lv_iinc (v := x2_18) (lv' := [(2, .int x2_18), (0, .ref (q 0))]) hx hb dX10_laySignal_91 hl (k := 1) rfl (by rw [e_18]; rfl) (by decide) rfl (fun ls hl => ?_)
          refine lv_goto (tgt := 58) hx hb dX10_laySignal_94 (by decide) ?_
          exact ih _ _ _ hw ls _ _ (lv_sub hl [1, 0] rfl) hP hD hS
set_option maxHeartbeats 4000000 in
set_option maxRecDepth 100000 in
theorem t_X10_laySignal_99 {p : Program} {l : Launch} {e : Env} {R : Room} {s : State} {m : MethodId} {args : Array Value} {below : List Frame} {meth : Method} {c : Code} {A : Nat → Prop} {D : va_G} {q : Nat → Nat} {cA : Nat → ClassId} {i_pageLength : Int32} {a_page : Nat → Int32} {i_states : Int32} {i_columns : Int32} {a_entries : Nat → Int32} {i_signals : Int32} {a_signalAt : Nat → Int32} {i_walksAt : Int32} {i_turned : Int32} {i_changed : Int32} {i_read : Int32} {i_newRows : Int32} {i_newEntries : Int32} {i_newColumns : Int32} {i_greatest : Int32} {a_newAt : Nat → Int32} {i_partings : Int32} {a_lowSet : Nat → Int32} {a_highSet : Nat → Int32} {i_leastMany : Int32} {a_leastAt : Nat → Int32} {a_tried : Nat → Int32} {a_keptLow : Nat → Int64} {a_keptHigh : Nat → Int64} {i_laid : Int32} {a_wants : Nat → Int32} {i_wide : Int32} {a_wideAsked : Nat → Int32} {a_wideOnes : Nat → Int32} {j_h : Int64} {post : Int32 → (Nat → Int32) → Int32 → (Nat → Int32) → (Nat → Int32) → Int32 → Int32 → (Nat → Int32) → Prop} {KE : Int32 → Int32 → (Nat → Int32) → Prop} (X : kC p R s m args meth c cX10_laySignal RX10 3 none 4) (hK : va_K D vwCl (tyM cA) s) (hE : ∀ (i_sum : Int32) (i_flickers : Int32) (a_sumAt : Nat → Int32), KE i_sum i_flickers a_sumAt → ∀ (ls : Array Slot) (H : Heap) (locs : List Loc), lv_has ls 3 [] → va_P D vwCl (wM q cA i_pageLength a_page i_states i_columns a_entries i_signals a_signalAt i_walksAt i_turned i_changed i_read i_newRows i_newEntries i_newColumns i_greatest a_newAt i_partings a_lowSet a_highSet i_leastMany a_leastAt a_tried a_keptLow a_keptHigh i_laid a_wants i_wide a_wideAsked a_wideOnes i_sum i_flickers a_sumAt j_h) H → va_D A (wM q cA i_pageLength a_page i_states i_columns a_entries i_signals a_signalAt i_walksAt i_turned i_changed i_read i_newRows i_newEntries i_newColumns i_greatest a_newAt i_partings a_lowSet a_highSet i_leastMany a_leastAt a_tried a_keptLow a_keptHigh i_laid a_wants i_wide a_wideAsked a_wideOnes i_sum i_flickers a_sumAt j_h) → va_S A s.heap H locs → W p l e R s m args below meth c H locs 0 0 (MQ below (qWv (Z_X10_laySignal D q cA i_pageLength a_page i_states i_columns a_entries i_signals a_signalAt i_walksAt i_turned i_changed i_read i_newRows i_newEntries i_newColumns i_greatest a_newAt i_partings a_lowSet a_highSet i_leastMany a_leastAt a_tried a_keptLow a_keptHigh j_h post) A) args s 0 0 A) (F0 m 118 ls [])) : ∀ (n : Nat) (x2 : Int32) (i_sum : Int32) (i_flickers : Int32) (a_sumAt : Nat → Int32), w_X10_laySignal_99 KE i_signals a_wants i_wide a_wideAsked a_wideOnes n x2 i_sum i_flickers a_sumAt → ∀ (ls : Array Slot) (H : Heap) (locs : List Loc), lv_has ls 3 [(0, .ref (q 0)), (2, .int x2)] → va_P D vwCl (wM q cA i_pageLength a_page i_states i_columns a_entries i_signals a_signalAt i_walksAt i_turned i_changed i_read i_newRows i_newEntries i_newColumns i_greatest a_newAt i_partings a_lowSet a_highSet i_leastMany a_leastAt a_tried a_keptLow a_keptHigh i_laid a_wants i_wide a_wideAsked a_wideOnes i_sum i_flickers a_sumAt j_h) H → va_D A (wM q cA i_pageLength a_page i_states i_columns a_entries i_signals a_signalAt i_walksAt i_turned i_changed i_read i_newRows i_newEntries i_newColumns i_greatest a_newAt i_partings a_lowSet a_highSet i_leastMany a_leastAt a_tried a_keptLow a_keptHigh i_laid a_wants i_wide a_wideAsked a_wideOnes i_sum i_flickers a_sumAt j_h) → va_S A s.heap H locs → W p l e R s m args below meth c H locs 0 0 (MQ below (qWv (Z_X10_laySignal D q cA i_pageLength a_page i_states i_columns a_entries i_signals a_signalAt i_walksAt i_turned i_changed i_read i_newRows i_newEntries i_newColumns i_greatest a_newAt i_partings a_lowSet a_highSet i_leastMany a_leastAt a_tried a_keptLow a_keptHigh j_h post) A) args s 0 0 A) (F0 m 99 ls []) := by
  obtain ⟨hx, hb, hml, hown, hts, hr, hlocks, hRf, hRl⟩ := id X
  intro n
  induction n with
  | zero => intro x2 i_sum i_flickers a_sumAt hw; exact (show False from hw).elim
  | succ n ih =>
    intro x2 i_sum i_flickers a_sumAt hw ls H locs hl hP hD hS
    have hw : (wp_X10_points (fun (r_20 : Int32) => ((r_20 ≤ x2 → KE i_sum i_flickers a_sumAt) ∧ (¬ r_20 ≤ x2 → (wp_X10_layFlickers (fun (ysum_22 : Int32) (yflickers_22 : Int32) (ysumAt_22 : Nat → Int32) => (∀ x2_23 : Int32, x2_23 = x2 + (1 : Int32) → w_X10_laySignal_99 KE i_signals a_wants i_wide a_wideAsked a_wideOnes n x2_23 ysum_22 yflickers_22 ysumAt_22)) i_signals a_wants i_wide a_wideAsked a_wideOnes i_sum i_flickers a_sumAt x2)))) i_signals) := hw
    refine lv_iload_n hx hb dX10_laySignal_99 rfl (lv_at hl 1 rfl) ?_
    refine lv_aload_n hx hb dX10_laySignal_100 rfl (lv_at hl 0 rfl) ?_
    refine ro_i (va_runV (As := []) (rest := [.int x2]) ⟨hx, hb, hml, hown, hts⟩ (c_X10_points l hw) (kRX10_211 (h := 0) hts (Nat.le_trans (Nat.le_of_ble_eq_true rfl) hRf) (Nat.le_trans (Nat.le_of_ble_eq_true rfl) hRl)) (preM hK hP) rfl rfl hl.1 rfl (lv_room (Nat.le_of_ble_eq_true rfl)) dX10_laySignal_101 ⟨Nat.zero_le _, Nat.zero_le _⟩) (fun r_20 hw => ?_)
    refine lv_icmp_ge (tgt := 118) hx hb dX10_laySignal_104 (by decide) (fun c_21 => ?_) (fun c_21 => ?_)
    · have hw := hw.1 c_21
      exact hE _ _ _ hw ls _ _ (lv_sub hl [] rfl) hP hD hS
    · have hw := hw.2 c_21
      refine lv_aload_n hx hb dX10_laySignal_107 rfl (lv_at hl 0 rfl) ?_
      refine lv_iload_n hx hb dX10_laySignal_108 rfl (lv_at hl 1 rfl) ?_
      refine wr_v (va_runV (As := [.int x2]) (rest := []) ⟨hx, hb, hml, hown, hts⟩ (c_X10_layFlickers l hw) (kRX10_247 (h := 2) hts (Nat.le_trans (Nat.le_of_ble_eq_true rfl) hRf) (Nat.le_trans (Nat.le_of_ble_eq_true rfl) hRl)) (preMw hK hP hD) rfl rfl hl.1 rfl (lv_room (Nat.le_of_ble_eq_true rfl)) dX10_laySignal_109 ⟨Nat.zero_le _, Nat.zero_le _⟩) hS (fun t H locs ht hw hS => ?_)
      obtain ⟨ysum_22, yflickers_22, ysumAt_22, hw, hP⟩ := hw
      rw [ht] at hP
      have hP : va_P D vwCl (wM q cA i_pageLength a_page i_states i_columns a_entries i_signals a_signalAt i_walksAt i_turned i_changed i_read i_newRows i_newEntries i_newColumns i_greatest a_newAt i_partings a_lowSet a_highSet i_leastMany a_leastAt a_tried a_keptLow a_keptHigh i_laid a_wants i_wide a_wideAsked a_wideOnes ysum_22 yflickers_22 ysumAt_22 j_h) H := hP
      have hD : va_D A (wM q cA i_pageLength a_page i_states i_columns a_entries i_signals a_signalAt i_walksAt i_turned i_changed i_read i_newRows i_newEntries i_newColumns i_greatest a_newAt i_partings a_lowSet a_highSet i_leastMany a_leastAt a_tried a_keptLow a_keptHigh i_laid a_wants i_wide a_wideAsked a_wideOnes ysum_22 yflickers_22 ysumAt_22 j_h) := dM hD
      obtain ⟨x2_23, e_23⟩ : ∃ z : Int32, z = x2 + (1 : Int32) := ⟨_, rfl⟩
      have hw := hw x2_23 e_23
      refine lv_iinc (v := x2_23) (lv' := [(2, .int x2_23), (0, .ref (q 0))]) hx hb dX10_laySignal_112 hl (k := 1) rfl (by rw [e_23]; rfl) (by decide) rfl (fun ls hl => ?_)
      refine lv_goto (tgt := 99) hx hb dX10_laySignal_115 (by decide) ?_
      exact ih _ _ _ _ hw ls _ _ (lv_sub hl [1, 0] rfl) hP hD hS
set_option maxHeartbeats 4000000 in
set_option maxRecDepth 100000 in
theorem c_X10_laySignal (l : Launch) {D : va_G} {q : Nat → Nat} {cA : Nat → ClassId} {i_pageLength : Int32} {a_page : Nat → Int32} {i_states : Int32} {i_columns : Int32} {a_entries : Nat → Int32} {i_signals : Int32} {a_signalAt : Nat → Int32} {i_walksAt : Int32} {i_turned : Int32} {i_changed : Int32} {i_read : Int32} {i_newRows : Int32} {i_newEntries : Int32} {i_newColumns : Int32} {i_greatest : Int32} {a_newAt : Nat → Int32} {i_partings : Int32} {a_lowSet : Nat → Int32} {a_highSet : Nat → Int32} {i_leastMany : Int32} {a_leastAt : Nat → Int32} {a_tried : Nat → Int32} {a_keptLow : Nat → Int64} {a_keptHigh : Nat → Int64} {i_laid : Int32} {a_wants : Nat → Int32} {i_wide : Int32} {a_wideAsked : Nat → Int32} {a_wideOnes : Nat → Int32} {i_sum : Int32} {i_flickers : Int32} {a_sumAt : Nat → Int32} {j_h : Int64} {A : Nat → Prop} {post : Int32 → (Nat → Int32) → Int32 → (Nat → Int32) → (Nat → Int32) → Int32 → Int32 → (Nat → Int32) → Prop} {x1 : Int32} (hw : wp_X10_laySignal post i_states i_columns a_entries i_signals a_signalAt i_laid a_wants i_wide a_wideAsked a_wideOnes i_sum i_flickers a_sumAt x1) : Met l yX10_laySignal (Cond.code yX10_laySignal cX10_laySignal 3 none :: wsL_law) (rmH 4) (va_Pc [.ref (q 0), .int x1] (fun U => va_P D vwCl (wM q cA i_pageLength a_page i_states i_columns a_entries i_signals a_signalAt i_walksAt i_turned i_changed i_read i_newRows i_newEntries i_newColumns i_greatest a_newAt i_partings a_lowSet a_highSet i_leastMany a_leastAt a_tried a_keptLow a_keptHigh i_laid a_wants i_wide a_wideAsked a_wideOnes i_sum i_flickers a_sumAt j_h) U.heap ∧ va_K D vwCl (tyM cA) U ∧ va_D A (wM q cA i_pageLength a_page i_states i_columns a_entries i_signals a_signalAt i_walksAt i_turned i_changed i_read i_newRows i_newEntries i_newColumns i_greatest a_newAt i_partings a_lowSet a_highSet i_leastMany a_leastAt a_tried a_keptLow a_keptHigh i_laid a_wants i_wide a_wideAsked a_wideOnes i_sum i_flickers a_sumAt j_h))) (qWv (Z_X10_laySignal D q cA i_pageLength a_page i_states i_columns a_entries i_signals a_signalAt i_walksAt i_turned i_changed i_read i_newRows i_newEntries i_newColumns i_greatest a_newAt i_partings a_lowSet a_highSet i_leastMany a_leastAt a_tried a_keptLow a_keptHigh j_h post) A) 0 0 A := by
  refine Met.ofW (cc := cX10_laySignal) (maxL := 3) (ret := none) (by decide) rfl ?_
  intro p e s m args below meth c s₁ B hml hv
  obtain ⟨rfl, hP, hK, hD⟩ := hv
  have X : kC p (headSpec (Cond.code yX10_laySignal cX10_laySignal 3 none :: wsL_law) (rmH 4)).room s m _ meth c cX10_laySignal RX10 3 none 4 := ⟨B.exec, B.bytes, hml, findClass_of_methodNamed B.named, fun w h => atoms_spec (ws := Cond.code yX10_laySignal cX10_laySignal 3 none :: wsL_law) B.pre w (List.mem_cons_of_mem _ h), B.returns, B.notSynchronized, Nat.le_refl _, Nat.le_refl _⟩
  obtain ⟨hx, hb, hml, hown, hts, hr, hlocks, hRf, hRl⟩ := id X
  have hS : va_S A s.heap s.heap [] := va_S.rf
  have hl := lv_entry ([.ref (q 0), .int x1]) (n := 3) (Nat.le_of_ble_eq_true rfl)
  rw [lg_entry_eq]
  generalize (lg_sl ([.ref (q 0), .int x1]) ++ List.replicate (3 - (lg_sl ([.ref (q 0), .int x1])).length) Slot.unset).toArray = ls at hl ⊢
  have hl : lv_has ls 3 [(0, .ref (q 0)), (1, .int x1)] := hl
  refine lv_aload_n hx hb dX10_laySignal_0 rfl (lv_at hl 0 rfl) ?_
  refine gRX10_205 hx hb hown hts hK hP dX10_laySignal_1 ?_
  refine lv_iload_n hx hb dX10_laySignal_4 rfl (lv_at hl 1 rfl) ?_
  refine lv_icmp_ne (tgt := 9) hx hb dX10_laySignal_5 (by decide) (fun c_1 => ?_) (fun c_1 => ?_)
  · have hw := hw.2 c_1
    refine lv_aload_n hx hb dX10_laySignal_9 rfl (lv_at hl 0 rfl) ?_
    refine lv_iload_n hx hb dX10_laySignal_10 rfl (lv_at hl 1 rfl) ?_
    refine pRX10_205 hx hb hown hts hK hP hD hS dX10_laySignal_11 (fun H locs hP hD hS => ?_)
    refine lv_iconst (v := (0 : Int32)) hx hb dX10_laySignal_14 (by decide) ?_
    refine lv_istore_n (lv' := [(2, .int (0 : Int32)), (0, .ref (q 0)), (1, .int x1)]) hx hb dX10_laySignal_15 rfl hl (by decide) rfl (fun ls hl => ?_)
    obtain ⟨n_7, hw⟩ := hw
    refine t_X10_laySignal_16 X hK (fun ywants_7 hw ls H locs hl hP hD hS => ?_) n_7 _ _ hw ls _ _ (lv_sub hl [1, 2, 0] rfl) hP hD hS
    refine lv_aload_n hx hb dX10_laySignal_42 rfl (lv_at hl 0 rfl) ?_
    refine wr_v (va_runV (As := []) (rest := []) ⟨hx, hb, hml, hown, hts⟩ (c_X10_layWide l hw) (kRX10_244 (h := 3) hts (Nat.le_trans (Nat.le_of_ble_eq_true rfl) hRf) (Nat.le_trans (Nat.le_of_ble_eq_true rfl) hRl)) (preMw hK hP hD) rfl rfl hl.1 rfl (lv_room (Nat.le_of_ble_eq_true rfl)) dX10_laySignal_43 ⟨Nat.zero_le _, Nat.zero_le _⟩) hS (fun t H locs ht hw hS => ?_)
    obtain ⟨ywide_8, ywideAsked_8, ywideOnes_8, hw, hP⟩ := hw
    rw [ht] at hP
    have hP : va_P D vwCl (wM q cA i_pageLength a_page i_states i_columns a_entries i_signals a_signalAt i_walksAt i_turned i_changed i_read i_newRows i_newEntries i_newColumns i_greatest a_newAt i_partings a_lowSet a_highSet i_leastMany a_leastAt a_tried a_keptLow a_keptHigh x1 ywants_7 ywide_8 ywideAsked_8 ywideOnes_8 i_sum i_flickers a_sumAt j_h) H := hP
    have hD : va_D A (wM q cA i_pageLength a_page i_states i_columns a_entries i_signals a_signalAt i_walksAt i_turned i_changed i_read i_newRows i_newEntries i_newColumns i_greatest a_newAt i_partings a_lowSet a_highSet i_leastMany a_leastAt a_tried a_keptLow a_keptHigh x1 ywants_7 ywide_8 ywideAsked_8 ywideOnes_8 i_sum i_flickers a_sumAt j_h) := dM hD
    refine lv_aload_n hx hb dX10_laySignal_46 rfl (lv_at hl 0 rfl) ?_
    refine lv_iconst (v := (0 : Int32)) hx hb dX10_laySignal_47 (by decide) ?_
    refine pRX10_232 hx hb hown hts hK hP hD hS dX10_laySignal_48 (fun H locs hP hD hS => ?_)
    refine lv_aload_n hx hb dX10_laySignal_51 rfl (lv_at hl 0 rfl) ?_
    refine lv_iconst (v := (0 : Int32)) hx hb dX10_laySignal_52 (by decide) ?_
    refine pRX10_241 hx hb hown hts hK hP hD hS dX10_laySignal_53 (fun H locs hP hD hS => ?_)
    refine lv_iconst (v := (0 : Int32)) hx hb dX10_laySignal_56 (by decide) ?_
    refine lv_istore_n (lv' := [(2, .int (0 : Int32)), (0, .ref (q 0))]) hx hb dX10_laySignal_57 rfl hl (by decide) rfl (fun ls hl => ?_)
    obtain ⟨n_19, hw⟩ := hw
    refine t_X10_laySignal_58 X hK (fun ysum_19 ysumAt_19 hw ls H locs hl hP hD hS => ?_) n_19 _ _ _ hw ls _ _ (lv_sub hl [1, 0] rfl) hP hD hS
    refine lv_iconst (v := (0 : Int32)) hx hb dX10_laySignal_97 (by decide) ?_
    refine lv_istore_n (lv' := [(2, .int (0 : Int32)), (0, .ref (q 0))]) hx hb dX10_laySignal_98 rfl hl (by decide) rfl (fun ls hl => ?_)
    obtain ⟨n_24, hw⟩ := hw
    refine t_X10_laySignal_99 X hK (fun ysum_24 yflickers_24 ysumAt_24 hw ls H locs hl hP hD hS => ?_) n_24 _ _ _ _ hw ls _ _ (lv_sub hl [1, 0] rfl) hP hD hS
    exact rw_v hx hb hr hlocks (fun t ht => ⟨x1, ywants_7, ywide_8, ywideAsked_8, ywideOnes_8, ysum_24, yflickers_24, ysumAt_24, hw, by rw [ht]; exact hP⟩) hS dX10_laySignal_118
  · have hw := hw.1 c_1
    exact rw_v hx hb hr hlocks (fun t ht => ⟨i_laid, a_wants, i_wide, a_wideAsked, a_wideOnes, i_sum, i_flickers, a_sumAt, hw, by rw [ht]; exact hP⟩) hS dX10_laySignal_8
