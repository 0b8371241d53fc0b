set_option maxHeartbeats 4000000 in
set_option maxRecDepth 100000 in
theorem t_X10_isTriedGood_8 {p : Program} {l : Launch} {e : Env} {R : Room} {s : State} {m : MethodId} {args : Array Value} {below : List Frame} {meth : Method} {c : Code} {D : va_G} {q : Nat → Nat} {cA : Nat → ClassId} {i_pageLength : Int32} {a_page : Nat → Int32} {i_states : Int32} {i_columns : Int32} {a_entries : Nat → Int32} {i_signals : Int32} {a_signalAt : Nat → Int32} {i_walksAt : Int32} {i_turned : Int32} {i_changed : Int32} {i_read : Int32} {i_newRows : Int32} {i_newEntries : Int32} {i_newColumns : Int32} {i_greatest : Int32} {a_newAt : Nat → Int32} {i_partings : Int32} {a_lowSet : Nat → Int32} {a_highSet : Nat → Int32} {i_leastMany : Int32} {a_leastAt : Nat → Int32} {a_tried : Nat → Int32} {a_keptLow : Nat → Int64} {a_keptHigh : Nat → Int64} {i_laid : Int32} {a_wants : Nat → Int32} {i_wide : Int32} {a_wideAsked : Nat → Int32} {a_wideOnes : Nat → Int32} {i_sum : Int32} {i_flickers : Int32} {a_sumAt : Nat → Int32} {j_h : Int64} {post : Int32 → Prop} {KE : Int64 → Int64 → Prop} {x1 : Int32} (X : kC p R s m args meth c cX10_isTriedGood RX10 10 (some .boolean) 0) (hK : va_K D vwCl (tyM cA) s) (hP : va_P D vwCl (wM q cA i_pageLength a_page i_states i_columns a_entries i_signals a_signalAt i_walksAt i_turned i_changed i_read i_newRows i_newEntries i_newColumns i_greatest a_newAt i_partings a_lowSet a_highSet i_leastMany a_leastAt a_tried a_keptLow a_keptHigh i_laid a_wants i_wide a_wideAsked a_wideOnes i_sum i_flickers a_sumAt j_h) s.heap) (hE : ∀ (x2 : Int64) (x4 : Int64), KE x2 x4 → ∀ (ls : Array Slot), lv_has ls 10 [(0, .ref (q 0)), (2, .long x2), (4, .long x4)] → W p l e R s m args below meth c s.heap [] 0 0 (MQ below (qRi post) args s 0 0 (fun _ => False)) (F0 m 52 ls [])) : ∀ (n : Nat) (x2 : Int64) (x4 : Int64) (x6 : Int32), w_X10_isTriedGood_8 KE a_tried a_keptLow a_keptHigh x1 n x2 x4 x6 → ∀ (ls : Array Slot), lv_has ls 10 [(0, .ref (q 0)), (1, .int x1), (2, .long x2), (4, .long x4), (6, .int x6)] → W p l e R s m args below meth c s.heap [] 0 0 (MQ below (qRi post) args s 0 0 (fun _ => False)) (F0 m 8 ls []) := by
  obtain ⟨hx, hb, hml, hown, hts, hr, hlocks, hRf, hRl⟩ := id X
  intro n
  induction n with
  | zero => intro x2 x4 x6 hw; exact (show False from hw).elim
  | succ n ih =>
    intro x2 x4 x6 hw ls hl
    refine lv_iload hx hb dX10_isTriedGood_8 (lv_at hl 4 rfl) ?_
    refine lv_iload_n hx hb dX10_isTriedGood_10 rfl (lv_at hl 1 rfl) ?_
    refine lv_icmp_ge (tgt := 52) hx hb dX10_isTriedGood_11 (by decide) (fun c_1 => ?_) (fun c_1 => ?_)
    · have hw := hw.1 c_1
      exact hE _ _ hw ls (lv_sub hl [0, 2, 3] rfl)
    · have hw := hw.2 c_1
      refine lv_lload_n hx hb dX10_isTriedGood_14 rfl (lv_at hl 2 rfl) ?_
      refine lv_aload_n hx hb dX10_isTriedGood_15 rfl (lv_at hl 0 rfl) ?_
      refine gRX10_41 hx hb hown hts hK hP dX10_isTriedGood_16 ?_
      refine lv_aload_n hx hb dX10_isTriedGood_19 rfl (lv_at hl 0 rfl) ?_
      refine gRX10_38 hx hb hown hts hK hP dX10_isTriedGood_20 ?_
      refine lv_iload hx hb dX10_isTriedGood_23 (lv_at hl 4 rfl) ?_
      have h_2 := hw.1
      have hw := hw.2
      refine ld_a_tried hx hb hK hP h_2 dX10_isTriedGood_25 ?_
      have h_3 := hw.1
      have hw := hw.2
      refine ld_a_keptLow hx hb hK hP h_3 dX10_isTriedGood_26 ?_
      refine lv_lor hx hb dX10_isTriedGood_27 ?_
      refine lv_topl (fun x2_4 e_4 => ?_)
      have hw := hw x2_4 e_4
      refine lv_lstore_n (lv' := [(2, .long x2_4), (0, .ref (q 0)), (1, .int x1), (4, .long x4), (6, .int x6)]) hx hb dX10_isTriedGood_28 rfl hl (by decide) rfl (fun ls hl => ?_)
      refine lv_lload hx hb dX10_isTriedGood_29 (lv_at hl 3 rfl) ?_
      refine lv_aload_n hx hb dX10_isTriedGood_31 rfl (lv_at hl 1 rfl) ?_
      refine gRX10_45 hx hb hown hts hK hP dX10_isTriedGood_32 ?_
      refine lv_aload_n hx hb dX10_isTriedGood_35 rfl (lv_at hl 1 rfl) ?_
      refine gRX10_38 hx hb hown hts hK hP dX10_isTriedGood_36 ?_
      refine lv_iload hx hb dX10_isTriedGood_39 (lv_at hl 4 rfl) ?_
      have h_5 := hw.1
      have hw := hw.2
      refine ld_a_tried hx hb hK hP h_5 dX10_isTriedGood_41 ?_
      have h_6 := hw.1
      have hw := hw.2
      refine ld_a_keptHigh hx hb hK hP h_6 dX10_isTriedGood_42 ?_
      refine lv_lor hx hb dX10_isTriedGood_43 ?_
      refine lv_topl (fun x4_7 e_7 => ?_)
      have hw := hw x4_7 e_7
      refine lv_lstore (lv' := [(4, .long x4_7), (2, .long x2_4), (0, .ref (q 0)), (1, .int x1), (6, .int x6)]) hx hb dX10_isTriedGood_44 hl (by decide) rfl (fun ls hl => ?_)
      obtain ⟨x6_8, e_8⟩ : ∃ z : Int32, z = x6 + (1 : Int32) := ⟨_, rfl⟩
      have hw := hw x6_8 e_8
      refine lv_iinc (v := x6_8) (lv' := [(6, .int x6_8), (4, .long x4_7), (2, .long x2_4), (0, .ref (q 0)), (1, .int x1)]) hx hb dX10_isTriedGood_46 hl (k := 4) rfl (by rw [e_8]; rfl) (by decide) rfl (fun ls hl => ?_)
      refine lv_goto (tgt := 8) hx hb dX10_isTriedGood_49 (by decide) ?_
      exact ih _ _ _ hw ls (lv_sub hl [3, 4, 2, 1, 0] rfl)
set_option maxHeartbeats 4000000 in
set_option maxRecDepth 100000 in
theorem t_X10_isTriedGood_101 {p : Program} {l : Launch} {e : Env} {R : Room} {s : State} {m : MethodId} {args : Array Value} {below : List Frame} {meth : Method} {c : Code} {D : va_G} {q : Nat → Nat} {cA : Nat → ClassId} {i_pageLength : Int32} {a_page : Nat → Int32} {i_states : Int32} {i_columns : Int32} {a_entries : Nat → Int32} {i_signals : Int32} {a_signalAt : Nat → Int32} {i_walksAt : Int32} {i_turned : Int32} {i_changed : Int32} {i_read : Int32} {i_newRows : Int32} {i_newEntries : Int32} {i_newColumns : Int32} {i_greatest : Int32} {a_newAt : Nat → Int32} {i_partings : Int32} {a_lowSet : Nat → Int32} {a_highSet : Nat → Int32} {i_leastMany : Int32} {a_leastAt : Nat → Int32} {a_tried : Nat → Int32} {a_keptLow : Nat → Int64} {a_keptHigh : Nat → Int64} {i_laid : Int32} {a_wants : Nat → Int32} {i_wide : Int32} {a_wideAsked : Nat → Int32} {a_wideOnes : Nat → Int32} {i_sum : Int32} {i_flickers : Int32} {a_sumAt : Nat → Int32} {j_h : Int64} {post : Int32 → Prop} {x2 : Int64} {x4 : Int64} {x6 : Int64} {v0 : Int64} (X : kC p R s m args meth c cX10_isTriedGood RX10 10 (some .boolean) 0) (hK : va_K D vwCl (tyM cA) s) (hP : va_P D vwCl (wM q cA i_pageLength a_page i_states i_columns a_entries i_signals a_signalAt i_walksAt i_turned i_changed i_read i_newRows i_newEntries i_newColumns i_greatest a_newAt i_partings a_lowSet a_highSet i_leastMany a_leastAt a_tried a_keptLow a_keptHigh i_laid a_wants i_wide a_wideAsked a_wideOnes i_sum i_flickers a_sumAt j_h) s.heap) (hw : j_X10_isTriedGood_101 post x2 x4 x6 v0) (ls : Array Slot) (hl : lv_has ls 10 [(2, .long x2), (4, .long x4), (6, .long x6)]) : W p l e R s m args below meth c s.heap [] 0 0 (MQ below (qRi post) args s 0 0 (fun _ => False)) (F0 m 101 ls [.long v0]) := by
  obtain ⟨hx, hb, hml, hown, hts, hr, hlocks, hRf, hRl⟩ := id X
  refine lv_lstore (lv' := [(8, .long v0), (2, .long x2), (4, .long x4), (6, .long x6)]) hx hb dX10_isTriedGood_101 hl (by decide) rfl (fun ls hl => ?_)
  refine lv_lload_n hx hb dX10_isTriedGood_103 rfl (lv_at hl 1 rfl) ?_
  refine lv_lload hx hb dX10_isTriedGood_104 (lv_at hl 3 rfl) ?_
  refine W.lcmp hx hb dX10_isTriedGood_106 ?_
  refine lv_if_ne (tgt := 122) hx hb dX10_isTriedGood_107 (by decide) (fun c_12 => ?_) (fun c_12 => ?_)
  · have hw := hw.2 c_12
    refine lv_iconst (v := (0 : Int32)) hx hb dX10_isTriedGood_122 (by decide) ?_
    exact rt_z hx hb hr hlocks rfl hw dX10_isTriedGood_123
  · have hw := hw.1 c_12
    refine lv_lload hx hb dX10_isTriedGood_110 (lv_at hl 2 rfl) ?_
    refine lv_lload hx hb dX10_isTriedGood_112 (lv_at hl 0 rfl) ?_
    refine W.lcmp hx hb dX10_isTriedGood_114 ?_
    refine lv_if_ne (tgt := 122) hx hb dX10_isTriedGood_115 (by decide) (fun c_13 => ?_) (fun c_13 => ?_)
    · have hw := hw.2 c_13
      refine lv_iconst (v := (0 : Int32)) hx hb dX10_isTriedGood_122 (by decide) ?_
      exact rt_z hx hb hr hlocks rfl hw dX10_isTriedGood_123
    · have hw := hw.1 c_13
      refine lv_iconst (v := (1 : Int32)) hx hb dX10_isTriedGood_118 (by decide) ?_
      refine lv_goto (tgt := 123) hx hb dX10_isTriedGood_119 (by decide) ?_
      exact rt_z hx hb hr hlocks rfl hw dX10_isTriedGood_123
set_option maxHeartbeats 4000000 in
set_option maxRecDepth 100000 in
theorem t_X10_isTriedGood_75 {p : Program} {l : Launch} {e : Env} {R : Room} {s : State} {m : MethodId} {args : Array Value} {below : List Frame} {meth : Method} {c : Code} {D : va_G} {q : Nat → Nat} {cA : Nat → ClassId} {i_pageLength : Int32} {a_page : Nat → Int32} {i_states : Int32} {i_columns : Int32} {a_entries : Nat → Int32} {i_signals : Int32} {a_signalAt : Nat → Int32} {i_walksAt : Int32} {i_turned : Int32} {i_changed : Int32} {i_read : Int32} {i_newRows : Int32} {i_newEntries : Int32} {i_newColumns : Int32} {i_greatest : Int32} {a_newAt : Nat → Int32} {i_partings : Int32} {a_lowSet : Nat → Int32} {a_highSet : Nat → Int32} {i_leastMany : Int32} {a_leastAt : Nat → Int32} {a_tried : Nat → Int32} {a_keptLow : Nat → Int64} {a_keptHigh : Nat → Int64} {i_laid : Int32} {a_wants : Nat → Int32} {i_wide : Int32} {a_wideAsked : Nat → Int32} {a_wideOnes : Nat → Int32} {i_sum : Int32} {i_flickers : Int32} {a_sumAt : Nat → Int32} {j_h : Int64} {post : Int32 → Prop} {x2 : Int64} {x4 : Int64} {v0 : Int64} (X : kC p R s m args meth c cX10_isTriedGood RX10 10 (some .boolean) 0) (hK : va_K D vwCl (tyM cA) s) (hP : va_P D vwCl (wM q cA i_pageLength a_page i_states i_columns a_entries i_signals a_signalAt i_walksAt i_turned i_changed i_read i_newRows i_newEntries i_newColumns i_greatest a_newAt i_partings a_lowSet a_highSet i_leastMany a_leastAt a_tried a_keptLow a_keptHigh i_laid a_wants i_wide a_wideAsked a_wideOnes i_sum i_flickers a_sumAt j_h) s.heap) (hw : j_X10_isTriedGood_75 post i_partings x2 x4 v0) (ls : Array Slot) (hl : lv_has ls 10 [(0, .ref (q 0)), (2, .long x2), (4, .long x4)]) : W p l e R s m args below meth c s.heap [] 0 0 (MQ below (qRi post) args s 0 0 (fun _ => False)) (F0 m 75 ls [.long v0]) := by
  obtain ⟨hx, hb, hml, hown, hts, hr, hlocks, hRf, hRl⟩ := id X
  refine lv_lstore (lv' := [(6, .long v0), (0, .ref (q 0)), (2, .long x2), (4, .long x4)]) hx hb dX10_isTriedGood_75 hl (by decide) rfl (fun ls hl => ?_)
  refine lv_aload_n hx hb dX10_isTriedGood_77 rfl (lv_at hl 1 rfl) ?_
  refine gRX10_133 hx hb hown hts hK hP dX10_isTriedGood_78 ?_
  refine lv_bipush (v := (40 : Int32)) hx hb dX10_isTriedGood_81 (by decide +kernel) ?_
  refine lv_icmp_ge (tgt := 90) hx hb dX10_isTriedGood_83 (by decide) (fun c_11 => ?_) (fun c_11 => ?_)
  · have hw := hw.1 c_11
    refine lv_lconst (v := (1 : Int64)) hx hb dX10_isTriedGood_90 (by decide) ?_
    refine lv_aload_n hx hb dX10_isTriedGood_91 rfl (lv_at hl 1 rfl) ?_
    refine gRX10_133 hx hb hown hts hK hP dX10_isTriedGood_92 ?_
    refine lv_bipush (v := (40 : Int32)) hx hb dX10_isTriedGood_95 (by decide +kernel) ?_
    refine lv_isub hx hb dX10_isTriedGood_97 ?_
    refine lv_lshl hx hb dX10_isTriedGood_98 rfl ?_
    refine lv_lconst (v := (1 : Int64)) hx hb dX10_isTriedGood_99 (by decide) ?_
    refine lv_lsub hx hb dX10_isTriedGood_100 ?_
    exact t_X10_isTriedGood_101 X hK hP hw ls (lv_sub hl [2, 3, 0] rfl)
  · have hw := hw.2 c_11
    refine lv_lconst (v := (0 : Int64)) hx hb dX10_isTriedGood_86 (by decide) ?_
    refine lv_goto (tgt := 101) hx hb dX10_isTriedGood_87 (by decide) ?_
    exact t_X10_isTriedGood_101 X hK hP hw ls (lv_sub hl [2, 3, 0] rfl)
set_option maxHeartbeats 4000000 in
set_option maxRecDepth 100000 in
theorem c_X10_isTriedGood (l : Launch) {D : va_G} {q : Nat → Nat} {cA : Nat → ClassId} {i_pageLength : Int32} {a_page : Nat → Int32} {i_states : Int32} {i_columns : Int32} {a_entries : Nat → Int32} {i_signals : Int32} {a_signalAt : Nat → Int32} {i_walksAt : Int32} {i_turned : Int32} {i_changed : Int32} {i_read : Int32} {i_newRows : Int32} {i_newEntries : Int32} {i_newColumns : Int32} {i_greatest : Int32} {a_newAt : Nat → Int32} {i_partings : Int32} {a_lowSet : Nat → Int32} {a_highSet : Nat → Int32} {i_leastMany : Int32} {a_leastAt : Nat → Int32} {a_tried : Nat → Int32} {a_keptLow : Nat → Int64} {a_keptHigh : Nat → Int64} {i_laid : Int32} {a_wants : Nat → Int32} {i_wide : Int32} {a_wideAsked : Nat → Int32} {a_wideOnes : Nat → Int32} {i_sum : Int32} {i_flickers : Int32} {a_sumAt : Nat → Int32} {j_h : Int64} {post : Int32 → Prop} {x1 : Int32} (hw : wp_X10_isTriedGood post i_partings a_tried a_keptLow a_keptHigh x1) : Met l yX10_isTriedGood (Cond.code yX10_isTriedGood cX10_isTriedGood 10 (some .boolean) :: wsL_law) (rmH 0) (va_Pc [.ref (q 0), .int x1] (fun U => va_P D vwCl (wM q cA i_pageLength a_page i_states i_columns a_entries i_signals a_signalAt i_walksAt i_turned i_changed i_read i_newRows i_newEntries i_newColumns i_greatest a_newAt i_partings a_lowSet a_highSet i_leastMany a_leastAt a_tried a_keptLow a_keptHigh i_laid a_wants i_wide a_wideAsked a_wideOnes i_sum i_flickers a_sumAt j_h) U.heap ∧ va_K D vwCl (tyM cA) U)) (qRi post) 0 0 (fun _ => False) := by
  refine Met.ofW (cc := cX10_isTriedGood) (maxL := 10) (ret := (some .boolean)) (by decide) rfl ?_
  intro p e s m args below meth c s₁ B hml hv
  obtain ⟨rfl, hP, hK⟩ := hv
  have X : kC p (headSpec (Cond.code yX10_isTriedGood cX10_isTriedGood 10 (some .boolean) :: wsL_law) (rmH 0)).room s m _ meth c cX10_isTriedGood RX10 10 (some .boolean) 0 := ⟨B.exec, B.bytes, hml, findClass_of_methodNamed B.named, fun w h => atoms_spec (ws := Cond.code yX10_isTriedGood cX10_isTriedGood 10 (some .boolean) :: wsL_law) B.pre w (List.mem_cons_of_mem _ h), B.returns, B.notSynchronized, Nat.le_refl _, Nat.le_refl _⟩
  obtain ⟨hx, hb, hml, hown, hts, hr, hlocks, hRf, hRl⟩ := id X
  have hl := lv_entry ([.ref (q 0), .int x1]) (n := 10) (Nat.le_of_ble_eq_true rfl)
  rw [lg_entry_eq]
  generalize (lg_sl ([.ref (q 0), .int x1]) ++ List.replicate (10 - (lg_sl ([.ref (q 0), .int x1])).length) Slot.unset).toArray = ls at hl ⊢
  have hl : lv_has ls 10 [(0, .ref (q 0)), (1, .int x1)] := hl
  refine lv_lconst (v := (0 : Int64)) hx hb dX10_isTriedGood_0 (by decide) ?_
  refine lv_lstore_n (lv' := [(2, .long (0 : Int64)), (0, .ref (q 0)), (1, .int x1)]) hx hb dX10_isTriedGood_1 rfl hl (by decide) rfl (fun ls hl => ?_)
  refine lv_lconst (v := (0 : Int64)) hx hb dX10_isTriedGood_2 (by decide) ?_
  refine lv_lstore (lv' := [(4, .long (0 : Int64)), (2, .long (0 : Int64)), (0, .ref (q 0)), (1, .int x1)]) hx hb dX10_isTriedGood_3 hl (by decide) rfl (fun ls hl => ?_)
  refine lv_iconst (v := (0 : Int32)) hx hb dX10_isTriedGood_5 (by decide) ?_
  refine lv_istore (lv' := [(6, .int (0 : Int32)), (4, .long (0 : Int64)), (2, .long (0 : Int64)), (0, .ref (q 0)), (1, .int x1)]) hx hb dX10_isTriedGood_6 hl (by decide) rfl (fun ls hl => ?_)
  obtain ⟨n_9, hw⟩ := hw
  refine t_X10_isTriedGood_8 X hK hP (fun x2_9 x4_9 hw ls hl => ?_) n_9 _ _ _ hw ls (lv_sub hl [3, 4, 2, 1, 0] rfl)
  refine lv_aload_n hx hb dX10_isTriedGood_52 rfl (lv_at hl 0 rfl) ?_
  refine gRX10_133 hx hb hown hts hK hP dX10_isTriedGood_53 ?_
  refine lv_bipush (v := (40 : Int32)) hx hb dX10_isTriedGood_56 (by decide +kernel) ?_
  refine lv_icmp_ge (tgt := 72) hx hb dX10_isTriedGood_58 (by decide) (fun c_10 => ?_) (fun c_10 => ?_)
  · have hw := hw.1 c_10
    refine lv_ldc2 (v := (1099511627775 : Int64)) hx hb hown (hts _ (inr18 _ (List.mem_of_getElem? (i := 7) rfl))) dX10_isTriedGood_72 ?_
    exact t_X10_isTriedGood_75 X hK hP hw ls (lv_sub hl [0, 1, 2] rfl)
  · have hw := hw.2 c_10
    refine lv_lconst (v := (1 : Int64)) hx hb dX10_isTriedGood_61 (by decide) ?_
    refine lv_aload_n hx hb dX10_isTriedGood_62 rfl (lv_at hl 0 rfl) ?_
    refine gRX10_133 hx hb hown hts hK hP dX10_isTriedGood_63 ?_
    refine lv_lshl hx hb dX10_isTriedGood_66 rfl ?_
    refine lv_lconst (v := (1 : Int64)) hx hb dX10_isTriedGood_67 (by decide) ?_
    refine lv_lsub hx hb dX10_isTriedGood_68 ?_
    refine lv_goto (tgt := 75) hx hb dX10_isTriedGood_69 (by decide) ?_
    exact t_X10_isTriedGood_75 X hK hP hw ls (lv_sub hl [0, 1, 2] rfl)
abbrev Z_X10_goesOn (D : va_G) (q : Nat → Nat) (cA : Nat → ClassId) (i_pageLength : Int32) (a_page : Nat → Int32) (i_states : Int32) (i_columns : Int32) (a_entries : Nat → Int32) (i_signals : Int32) (a_signalAt : Nat → Int32) (i_walksAt : Int32) (i_turned : Int32) (i_changed : Int32) (i_read : Int32) (i_newRows : Int32) (i_newEntries : Int32) (i_newColumns : Int32) (i_greatest : Int32) (a_newAt : Nat → Int32) (i_partings : Int32) (a_lowSet : Nat → Int32) (a_highSet : Nat → Int32) (i_leastMany : Int32) (a_leastAt : Nat → Int32) (a_keptLow : Nat → Int64) (a_keptHigh : Nat → Int64) (i_laid : Int32) (a_wants : Nat → Int32) (i_wide : Int32) (a_wideAsked : Nat → Int32) (a_wideOnes : Nat → Int32) (i_sum : Int32) (i_flickers : Int32) (a_sumAt : Nat → Int32) (j_h : Int64) (post : Int32 → (Nat → Int32) → Prop) : Int32 → State → Prop := fun r t => ∃ (y_a_tried : Nat → Int32), post r y_a_tried ∧ va_P D vwCl (wM q cA i_pageLength a_page i_states i_columns a_entries i_signals a_signalAt i_walksAt i_turned i_changed i_read i_newRows i_newEntries i_newColumns i_greatest a_newAt i_partings a_lowSet a_highSet i_leastMany a_leastAt y_a_tried a_keptLow a_keptHigh i_laid a_wants i_wide a_wideAsked a_wideOnes i_sum i_flickers a_sumAt j_h) t.heap
set_option maxHeartbeats 4000000 in
set_option maxRecDepth 100000 in
theorem t_X10_goesOn_4 {p : Program} {l : Launch} {e : Env} {R : Room} {s : State} {m : MethodId} {args : Array Value} {below : List Frame} {meth : Method} {c : Code} {A : Nat → Prop} {D : va_G} {q : Nat → Nat} {cA : Nat → ClassId} {i_pageLength : Int32} {a_page : Nat → Int32} {i_states : Int32} {i_columns : Int32} {a_entries : Nat → Int32} {i_signals : Int32} {a_signalAt : Nat → Int32} {i_walksAt : Int32} {i_turned : Int32} {i_changed : Int32} {i_read : Int32} {i_newRows : Int32} {i_newEntries : Int32} {i_newColumns : Int32} {i_greatest : Int32} {a_newAt : Nat → Int32} {i_partings : Int32} {a_lowSet : Nat → Int32} {a_highSet : Nat → Int32} {i_leastMany : Int32} {a_leastAt : Nat → Int32} {a_tried : Nat → Int32} {a_keptLow : Nat → Int64} {a_keptHigh : Nat → Int64} {i_laid : Int32} {a_wants : Nat → Int32} {i_wide : Int32} {a_wideAsked : Nat → Int32} {a_wideOnes : Nat → Int32} {i_sum : Int32} {i_flickers : Int32} {a_sumAt : Nat → Int32} {j_h : Int64} {post : Int32 → (Nat → Int32) → Prop} {KE : Int32 → Prop} {x1 : Int32} (X : kC p R s m args meth c cX10_goesOn RX10 4 (some .boolean) 0) (hK : va_K D vwCl (tyM cA) s) (hE : ∀ (x2 : Int32), KE x2 → ∀ (ls : Array Slot) (H : Heap) (locs : List Loc), lv_has ls 4 [(0, .ref (q 0)), (1, .int x1), (2, .int x2)] → va_P D vwCl (wM q cA i_pageLength a_page i_states i_columns a_entries i_signals a_signalAt i_walksAt i_turned i_changed i_read i_newRows i_newEntries i_newColumns i_greatest a_newAt i_partings a_lowSet a_highSet i_leastMany a_leastAt a_tried a_keptLow a_keptHigh i_laid a_wants i_wide a_wideAsked a_wideOnes i_sum i_flickers a_sumAt j_h) H → va_D A (wM q cA i_pageLength a_page i_states i_columns a_entries i_signals a_signalAt i_walksAt i_turned i_changed i_read i_newRows i_newEntries i_newColumns i_greatest a_newAt i_partings a_lowSet a_highSet i_leastMany a_leastAt a_tried a_keptLow a_keptHigh i_laid a_wants i_wide a_wideAsked a_wideOnes i_sum i_flickers a_sumAt j_h) → va_S A s.heap H locs → W p l e R s m args below meth c H locs 0 0 (MQ below (qWi (Z_X10_goesOn D q cA i_pageLength a_page i_states i_columns a_entries i_signals a_signalAt i_walksAt i_turned i_changed i_read i_newRows i_newEntries i_newColumns i_greatest a_newAt i_partings a_lowSet a_highSet i_leastMany a_leastAt a_keptLow a_keptHigh i_laid a_wants i_wide a_wideAsked a_wideOnes i_sum i_flickers a_sumAt j_h post) A) args s 0 0 A) (F0 m 35 ls [])) : ∀ (n : Nat) (x2 : Int32), w_X10_goesOn_4 KE i_states a_tried x1 n x2 → ∀ (ls : Array Slot) (H : Heap) (locs : List Loc), lv_has ls 4 [(0, .ref (q 0)), (1, .int x1), (2, .int x2)] → va_P D vwCl (wM q cA i_pageLength a_page i_states i_columns a_entries i_signals a_signalAt i_walksAt i_turned i_changed i_read i_newRows i_newEntries i_newColumns i_greatest a_newAt i_partings a_lowSet a_highSet i_leastMany a_leastAt a_tried a_keptLow a_keptHigh i_laid a_wants i_wide a_wideAsked a_wideOnes i_sum i_flickers a_sumAt j_h) H → va_D A (wM q cA i_pageLength a_page i_states i_columns a_entries i_signals a_signalAt i_walksAt i_turned i_changed i_read i_newRows i_newEntries i_newColumns i_greatest a_newAt i_partings a_lowSet a_highSet i_leastMany a_leastAt a_tried a_keptLow a_keptHigh i_laid a_wants i_wide a_wideAsked a_wideOnes i_sum i_flickers a_sumAt j_h) → va_S A s.heap H locs → W p l e R s m args below meth c H locs 0 0 (MQ below (qWi (Z_X10_goesOn D q cA i_pageLength a_page i_states i_columns a_entries i_signals a_signalAt i_walksAt i_turned i_changed i_read i_newRows i_newEntries i_newColumns i_greatest a_newAt i_partings a_lowSet a_highSet i_leastMany a_leastAt a_keptLow a_keptHigh i_laid a_wants i_wide a_wideAsked a_wideOnes i_sum i_flickers a_sumAt j_h post) A) args s 0 0 A) (F0 m 4 ls []) := by
  obtain ⟨hx, hb, hml, hown, hts, hr, hlocks, hRf, hRl⟩ := id X
  intro n
  induction n with
  | zero => intro x2 hw; exact (show False from hw).elim
  | succ n ih =>
    intro x2 hw ls H locs hl hP hD hS
    refine lv_iload_n hx hb dX10_goesOn_4 rfl (lv_at hl 2 rfl) ?_
    refine lv_if_lt (tgt := 35) hx hb dX10_goesOn_5 (by decide) (fun c_2 => ?_) (fun c_2 => ?_)
    · have hw := hw.1 c_2
      exact hE _ hw ls _ _ (lv_sub hl [0, 1, 2] rfl) hP hD hS
    · have hw := hw.2 c_2
      refine lv_aload_n hx hb dX10_goesOn_8 rfl (lv_at hl 0 rfl) ?_
      refine gRX10_38 hx hb hown hts hK hP dX10_goesOn_9 ?_
      refine lv_iload_n hx hb dX10_goesOn_12 rfl (lv_at hl 2 rfl) ?_
      have h_3 := hw.1
      have hw := hw.2
      refine ld_a_tried hx hb hK hP h_3 dX10_goesOn_13 ?_
      refine lv_iconst (v := (2 : Int32)) hx hb dX10_goesOn_14 (by decide) ?_
      refine lv_iload_n hx hb dX10_goesOn_15 rfl (lv_at hl 1 rfl) ?_
      refine lv_iload_n hx hb dX10_goesOn_16 rfl (lv_at hl 2 rfl) ?_
      refine lv_isub hx hb dX10_goesOn_17 ?_
      refine lv_imul hx hb dX10_goesOn_18 ?_
      refine lv_iadd hx hb dX10_goesOn_19 ?_
      refine lv_iconst (v := (1 : Int32)) hx hb dX10_goesOn_20 (by decide) ?_
      refine lv_aload_n hx hb dX10_goesOn_21 rfl (lv_at hl 0 rfl) ?_
      refine gRX10_87 hx hb hown hts hK hP dX10_goesOn_22 ?_
      refine lv_ishl hx hb dX10_goesOn_25 ?_
      refine lv_icmp_lt (tgt := 35) hx hb dX10_goesOn_26 (by decide) (fun c_4 => ?_) (fun c_4 => ?_)
      · have hw := hw.1 c_4
        exact hE _ hw ls _ _ (lv_sub hl [0, 1, 2] rfl) hP hD hS
      · have hw := hw.2 c_4
        obtain ⟨x2_5, e_5⟩ : ∃ z : Int32, z = x2 + ((-1) : Int32) := ⟨_, rfl⟩
        have hw := hw x2_5 e_5
        refine lv_iinc (v := x2_5) (lv' := [(2, .int x2_5), (0, .ref (q 0)), (1, .int x1)]) hx hb dX10_goesOn_29 hl (k := 2) rfl (by rw [e_5]; rfl) (by decide) rfl (fun ls hl => ?_)
        refine lv_goto (tgt := 4) hx hb dX10_goesOn_32 (by decide) ?_
        exact ih _ hw ls _ _ (lv_sub hl [1, 2, 0] rfl) hP hD hS
set_option maxHeartbeats 4000000 in
set_option maxRecDepth 100000 in
theorem t_X10_goesOn_55 {p : Program} {l : Launch} {e : Env} {R : Room} {s : State} {m : MethodId} {args : Array Value} {below : List Frame} {meth : Method} {c : Code} {A : Nat → Prop} {D : va_G} {q : Nat → Nat} {cA : Nat → ClassId} {i_pageLength : Int32} {a_page : Nat → Int32} {i_states : Int32} {i_columns : Int32} {a_entries : Nat → Int32} {i_signals : Int32} {a_signalAt : Nat → Int32} {i_walksAt : Int32} {i_turned : Int32} {i_changed : Int32} {i_read : Int32} {i_newRows : Int32} {i_newEntries : Int32} {i_newColumns : Int32} {i_greatest : Int32} {a_newAt : Nat → Int32} {i_partings : Int32} {a_lowSet : Nat → Int32} {a_highSet : Nat → Int32} {i_leastMany : Int32} {a_leastAt : Nat → Int32} {a_keptLow : Nat → Int64} {a_keptHigh : Nat → Int64} {i_laid : Int32} {a_wants : Nat → Int32} {i_wide : Int32} {a_wideAsked : Nat → Int32} {a_wideOnes : Nat → Int32} {i_sum : Int32} {i_flickers : Int32} {a_sumAt : Nat → Int32} {j_h : Int64} {post : Int32 → (Nat → Int32) → Prop} {KE : (Nat → Int32) → Prop} {x1 : Int32} (X : kC p R s m args meth c cX10_goesOn RX10 4 (some .boolean) 0) (hK : va_K D vwCl (tyM cA) s) (hE : ∀ (a_tried : Nat → Int32), KE a_tried → ∀ (ls : Array Slot) (H : Heap) (locs : List Loc), lv_has ls 4 [] → va_P D vwCl (wM q cA i_pageLength a_page i_states i_columns a_entries i_signals a_signalAt i_walksAt i_turned i_changed i_read i_newRows i_newEntries i_newColumns i_greatest a_newAt i_partings a_lowSet a_highSet i_leastMany a_leastAt a_tried a_keptLow a_keptHigh i_laid a_wants i_wide a_wideAsked a_wideOnes i_sum i_flickers a_sumAt j_h) H → va_D A (wM q cA i_pageLength a_page i_states i_columns a_entries i_signals a_signalAt i_walksAt i_turned i_changed i_read i_newRows i_newEntries i_newColumns i_greatest a_newAt i_partings a_lowSet a_highSet i_leastMany a_leastAt a_tried a_keptLow a_keptHigh i_laid a_wants i_wide a_wideAsked a_wideOnes i_sum i_flickers a_sumAt j_h) → va_S A s.heap H locs → W p l e R s m args below meth c H locs 0 0 (MQ below (qWi (Z_X10_goesOn D q cA i_pageLength a_page i_states i_columns a_entries i_signals a_signalAt i_walksAt i_turned i_changed i_read i_newRows i_newEntries i_newColumns i_greatest a_newAt i_partings a_lowSet a_highSet i_leastMany a_leastAt a_keptLow a_keptHigh i_laid a_wants i_wide a_wideAsked a_wideOnes i_sum i_flickers a_sumAt j_h post) A) args s 0 0 A) (F0 m 82 ls [])) : ∀ (n : Nat) (x3 : Int32) (a_tried : Nat → Int32), w_X10_goesOn_55 KE x1 n x3 a_tried → ∀ (ls : Array Slot) (H : Heap) (locs : List Loc), lv_has ls 4 [(0, .ref (q 0)), (1, .int x1), (3, .int x3)] → va_P D vwCl (wM q cA i_pageLength a_page i_states i_columns a_entries i_signals a_signalAt i_walksAt i_turned i_changed i_read i_newRows i_newEntries i_newColumns i_greatest a_newAt i_partings a_lowSet a_highSet i_leastMany a_leastAt a_tried a_keptLow a_keptHigh i_laid a_wants i_wide a_wideAsked a_wideOnes i_sum i_flickers a_sumAt j_h) H → va_D A (wM q cA i_pageLength a_page i_states i_columns a_entries i_signals a_signalAt i_walksAt i_turned i_changed i_read i_newRows i_newEntries i_newColumns i_greatest a_newAt i_partings a_lowSet a_highSet i_leastMany a_leastAt a_tried a_keptLow a_keptHigh i_laid a_wants i_wide a_wideAsked a_wideOnes i_sum i_flickers a_sumAt j_h) → va_S A s.heap H locs → W p l e R s m args below meth c H locs 0 0 (MQ below (qWi (Z_X10_goesOn D q cA i_pageLength a_page i_states i_columns a_entries i_signals a_signalAt i_walksAt i_turned i_changed i_read i_newRows i_newEntries i_newColumns i_greatest a_newAt i_partings a_lowSet a_highSet i_leastMany a_leastAt a_keptLow a_keptHigh i_laid a_wants i_wide a_wideAsked a_wideOnes i_sum i_flickers a_sumAt j_h post) A) args s 0 0 A) (F0 m 55 ls []) := by
  obtain ⟨hx, hb, hml, hown, hts, hr, hlocks, hRf, hRl⟩ := id X
  intro n
  induction n with
  | zero => intro x3 a_tried hw; exact (show False from hw).elim
  | succ n ih =>
    intro x3 a_tried hw ls H locs hl hP hD hS
    refine lv_iload_n hx hb dX10_goesOn_55 rfl (lv_at hl 2 rfl) ?_
    refine lv_iload_n hx hb dX10_goesOn_56 rfl (lv_at hl 1 rfl) ?_
    refine lv_icmp_ge (tgt := 82) hx hb dX10_goesOn_57 (by decide) (fun c_11 => ?_) (fun c_11 => ?_)
    · have hw := hw.1 c_11
      exact hE _ hw ls _ _ (lv_sub hl [] rfl) hP hD hS
    · have hw := hw.2 c_11
      refine lv_aload_n hx hb dX10_goesOn_60 rfl (lv_at hl 0 rfl) ?_
      refine gRX10_38 hx hb hown hts hK hP dX10_goesOn_61 ?_
      refine lv_iload_n hx hb dX10_goesOn_64 rfl (lv_at hl 2 rfl) ?_
      refine lv_aload_n hx hb dX10_goesOn_65 rfl (lv_at hl 0 rfl) ?_
      refine gRX10_38 hx hb hown hts hK hP dX10_goesOn_66 ?_
      refine lv_iload_n hx hb dX10_goesOn_69 rfl (lv_at hl 2 rfl) ?_
      refine lv_iconst (v := (1 : Int32)) hx hb dX10_goesOn_70 (by decide) ?_
      refine lv_isub hx hb dX10_goesOn_71 ?_
      have h_12 := hw.1
      have hw := hw.2
      refine ld_a_tried hx hb hK hP h_12 dX10_goesOn_72 ?_
      refine lv_iconst (v := (2 : Int32)) hx hb dX10_goesOn_73 (by decide) ?_
      refine lv_iadd hx hb dX10_goesOn_74 ?_
      have h_13 := hw.1
      have hw := hw.2
      refine st_a_tried hx hb hK hP hD hS h_13 dX10_goesOn_75 (fun H locs a_13 e_13 hP hD hS => ?_)
      have hw := hw a_13 e_13
      obtain ⟨x3_14, e_14⟩ : ∃ z : Int32, z = x3 + (1 : Int32) := ⟨_, rfl⟩
      have hw := hw x3_14 e_14
      refine lv_iinc (v := x3_14) (lv' := [(3, .int x3_14), (0, .ref (q 0)), (1, .int x1)]) hx hb dX10_goesOn_76 hl (k := 2) rfl (by rw [e_14]; rfl) (by decide) rfl (fun ls hl => ?_)
      refine lv_goto (tgt := 55) hx hb dX10_goesOn_79 (by decide) ?_
      exact ih _ _ hw ls _ _ (lv_sub hl [1, 2, 0] rfl) hP hD hS
set_option maxHeartbeats 4000000 in
set_option maxRecDepth 100000 in
theorem t_X10_goesOn_35 {p : Program} {l : Launch} {e : Env} {R : Room} {s : State} {m : MethodId} {args : Array Value} {below : List Frame} {meth : Method} {c : Code} {A : Nat → Prop} {D : va_G} {q : Nat → Nat} {cA : Nat → ClassId} {i_pageLength : Int32} {a_page : Nat → Int32} {i_states : Int32} {i_columns : Int32} {a_entries : Nat → Int32} {i_signals : Int32} {a_signalAt : Nat → Int32} {i_walksAt : Int32} {i_turned : Int32} {i_changed : Int32} {i_read : Int32} {i_newRows : Int32} {i_newEntries : Int32} {i_newColumns : Int32} {i_greatest : Int32} {a_newAt : Nat → Int32} {i_partings : Int32} {a_lowSet : Nat → Int32} {a_highSet : Nat → Int32} {i_leastMany : Int32} {a_leastAt : Nat → Int32} {a_tried : Nat → Int32} {a_keptLow : Nat → Int64} {a_keptHigh : Nat → Int64} {i_laid : Int32} {a_wants : Nat → Int32} {i_wide : Int32} {a_wideAsked : Nat → Int32} {a_wideOnes : Nat → Int32} {i_sum : Int32} {i_flickers : Int32} {a_sumAt : Nat → Int32} {j_h : Int64} {post : Int32 → (Nat → Int32) → Prop} {x1 : Int32} {x2 : Int32} (X : kC p R s m args meth c cX10_goesOn RX10 4 (some .boolean) 0) (hK : va_K D vwCl (tyM cA) s) (hw : j_X10_goesOn_35 post a_tried x1 x2) (ls : Array Slot) (H : Heap) (locs : List Loc) (hl : lv_has ls 4 [(0, .ref (q 0)), (1, .int x1), (2, .int x2)]) (hP : va_P D vwCl (wM q cA i_pageLength a_page i_states i_columns a_entries i_signals a_signalAt i_walksAt i_turned i_changed i_read i_newRows i_newEntries i_newColumns i_greatest a_newAt i_partings a_lowSet a_highSet i_leastMany a_leastAt a_tried a_keptLow a_keptHigh i_laid a_wants i_wide a_wideAsked a_wideOnes i_sum i_flickers a_sumAt j_h) H) (hD : va_D A (wM q cA i_pageLength a_page i_states i_columns a_entries i_signals a_signalAt i_walksAt i_turned i_changed i_read i_newRows i_newEntries i_newColumns i_greatest a_newAt i_partings a_lowSet a_highSet i_leastMany a_leastAt a_tried a_keptLow a_keptHigh i_laid a_wants i_wide a_wideAsked a_wideOnes i_sum i_flickers a_sumAt j_h)) (hS : va_S A s.heap H locs) : W p l e R s m args below meth c H locs 0 0 (MQ below (qWi (Z_X10_goesOn D q cA i_pageLength a_page i_states i_columns a_entries i_signals a_signalAt i_walksAt i_turned i_changed i_read i_newRows i_newEntries i_newColumns i_greatest a_newAt i_partings a_lowSet a_highSet i_leastMany a_leastAt a_keptLow a_keptHigh i_laid a_wants i_wide a_wideAsked a_wideOnes i_sum i_flickers a_sumAt j_h post) A) args s 0 0 A) (F0 m 35 ls []) := by
  obtain ⟨hx, hb, hml, hown, hts, hr, hlocks, hRf, hRl⟩ := id X
  refine lv_iload_n hx hb dX10_goesOn_35 rfl (lv_at hl 2 rfl) ?_
  refine lv_if_ge (tgt := 41) hx hb dX10_goesOn_36 (by decide) (fun c_7 => ?_) (fun c_7 => ?_)
  · have hw := hw.1 c_7
    refine lv_aload_n hx hb dX10_goesOn_41 rfl (lv_at hl 0 rfl) ?_
    refine gRX10_38 hx hb hown hts hK hP dX10_goesOn_42 ?_
    refine lv_iload_n hx hb dX10_goesOn_45 rfl (lv_at hl 2 rfl) ?_
    refine lv_dup2_11 hx hb dX10_goesOn_46 rfl rfl ?_
    have h_8 := hw.1
    have hw := hw.2
    refine ld_a_tried hx hb hK hP h_8 dX10_goesOn_47 ?_
    refine lv_iconst (v := (2 : Int32)) hx hb dX10_goesOn_48 (by decide) ?_
    refine lv_iadd hx hb dX10_goesOn_49 ?_
    have h_9 := hw.1
    have hw := hw.2
    refine st_a_tried hx hb hK hP hD hS h_9 dX10_goesOn_50 (fun H locs a_9 e_9 hP hD hS => ?_)
    have hw := hw a_9 e_9
    refine lv_iload_n hx hb dX10_goesOn_51 rfl (lv_at hl 2 rfl) ?_
    refine lv_iconst (v := (1 : Int32)) hx hb dX10_goesOn_52 (by decide) ?_
    refine lv_iadd hx hb dX10_goesOn_53 ?_
    refine lv_topi (fun x3_10 e_10 => ?_)
    have hw := hw x3_10 e_10
    refine lv_istore_n (lv' := [(3, .int x3_10), (0, .ref (q 0)), (1, .int x1), (2, .int x2)]) hx hb dX10_goesOn_54 rfl hl (by decide) rfl (fun ls hl => ?_)
    obtain ⟨n_15, hw⟩ := hw
    refine t_X10_goesOn_55 X hK (fun ytried_15 hw ls H locs hl hP hD hS => ?_) n_15 _ _ hw ls _ _ (lv_sub hl [1, 2, 0] rfl) hP hD hS
    refine lv_iconst (v := (1 : Int32)) hx hb dX10_goesOn_82 (by decide) ?_
    exact rw_z hx hb hr hlocks rfl (fun t ht => ⟨ytried_15, hw, by rw [ht]; exact hP⟩) hS dX10_goesOn_83
  · have hw := hw.2 c_7
    refine lv_iconst (v := (0 : Int32)) hx hb dX10_goesOn_39 (by decide) ?_
    exact rw_z hx hb hr hlocks rfl (fun t ht => ⟨a_tried, hw, by rw [ht]; exact hP⟩) hS dX10_goesOn_40
set_option maxHeartbeats 4000000 in
set_option maxRecDepth 100000 in
theorem c_X10_goesOn (l : Launch) {D : va_G} {q : Nat → Nat} {cA : Nat → ClassId} {i_pageLength : Int32} {a_page : Nat → Int32} {i_states : Int32} {i_columns : Int32} {a_entries : Nat → Int32} {i_signals : Int32} {a_signalAt : Nat → Int32} {i_walksAt : Int32} {i_turned : Int32} {i_changed : Int32} {i_read : Int32} {i_newRows : Int32} {i_newEntries : Int32} {i_newColumns : Int32} {i_greatest : Int32} {a_newAt : Nat → Int32} {i_partings : Int32} {a_lowSet : Nat → Int32} {a_highSet : Nat → Int32} {i_leastMany : Int32} {a_leastAt : Nat → Int32} {a_tried : Nat → Int32} {a_keptLow : Nat → Int64} {a_keptHigh : Nat → Int64} {i_laid : Int32} {a_wants : Nat → Int32} {i_wide : Int32} {a_wideAsked : Nat → Int32} {a_wideOnes : Nat → Int32} {i_sum : Int32} {i_flickers : Int32} {a_sumAt : Nat → Int32} {j_h : Int64} {A : Nat → Prop} {post : Int32 → (Nat → Int32) → Prop} {x1 : Int32} (hw : wp_X10_goesOn post i_states a_tried x1) : Met l yX10_goesOn (Cond.code yX10_goesOn cX10_goesOn 4 (some .boolean) :: wsL_law) (rmH 0) (va_Pc [.ref (q 0), .int x1] (fun U => va_P D vwCl (wM q cA i_pageLength a_page i_states i_columns a_entries i_signals a_signalAt i_walksAt i_turned i_changed i_read i_newRows i_newEntries i_newColumns i_greatest a_newAt i_partings a_lowSet a_highSet i_leastMany a_leastAt a_tried a_keptLow a_keptHigh i_laid a_wants i_wide a_wideAsked a_wideOnes i_sum i_flickers a_sumAt j_h) U.heap ∧ va_K D vwCl (tyM cA) U ∧ va_D A (wM q cA i_pageLength a_page i_states i_columns a_entries i_signals a_signalAt i_walksAt i_turned i_changed i_read i_newRows i_newEntries i_newColumns i_greatest a_newAt i_partings a_lowSet a_highSet i_leastMany a_leastAt a_tried a_keptLow a_keptHigh i_laid a_wants i_wide a_wideAsked a_wideOnes i_sum i_flickers a_sumAt j_h))) (qWi (Z_X10_goesOn D q cA i_pageLength a_page i_states i_columns a_entries i_signals a_signalAt i_walksAt i_turned i_changed i_read i_newRows i_newEntries i_newColumns i_greatest a_newAt i_partings a_lowSet a_highSet i_leastMany a_leastAt a_keptLow a_keptHigh i_laid a_wants i_wide a_wideAsked a_wideOnes i_sum i_flickers a_sumAt j_h post) A) 0 0 A := by
  refine Met.ofW (cc := cX10_goesOn) (maxL := 4) (ret := (some .boolean)) (by decide) rfl ?_
  intro p e s m args below meth c s₁ B hml hv
  obtain ⟨rfl, hP, hK, hD⟩ := hv
  have X : kC p (headSpec (Cond.code yX10_goesOn cX10_goesOn 4 (some .boolean) :: wsL_law) (rmH 0)).room s m _ meth c cX10_goesOn RX10 4 (some .boolean) 0 := ⟨B.exec, B.bytes, hml, findClass_of_methodNamed B.named, fun w h => atoms_spec (ws := Cond.code yX10_goesOn cX10_goesOn 4 (some .boolean) :: wsL_law) B.pre w (List.mem_cons_of_mem _ h), B.returns, B.notSynchronized, Nat.le_refl _, Nat.le_refl _⟩
  obtain ⟨hx, hb, hml, hown, hts, hr, hlocks, hRf, hRl⟩ := id X
  have hS : va_S A s.heap s.heap [] := va_S.rf
  have hl := lv_entry ([.ref (q 0), .int x1]) (n := 4) (Nat.le_of_ble_eq_true rfl)
  rw [lg_entry_eq]
  generalize (lg_sl ([.ref (q 0), .int x1]) ++ List.replicate (4 - (lg_sl ([.ref (q 0), .int x1])).length) Slot.unset).toArray = ls at hl ⊢
  have hl : lv_has ls 4 [(0, .ref (q 0)), (1, .int x1)] := hl
  refine lv_iload_n hx hb dX10_goesOn_0 rfl (lv_at hl 1 rfl) ?_
  refine lv_iconst (v := (1 : Int32)) hx hb dX10_goesOn_1 (by decide) ?_
  refine lv_isub hx hb dX10_goesOn_2 ?_
  refine lv_topi (fun x2_1 e_1 => ?_)
  have hw := hw x2_1 e_1
  refine lv_istore_n (lv' := [(2, .int x2_1), (0, .ref (q 0)), (1, .int x1)]) hx hb dX10_goesOn_3 rfl hl (by decide) rfl (fun ls hl => ?_)
  obtain ⟨n_6, hw⟩ := hw
  refine t_X10_goesOn_4 X hK (fun x2_6 hw ls H locs hl hP hD hS => ?_) n_6 _ hw ls _ _ (lv_sub hl [1, 2, 0] rfl) hP hD hS
  exact t_X10_goesOn_35 X hK hw ls _ _ (lv_sub hl [0, 1, 2] rfl) hP hD hS
abbrev Z_X10_findLeast (D : va_G) (q : Nat → Nat) (cA : Nat → ClassId) (i_pageLength : Int32) (a_page : Nat → Int32) (i_states : Int32) (i_columns : Int32) (a_entries : Nat → Int32) (i_signals : Int32) (a_signalAt : Nat → Int32) (i_walksAt : Int32) (i_turned : Int32) (i_changed : Int32) (i_read : Int32) (i_newRows : Int32) (i_newEntries : Int32) (i_newColumns : Int32) (i_greatest : Int32) (a_newAt : Nat → Int32) (i_partings : Int32) (a_lowSet : Nat → Int32) (a_highSet : Nat → Int32) (i_leastMany : Int32) (a_leastAt : Nat → Int32) (a_keptLow : Nat → Int64) (a_keptHigh : Nat → Int64) (i_laid : Int32) (a_wants : Nat → Int32) (i_wide : Int32) (a_wideAsked : Nat → Int32) (a_wideOnes : Nat → Int32) (i_sum : Int32) (i_flickers : Int32) (a_sumAt : Nat → Int32) (j_h : Int64) (post : Int32 → (Nat → Int32) → Prop) : Int32 → State → Prop := fun r t => ∃ (y_a_tried : Nat → Int32), post r y_a_tried ∧ va_P D vwCl (wM q cA i_pageLength a_page i_states i_columns a_entries i_signals a_signalAt i_walksAt i_turned i_changed i_read i_newRows i_newEntries i_newColumns i_greatest a_newAt i_partings a_lowSet a_highSet i_leastMany a_leastAt y_a_tried a_keptLow a_keptHigh i_laid a_wants i_wide a_wideAsked a_wideOnes i_sum i_flickers a_sumAt j_h) t.heap
set_option maxHeartbeats 4000000 in
set_option maxRecDepth 100000 in
theorem t_X10_findLeast_2 {p : Program} {l : Launch} {e : Env} {R : Room} {s : State} {m : MethodId} {args : Array Value} {below : List Frame} {meth : Method} {c : Code} {A : Nat → Prop} {D : va_G} {q : Nat → Nat} {cA : Nat → ClassId} {i_pageLength : Int32} {a_page : Nat → Int32} {i_states : Int32} {i_columns : Int32} {a_entries : Nat → Int32} {i_signals : Int32} {a_signalAt : Nat → Int32} {i_walksAt : Int32} {i_turned : Int32} {i_changed : Int32} {i_read : Int32} {i_newRows : Int32} {i_newEntries : Int32} {i_newColumns : Int32} {i_greatest : Int32} {a_newAt : Nat → Int32} {i_partings : Int32} {a_lowSet : Nat → Int32} {a_highSet : Nat → Int32} {i_leastMany : Int32} {a_leastAt : Nat → Int32} {a_keptLow : Nat → Int64} {a_keptHigh : Nat → Int64} {i_laid : Int32} {a_wants : Nat → Int32} {i_wide : Int32} {a_wideAsked : Nat → Int32} {a_wideOnes : Nat → Int32} {i_sum : Int32} {i_flickers : Int32} {a_sumAt : Nat → Int32} {j_h : Int64} {post : Int32 → (Nat → Int32) → Prop} {KE : (Nat → Int32) → Prop} {x1 : Int32} (X : kC p R s m args meth c cX10_findLeast RX10 3 (some .boolean) 1) (hK : va_K D vwCl (tyM cA) s) (hE : ∀ (a_tried : Nat → Int32), KE a_tried → ∀ (ls : Array Slot) (H : Heap) (locs : List Loc), lv_has ls 3 [(0, .ref (q 0)), (1, .int x1)] → va_P D vwCl (wM q cA i_pageLength a_page i_states i_columns a_entries i_signals a_signalAt i_walksAt i_turned i_changed i_read i_newRows i_newEntries i_newColumns i_greatest a_newAt i_partings a_lowSet a_highSet i_leastMany a_leastAt a_tried a_keptLow a_keptHigh i_laid a_wants i_wide a_wideAsked a_wideOnes i_sum i_flickers a_sumAt j_h) H → va_D A (wM q cA i_pageLength a_page i_states i_columns a_entries i_signals a_signalAt i_walksAt i_turned i_changed i_read i_newRows i_newEntries i_newColumns i_greatest a_newAt i_partings a_lowSet a_highSet i_leastMany a_leastAt a_tried a_keptLow a_keptHigh i_laid a_wants i_wide a_wideAsked a_wideOnes i_sum i_flickers a_sumAt j_h) → va_S A s.heap H locs → W p l e R s m args below meth c H locs 0 0 (MQ below (qWi (Z_X10_findLeast D q cA i_pageLength a_page i_states i_columns a_entries i_signals a_signalAt i_walksAt i_turned i_changed i_read i_newRows i_newEntries i_newColumns i_greatest a_newAt i_partings a_lowSet a_highSet i_leastMany a_leastAt a_keptLow a_keptHigh i_laid a_wants i_wide a_wideAsked a_wideOnes i_sum i_flickers a_sumAt j_h post) A) args s 0 0 A) (F0 m 22 ls [])) : ∀ (n : Nat) (x2 : Int32) (a_tried : Nat → Int32), w_X10_findLeast_2 KE x1 n x2 a_tried → ∀ (ls : Array Slot) (H : Heap) (locs : List Loc), lv_has ls 3 [(0, .ref (q 0)), (1, .int x1), (2, .int x2)] → va_P D vwCl (wM q cA i_pageLength a_page i_states i_columns a_entries i_signals a_signalAt i_walksAt i_turned i_changed i_read i_newRows i_newEntries i_newColumns i_greatest a_newAt i_partings a_lowSet a_highSet i_leastMany a_leastAt a_tried a_keptLow a_keptHigh i_laid a_wants i_wide a_wideAsked a_wideOnes i_sum i_flickers a_sumAt j_h) H → va_D A (wM q cA i_pageLength a_page i_states i_columns a_entries i_signals a_signalAt i_walksAt i_turned i_changed i_read i_newRows i_newEntries i_newColumns i_greatest a_newAt i_partings a_lowSet a_highSet i_leastMany a_leastAt a_tried a_keptLow a_keptHigh i_laid a_wants i_wide a_wideAsked a_wideOnes i_sum i_flickers a_sumAt j_h) → va_S A s.heap H locs → W p l e R s m args below meth c H locs 0 0 (MQ below (qWi (Z_X10_findLeast D q cA i_pageLength a_page i_states i_columns a_entries i_signals a_signalAt i_walksAt i_turned i_changed i_read i_newRows i_newEntries i_newColumns i_greatest a_newAt i_partings a_lowSet a_highSet i_leastMany a_leastAt a_keptLow a_keptHigh i_laid a_wants i_wide a_wideAsked a_wideOnes i_sum i_flickers a_sumAt j_h post) A) args s 0 0 A) (F0 m 2 ls []) := by
  obtain ⟨hx, hb, hml, hown, hts, hr, hlocks, hRf, hRl⟩ := id X
  intro n
  induction n with
  | zero => intro x2 a_tried hw; exact (show False from hw).elim
  | succ n ih =>
    intro x2 a_tried hw ls H locs hl hP hD hS
    refine lv_iload_n hx hb dX10_findLeast_2 rfl (lv_at hl 2 rfl) ?_
    refine lv_iload_n hx hb dX10_findLeast_3 rfl (lv_at hl 1 rfl) ?_
    refine lv_icmp_ge (tgt := 22) hx hb dX10_findLeast_4 (by decide) (fun c_1 => ?_) (fun c_1 => ?_)
    · have hw := hw.1 c_1
      exact hE _ hw ls _ _ (lv_sub hl [0, 1] rfl) hP hD hS
    · have hw := hw.2 c_1
      refine lv_aload_n hx hb dX10_findLeast_7 rfl (lv_at hl 0 rfl) ?_
      refine gRX10_38 hx hb hown hts hK hP dX10_findLeast_8 ?_
      refine lv_iload_n hx hb dX10_findLeast_11 rfl (lv_at hl 2 rfl) ?_
      refine lv_iconst (v := (2 : Int32)) hx hb dX10_findLeast_12 (by decide) ?_
      refine lv_iload_n hx hb dX10_findLeast_13 rfl (lv_at hl 2 rfl) ?_
      refine lv_imul hx hb dX10_findLeast_14 ?_
      have h_2 := hw.1
      have hw := hw.2
      refine st_a_tried hx hb hK hP hD hS h_2 dX10_findLeast_15 (fun H locs a_2 e_2 hP hD hS => ?_)
      have hw := hw a_2 e_2
      obtain ⟨x2_3, e_3⟩ : ∃ z : Int32, z = x2 + (1 : Int32) := ⟨_, rfl⟩
      have hw := hw x2_3 e_3
      refine lv_iinc (v := x2_3) (lv' := [(2, .int x2_3), (0, .ref (q 0)), (1, .int x1)]) hx hb dX10_findLeast_16 hl (k := 2) rfl (by rw [e_3]; rfl) (by decide) rfl (fun ls hl => ?_)
      refine lv_goto (tgt := 2) hx hb dX10_findLeast_19 (by decide) ?_
      exact ih _ _ hw ls _ _ (lv_sub hl [1, 2, 0] rfl) hP hD hS
set_option maxHeartbeats 4000000 in
set_option maxRecDepth 100000 in
theorem t_X10_findLeast_40 {p : Program} {l : Launch} {e : Env} {R : Room} {s : State} {m : MethodId} {args : Array Value} {below : List Frame} {meth : Method} {c : Code} {A : Nat → Prop} {D : va_G} {q : Nat → Nat} {cA : Nat → ClassId} {i_pageLength : Int32} {a_page : Nat → Int32} {i_states : Int32} {i_columns : Int32} {a_entries : Nat → Int32} {i_signals : Int32} {a_signalAt : Nat → Int32} {i_walksAt : Int32} {i_turned : Int32} {i_changed : Int32} {i_read : Int32} {i_newRows : Int32} {i_newEntries : Int32} {i_newColumns : Int32} {i_greatest : Int32} {a_newAt : Nat → Int32} {i_partings : Int32} {a_lowSet : Nat → Int32} {a_highSet : Nat → Int32} {i_leastMany : Int32} {a_leastAt : Nat → Int32} {a_keptLow : Nat → Int64} {a_keptHigh : Nat → Int64} {i_laid : Int32} {a_wants : Nat → Int32} {i_wide : Int32} {a_wideAsked : Nat → Int32} {a_wideOnes : Nat → Int32} {i_sum : Int32} {i_flickers : Int32} {a_sumAt : Nat → Int32} {j_h : Int64} {post : Int32 → (Nat → Int32) → Prop} {KE : Int32 → (Nat → Int32) → Prop} {x1 : Int32} (X : kC p R s m args meth c cX10_findLeast RX10 3 (some .boolean) 1) (hK : va_K D vwCl (tyM cA) s) (hE : ∀ (x2 : Int32) (a_tried : Nat → Int32), KE x2 a_tried → ∀ (ls : Array Slot) (H : Heap) (locs : List Loc), lv_has ls 3 [(2, .int x2)] → va_P D vwCl (wM q cA i_pageLength a_page i_states i_columns a_entries i_signals a_signalAt i_walksAt i_turned i_changed i_read i_newRows i_newEntries i_newColumns i_greatest a_newAt i_partings a_lowSet a_highSet i_leastMany a_leastAt a_tried a_keptLow a_keptHigh i_laid a_wants i_wide a_wideAsked a_wideOnes i_sum i_flickers a_sumAt j_h) H → va_D A (wM q cA i_pageLength a_page i_states i_columns a_entries i_signals a_signalAt i_walksAt i_turned i_changed i_read i_newRows i_newEntries i_newColumns i_greatest a_newAt i_partings a_lowSet a_highSet i_leastMany a_leastAt a_tried a_keptLow a_keptHigh i_laid a_wants i_wide a_wideAsked a_wideOnes i_sum i_flickers a_sumAt j_h) → va_S A s.heap H locs → W p l e R s m args below meth c H locs 0 0 (MQ below (qWi (Z_X10_findLeast D q cA i_pageLength a_page i_states i_columns a_entries i_signals a_signalAt i_walksAt i_turned i_changed i_read i_newRows i_newEntries i_newColumns i_greatest a_newAt i_partings a_lowSet a_highSet i_leastMany a_leastAt a_keptLow a_keptHigh i_laid a_wants i_wide a_wideAsked a_wideOnes i_sum i_flickers a_sumAt j_h post) A) args s 0 0 A) (F0 m 61 ls [])) : ∀ (n : Nat) (x2 : Int32) (a_tried : Nat → Int32), w_X10_findLeast_40 KE i_states i_partings a_keptLow a_keptHigh x1 n x2 a_tried → ∀ (ls : Array Slot) (H : Heap) (locs : List Loc), lv_has ls 3 [(0, .ref (q 0)), (1, .int x1), (2, .int x2)] → va_P D vwCl (wM q cA i_pageLength a_page i_states i_columns a_entries i_signals a_signalAt i_walksAt i_turned i_changed i_read i_newRows i_newEntries i_newColumns i_greatest a_newAt i_partings a_lowSet a_highSet i_leastMany a_leastAt a_tried a_keptLow a_keptHigh i_laid a_wants i_wide a_wideAsked a_wideOnes i_sum i_flickers a_sumAt j_h) H → va_D A (wM q cA i_pageLength a_page i_states i_columns a_entries i_signals a_signalAt i_walksAt i_turned i_changed i_read i_newRows i_newEntries i_newColumns i_greatest a_newAt i_partings a_lowSet a_highSet i_leastMany a_leastAt a_tried a_keptLow a_keptHigh i_laid a_wants i_wide a_wideAsked a_wideOnes i_sum i_flickers a_sumAt j_h) → va_S A s.heap H locs → W p l e R s m args below meth c H locs 0 0 (MQ below (qWi (Z_X10_findLeast D q cA i_pageLength a_page i_states i_columns a_entries i_signals a_signalAt i_walksAt i_turned i_changed i_read i_newRows i_newEntries i_newColumns i_greatest a_newAt i_partings a_lowSet a_highSet i_leastMany a_leastAt a_keptLow a_keptHigh i_laid a_wants i_wide a_wideAsked a_wideOnes i_sum i_flickers a_sumAt j_h post) A) args s 0 0 A) (F0 m 40 ls []) := by
  obtain ⟨hx, hb, hml, hown, hts, hr, hlocks, hRf, hRl⟩ := id X
  intro n
  induction n with
  | zero => intro x2 a_tried hw; exact (show False from hw).elim
  | succ n ih =>
    intro x2 a_tried hw ls H locs hl hP hD hS
    refine lv_iload_n hx hb dX10_findLeast_40 rfl (lv_at hl 2 rfl) ?_
    refine lv_if_eq (tgt := 61) hx hb dX10_findLeast_41 (by decide) (fun c_6 => ?_) (fun c_6 => ?_)
    · have hw := hw.1 c_6
      exact hE _ _ hw ls _ _ (lv_sub hl [2] rfl) hP hD hS
    · have hw := hw.2 c_6
      refine lv_aload_n hx hb dX10_findLeast_44 rfl (lv_at hl 0 rfl) ?_
      refine lv_iload_n hx hb dX10_findLeast_45 rfl (lv_at hl 1 rfl) ?_
      refine ro_i (va_runV (As := [.int x1]) (rest := []) ⟨hx, hb, hml, hown, hts⟩ (c_X10_isTriedGood l hw) (kRX10_163 (h := 0) hts (Nat.le_trans (Nat.le_of_ble_eq_true rfl) hRf) (Nat.le_trans (Nat.le_of_ble_eq_true rfl) hRl)) (preM hK hP) rfl rfl hl.1 rfl (lv_room (Nat.le_of_ble_eq_true rfl)) dX10_findLeast_46 ⟨Nat.zero_le _, Nat.zero_le _⟩) (fun r_7 hw => ?_)
      refine lv_if_ne (tgt := 61) hx hb dX10_findLeast_49 (by decide) (fun c_8 => ?_) (fun c_8 => ?_)
      · have hw := hw.2 c_8
        exact hE _ _ hw ls _ _ (lv_sub hl [2] rfl) hP hD hS
      · have hw := hw.1 c_8
        refine lv_aload_n hx hb dX10_findLeast_52 rfl (lv_at hl 0 rfl) ?_
        refine lv_iload_n hx hb dX10_findLeast_53 rfl (lv_at hl 1 rfl) ?_
        refine wr_i (va_runV (As := [.int x1]) (rest := []) ⟨hx, hb, hml, hown, hts⟩ (c_X10_goesOn l hw) (kRX10_166 (h := 0) hts (Nat.le_trans (Nat.le_of_ble_eq_true rfl) hRf) (Nat.le_trans (Nat.le_of_ble_eq_true rfl) hRl)) (preMw hK hP hD) rfl rfl hl.1 rfl (lv_room (Nat.le_of_ble_eq_true rfl)) dX10_findLeast_54 ⟨Nat.zero_le _, Nat.zero_le _⟩) hS (fun r_9 t H locs ht hw hS => ?_)
        obtain ⟨ytried_9, hw, hP⟩ := hw
        rw [ht] at hP
        have hP : va_P D vwCl (wM q cA i_pageLength a_page i_states i_columns a_entries i_signals a_signalAt i_walksAt i_turned i_changed i_read i_newRows i_newEntries i_newColumns i_greatest a_newAt i_partings a_lowSet a_highSet i_leastMany a_leastAt ytried_9 a_keptLow a_keptHigh i_laid a_wants i_wide a_wideAsked a_wideOnes i_sum i_flickers a_sumAt j_h) H := hP
        have hD : va_D A (wM q cA i_pageLength a_page i_states i_columns a_entries i_signals a_signalAt i_walksAt i_turned i_changed i_read i_newRows i_newEntries i_newColumns i_greatest a_newAt i_partings a_lowSet a_highSet i_leastMany a_leastAt ytried_9 a_keptLow a_keptHigh i_laid a_wants i_wide a_wideAsked a_wideOnes i_sum i_flickers a_sumAt j_h) := dM hD
        refine lv_istore_n (lv' := [(2, .int r_9), (0, .ref (q 0)), (1, .int x1)]) hx hb dX10_findLeast_57 rfl hl (by decide) rfl (fun ls hl => ?_)
        refine lv_goto (tgt := 40) hx hb dX10_findLeast_58 (by decide) ?_
        exact ih _ _ hw ls _ _ (lv_sub hl [1, 2, 0] rfl) hP hD hS
set_option maxHeartbeats 4000000 in
set_option maxRecDepth 100000 in
theorem c_X10_findLeast (l : Launch) {D : va_G} {q : Nat → Nat} {cA : Nat → ClassId} {i_pageLength : Int32} {a_page : Nat → Int32} {i_states : Int32} {i_columns : Int32} {a_entries : Nat → Int32} {i_signals : Int32} {a_signalAt : Nat → Int32} {i_walksAt : Int32} {i_turned : Int32} {i_changed : Int32} {i_read : Int32} {i_newRows : Int32} {i_newEntries : Int32} {i_newColumns : Int32} {i_greatest : Int32} {a_newAt : Nat → Int32} {i_partings : Int32} {a_lowSet : Nat → Int32} {a_highSet : Nat → Int32} {i_leastMany : Int32} {a_leastAt : Nat → Int32} {a_tried : Nat → Int32} {a_keptLow : Nat → Int64} {a_keptHigh : Nat → Int64} {i_laid : Int32} {a_wants : Nat → Int32} {i_wide : Int32} {a_wideAsked : Nat → Int32} {a_wideOnes : Nat → Int32} {i_sum : Int32} {i_flickers : Int32} {a_sumAt : Nat → Int32} {j_h : Int64} {A : Nat → Prop} {post : Int32 → (Nat → Int32) → Prop} {x1 : Int32} (hw : wp_X10_findLeast post i_states i_partings a_tried a_keptLow a_keptHigh x1) : Met l yX10_findLeast (Cond.code yX10_findLeast cX10_findLeast 3 (some .boolean) :: wsL_law) (rmH 1) (va_Pc [.ref (q 0), .int x1] (fun U => va_P D vwCl (wM q cA i_pageLength a_page i_states i_columns a_entries i_signals a_signalAt i_walksAt i_turned i_changed i_read i_newRows i_newEntries i_newColumns i_greatest a_newAt i_partings a_lowSet a_highSet i_leastMany a_leastAt a_tried a_keptLow a_keptHigh i_laid a_wants i_wide a_wideAsked a_wideOnes i_sum i_flickers a_sumAt j_h) U.heap ∧ va_K D vwCl (tyM cA) U ∧ va_D A (wM q cA i_pageLength a_page i_states i_columns a_entries i_signals a_signalAt i_walksAt i_turned i_changed i_read i_newRows i_newEntries i_newColumns i_greatest a_newAt i_partings a_lowSet a_highSet i_leastMany a_leastAt a_tried a_keptLow a_keptHigh i_laid a_wants i_wide a_wideAsked a_wideOnes i_sum i_flickers a_sumAt j_h))) (qWi (Z_X10_findLeast D q cA i_pageLength a_page i_states i_columns a_entries i_signals a_signalAt i_walksAt i_turned i_changed i_read i_newRows i_newEntries i_newColumns i_greatest a_newAt i_partings a_lowSet a_highSet i_leastMany a_leastAt a_keptLow a_keptHigh i_laid a_wants i_wide a_wideAsked a_wideOnes i_sum i_flickers a_sumAt j_h post) A) 0 0 A := by
  refine Met.ofW (cc := cX10_findLeast) (maxL := 3) (ret := (some .boolean)) (by decide) rfl ?_
  intro p e s m args below meth c s₁ B hml hv
  obtain ⟨rfl, hP, hK, hD⟩ := hv
  have X : kC p (headSpec (Cond.code yX10_findLeast cX10_findLeast 3 (some .boolean) :: wsL_law) (rmH 1)).room s m _ meth c cX10_findLeast RX10 3 (some .boolean) 1 := ⟨B.exec, B.bytes, hml, findClass_of_methodNamed B.named, fun w h => atoms_spec (ws := Cond.code yX10_findLeast cX10_findLeast 3 (some .boolean) :: wsL_law) B.pre w (List.mem_cons_of_mem _ h), B.returns, B.notSynchronized, Nat.le_refl _, Nat.le_refl _⟩
  obtain ⟨hx, hb, hml, hown, hts, hr, hlocks, hRf, hRl⟩ := id X
  have hS : va_S A s.heap s.heap [] := va_S.rf
  have hl := lv_entry ([.ref (q 0), .int x1]) (n := 3) (Nat.le_of_ble_eq_true rfl)
  rw [lg_entry_eq]
  generalize (lg_sl ([.ref (q 0), .int x1]) ++ List.replicate (3 - (lg_sl ([.ref (q 0), .int x1])).length) Slot.unset).toArray = ls at hl ⊢
  have hl : lv_has ls 3 [(0, .ref (q 0)), (1, .int x1)] := hl
  refine lv_iconst (v := (0 : Int32)) hx hb dX10_findLeast_0 (by decide) ?_
  refine lv_istore_n (lv' := [(2, .int (0 : Int32)), (0, .ref (q 0)), (1, .int x1)]) hx hb dX10_findLeast_1 rfl hl (by decide) rfl (fun ls hl => ?_)
  obtain ⟨n_4, hw⟩ := hw
  refine t_X10_findLeast_2 X hK (fun ytried_4 hw ls H locs hl hP hD hS => ?_) n_4 _ _ hw ls _ _ (lv_sub hl [1, 2, 0] rfl) hP hD hS
  refine lv_iconst (v := (2 : Int32)) hx hb dX10_findLeast_22 (by decide) ?_
  refine lv_iload_n hx hb dX10_findLeast_23 rfl (lv_at hl 1 rfl) ?_
  refine lv_imul hx hb dX10_findLeast_24 ?_
  refine lv_iconst (v := (1 : Int32)) hx hb dX10_findLeast_25 (by decide) ?_
  refine lv_aload_n hx hb dX10_findLeast_26 rfl (lv_at hl 0 rfl) ?_
  refine gRX10_87 hx hb hown hts hK hP dX10_findLeast_27 ?_
  refine lv_ishl hx hb dX10_findLeast_30 ?_
  refine lv_icmp_gt (tgt := 38) hx hb dX10_findLeast_31 (by decide) (fun c_5 => ?_) (fun c_5 => ?_)
  · have hw := hw.1 c_5
    refine lv_iconst (v := (0 : Int32)) hx hb dX10_findLeast_38 (by decide) ?_
    refine lv_istore_n (lv' := [(2, .int (0 : Int32)), (0, .ref (q 0)), (1, .int x1)]) hx hb dX10_findLeast_39 rfl hl (by decide) rfl (fun ls hl => ?_)
    obtain ⟨n_10, hw⟩ := hw
    refine t_X10_findLeast_40 X hK (fun x2_10 ytried_10 hw ls H locs hl hP hD hS => ?_) n_10 _ _ hw ls _ _ (lv_sub hl [1, 2, 0] rfl) hP hD hS
    refine lv_iload_n hx hb dX10_findLeast_61 rfl (lv_at hl 0 rfl) ?_
    have hz := hw.1
    have hw := hw.2
    exact rw_z hx hb hr hlocks hz (fun t ht => ⟨ytried_10, hw, by rw [ht]; exact hP⟩) hS dX10_findLeast_62
  · have hw := hw.2 c_5
    refine lv_iconst (v := (1 : Int32)) hx hb dX10_findLeast_34 (by decide) ?_
    refine lv_goto (tgt := 39) hx hb dX10_findLeast_35 (by decide) ?_
    refine lv_istore_n (lv' := [(2, .int (1 : Int32)), (0, .ref (q 0)), (1, .int x1)]) hx hb dX10_findLeast_39 rfl hl (by decide) rfl (fun ls hl => ?_)
    obtain ⟨n_11, hw⟩ := hw
    refine t_X10_findLeast_40 X hK (fun x2_11 ytried_11 hw ls H locs hl hP hD hS => ?_) n_11 _ _ hw ls _ _ (lv_sub hl [1, 2, 0] rfl) hP hD hS
    refine lv_iload_n hx hb dX10_findLeast_61 rfl (lv_at hl 0 rfl) ?_
    have hz := hw.1
    have hw := hw.2
    exact rw_z hx hb hr hlocks hz (fun t ht => ⟨ytried_11, hw, by rw [ht]; exact hP⟩) hS dX10_findLeast_62
abbrev Z_X10_layLeast (D : va_G) (q : Nat → Nat) (cA : Nat → ClassId) (i_pageLength : Int32) (a_page : Nat → Int32) (i_states : Int32) (i_columns : Int32) (a_entries : Nat → Int32) (i_signals : Int32) (a_signalAt : Nat → Int32) (i_walksAt : Int32) (i_turned : Int32) (i_changed : Int32) (i_read : Int32) (i_newRows : Int32) (i_newEntries : Int32) (i_newColumns : Int32) (i_greatest : Int32) (a_newAt : Nat → Int32) (i_partings : Int32) (a_lowSet : Nat → Int32) (a_highSet : Nat → Int32) (i_laid : Int32) (a_wants : Nat → Int32) (i_wide : Int32) (a_wideAsked : Nat → Int32) (a_wideOnes : Nat → Int32) (i_sum : Int32) (i_flickers : Int32) (a_sumAt : Nat → Int32) (j_h : Int64) (post : Int32 → (Nat → Int32) → (Nat → Int32) → (Nat → Int64) → (Nat → Int64) → Prop) : State → Prop := fun t => ∃ (y_i_leastMany : Int32) (y_a_leastAt : Nat → Int32) (y_a_tried : Nat → Int32) (y_a_keptLow : Nat → Int64) (y_a_keptHigh : Nat → Int64), post y_i_leastMany y_a_leastAt y_a_tried y_a_keptLow y_a_keptHigh ∧ va_P D vwCl (wM q cA i_pageLength a_page i_states i_columns a_entries i_signals a_signalAt i_walksAt i_turned i_changed i_read i_newRows i_newEntries i_newColumns i_greatest a_newAt i_partings a_lowSet a_highSet y_i_leastMany y_a_leastAt y_a_tried y_a_keptLow y_a_keptHigh i_laid a_wants i_wide a_wideAsked a_wideOnes i_sum i_flickers a_sumAt j_h) t.heap
set_option maxHeartbeats 4000000 in
set_option maxRecDepth 100000 in
theorem t_X10_layLeast_19 {p : Program} {l : Launch} {e : Env} {R : Room} {s : State} {m : MethodId} {args : Array Value} {below : List Frame} {meth : Method} {c : Code} {A : Nat → Prop} {D : va_G} {q : Nat → Nat} {cA : Nat → ClassId} {i_pageLength : Int32} {a_page : Nat → Int32} {i_states : Int32} {i_columns : Int32} {a_entries : Nat → Int32} {i_signals : Int32} {a_signalAt : Nat → Int32} {i_walksAt : Int32} {i_turned : Int32} {i_changed : Int32} {i_read : Int32} {i_newRows : Int32} {i_newEntries : Int32} {i_newColumns : Int32} {i_greatest : Int32} {a_newAt : Nat → Int32} {i_partings : Int32} {a_lowSet : Nat → Int32} {a_highSet : Nat → Int32} {i_leastMany : Int32} {a_leastAt : Nat → Int32} {a_keptLow : Nat → Int64} {a_keptHigh : Nat → Int64} {i_laid : Int32} {a_wants : Nat → Int32} {i_wide : Int32} {a_wideAsked : Nat → Int32} {a_wideOnes : Nat → Int32} {i_sum : Int32} {i_flickers : Int32} {a_sumAt : Nat → Int32} {j_h : Int64} {post : Int32 → (Nat → Int32) → (Nat → Int32) → (Nat → Int64) → (Nat → Int64) → Prop} {KE : Int32 → (Nat → Int32) → Prop} (X : kC p R s m args meth c cX10_layLeast RX10 3 none 3) (hK : va_K D vwCl (tyM cA) s) (hE : ∀ (x1 : Int32) (a_tried : Nat → Int32), KE x1 a_tried → ∀ (ls : Array Slot) (H : Heap) (locs : List Loc), lv_has ls 3 [(0, .ref (q 0)), (1, .int x1)] → va_P D vwCl (wM q cA i_pageLength a_page i_states i_columns a_entries i_signals a_signalAt i_walksAt i_turned i_changed i_read i_newRows i_newEntries i_newColumns i_greatest a_newAt i_partings a_lowSet a_highSet i_leastMany a_leastAt a_tried a_keptLow a_keptHigh i_laid a_wants i_wide a_wideAsked a_wideOnes i_sum i_flickers a_sumAt j_h) H → va_D A (wM q cA i_pageLength a_page i_states i_columns a_entries i_signals a_signalAt i_walksAt i_turned i_changed i_read i_newRows i_newEntries i_newColumns i_greatest a_newAt i_partings a_lowSet a_highSet i_leastMany a_leastAt a_tried a_keptLow a_keptHigh i_laid a_wants i_wide a_wideAsked a_wideOnes i_sum i_flickers a_sumAt j_h) → va_S A s.heap H locs → W p l e R s m args below meth c H locs 0 0 (MQ below (qWv (Z_X10_layLeast D q cA i_pageLength a_page i_states i_columns a_entries i_signals a_signalAt i_walksAt i_turned i_changed i_read i_newRows i_newEntries i_newColumns i_greatest a_newAt i_partings a_lowSet a_highSet i_laid a_wants i_wide a_wideAsked a_wideOnes i_sum i_flickers a_sumAt j_h post) A) args s 0 0 A) (F0 m 38 ls [])) : ∀ (n : Nat) (x1 : Int32) (a_tried : Nat → Int32), w_X10_layLeast_19 KE i_states i_partings a_keptLow a_keptHigh n x1 a_tried → ∀ (ls : Array Slot) (H : Heap) (locs : List Loc), lv_has ls 3 [(0, .ref (q 0)), (1, .int x1)] → va_P D vwCl (wM q cA i_pageLength a_page i_states i_columns a_entries i_signals a_signalAt i_walksAt i_turned i_changed i_read i_newRows i_newEntries i_newColumns i_greatest a_newAt i_partings a_lowSet a_highSet i_leastMany a_leastAt a_tried a_keptLow a_keptHigh i_laid a_wants i_wide a_wideAsked a_wideOnes i_sum i_flickers a_sumAt j_h) H → va_D A (wM q cA i_pageLength a_page i_states i_columns a_entries i_signals a_signalAt i_walksAt i_turned i_changed i_read i_newRows i_newEntries i_newColumns i_greatest a_newAt i_partings a_lowSet a_highSet i_leastMany a_leastAt a_tried a_keptLow a_keptHigh i_laid a_wants i_wide a_wideAsked a_wideOnes i_sum i_flickers a_sumAt j_h) → va_S A s.heap H locs → W p l e R s m args below meth c H locs 0 0 (MQ below (qWv (Z_X10_layLeast D q cA i_pageLength a_page i_states i_columns a_entries i_signals a_signalAt i_walksAt i_turned i_changed i_read i_newRows i_newEntries i_newColumns i_greatest a_newAt i_partings a_lowSet a_highSet i_laid a_wants i_wide a_wideAsked a_wideOnes i_sum i_flickers a_sumAt j_h post) A) args s 0 0 A) (F0 m 19 ls []) := by
  obtain ⟨hx, hb, hml, hown, hts, hr, hlocks, hRf, hRl⟩ := id X
  intro n
  induction n with
  | zero => intro x1 a_tried hw; exact (show False from hw).elim
  | succ n ih =>
    intro x1 a_tried hw ls H locs hl hP hD hS
    refine lv_iload_n hx hb dX10_layLeast_19 rfl (lv_at hl 1 rfl) ?_
    refine lv_iconst (v := (5 : Int32)) hx hb dX10_layLeast_20 (by decide) ?_
    refine lv_icmp_gt (tgt := 38) hx hb dX10_layLeast_21 (by decide) (fun c_4 => ?_) (fun c_4 => ?_)
    · have hw := hw.1 c_4
      exact hE _ _ hw ls _ _ (lv_sub hl [0, 1] rfl) hP hD hS
    · have hw := hw.2 c_4
      refine lv_aload_n hx hb dX10_layLeast_24 rfl (lv_at hl 0 rfl) ?_
      refine lv_iload_n hx hb dX10_layLeast_25 rfl (lv_at hl 1 rfl) ?_
      refine wr_i (va_runV (As := [.int x1]) (rest := []) ⟨hx, hb, hml, hown, hts⟩ (c_X10_findLeast l hw) (kRX10_172 (h := 1) hts (Nat.le_trans (Nat.le_of_ble_eq_true rfl) hRf) (Nat.le_trans (Nat.le_of_ble_eq_true rfl) hRl)) (preMw hK hP hD) rfl rfl hl.1 rfl (lv_room (Nat.le_of_ble_eq_true rfl)) dX10_layLeast_26 ⟨Nat.zero_le _, Nat.zero_le _⟩) hS (fun r_5 t H locs ht hw hS => ?_)
      obtain ⟨ytried_5, hw, hP⟩ := hw
      rw [ht] at hP
      have hP : va_P D vwCl (wM q cA i_pageLength a_page i_states i_columns a_entries i_signals a_signalAt i_walksAt i_turned i_changed i_read i_newRows i_newEntries i_newColumns i_greatest a_newAt i_partings a_lowSet a_highSet i_leastMany a_leastAt ytried_5 a_keptLow a_keptHigh i_laid a_wants i_wide a_wideAsked a_wideOnes i_sum i_flickers a_sumAt j_h) H := hP
      have hD : va_D A (wM q cA i_pageLength a_page i_states i_columns a_entries i_signals a_signalAt i_walksAt i_turned i_changed i_read i_newRows i_newEntries i_newColumns i_greatest a_newAt i_partings a_lowSet a_highSet i_leastMany a_leastAt ytried_5 a_keptLow a_keptHigh i_laid a_wants i_wide a_wideAsked a_wideOnes i_sum i_flickers a_sumAt j_h) := dM hD
      refine lv_if_ne (tgt := 38) hx hb dX10_layLeast_29 (by decide) (fun c_6 => ?_) (fun c_6 => ?_)
      · have hw := hw.2 c_6
        exact hE _ _ hw ls _ _ (lv_sub hl [0, 1] rfl) hP hD hS
      · have hw := hw.1 c_6
        obtain ⟨x1_7, e_7⟩ : ∃ z : Int32, z = x1 + (1 : Int32) := ⟨_, rfl⟩
        have hw := hw x1_7 e_7
        refine lv_iinc (v := x1_7) (lv' := [(1, .int x1_7), (0, .ref (q 0))]) hx hb dX10_layLeast_32 hl (k := 1) rfl (by rw [e_7]; rfl) (by decide) rfl (fun ls hl => ?_)
        refine lv_goto (tgt := 19) hx hb dX10_layLeast_35 (by decide) ?_
        exact ih _ _ hw ls _ _ (lv_sub hl [1, 0] rfl) hP hD hS
set_option maxHeartbeats 4000000 in
set_option maxRecDepth 100000 in
theorem t_X10_layLeast_50 {p : Program} {l : Launch} {e : Env} {R : Room} {s : State} {m : MethodId} {args : Array Value} {below : List Frame} {meth : Method} {c : Code} {A : Nat → Prop} {D : va_G} {q : Nat → Nat} {cA : Nat → ClassId} {i_pageLength : Int32} {a_page : Nat → Int32} {i_states : Int32} {i_columns : Int32} {a_entries : Nat → Int32} {i_signals : Int32} {a_signalAt : Nat → Int32} {i_walksAt : Int32} {i_turned : Int32} {i_changed : Int32} {i_read : Int32} {i_newRows : Int32} {i_newEntries : Int32} {i_newColumns : Int32} {i_greatest : Int32} {a_newAt : Nat → Int32} {i_partings : Int32} {a_lowSet : Nat → Int32} {a_highSet : Nat → Int32} {i_leastMany : Int32} {a_tried : Nat → Int32} {a_keptLow : Nat → Int64} {a_keptHigh : Nat → Int64} {i_laid : Int32} {a_wants : Nat → Int32} {i_wide : Int32} {a_wideAsked : Nat → Int32} {a_wideOnes : Nat → Int32} {i_sum : Int32} {i_flickers : Int32} {a_sumAt : Nat → Int32} {j_h : Int64} {post : Int32 → (Nat → Int32) → (Nat → Int32) → (Nat → Int64) → (Nat → Int64) → Prop} {KE : (Nat → Int32) → Prop} {x1 : Int32} (X : kC p R s m args meth c cX10_layLeast RX10 3 none 3) (hK : va_K D vwCl (tyM cA) s) (hE : ∀ (a_leastAt : Nat → Int32), KE a_leastAt → ∀ (ls : Array Slot) (H : Heap) (locs : List Loc), lv_has ls 3 [] → va_P D vwCl (wM q cA i_pageLength a_page i_states i_columns a_entries i_signals a_signalAt i_walksAt i_turned i_changed i_read i_newRows i_newEntries i_newColumns i_greatest a_newAt i_partings a_lowSet a_highSet i_leastMany a_leastAt a_tried a_keptLow a_keptHigh i_laid a_wants i_wide a_wideAsked a_wideOnes i_sum i_flickers a_sumAt j_h) H → va_D A (wM q cA i_pageLength a_page i_states i_columns a_entries i_signals a_signalAt i_walksAt i_turned i_changed i_read i_newRows i_newEntries i_newColumns i_greatest a_newAt i_partings a_lowSet a_highSet i_leastMany a_leastAt a_tried a_keptLow a_keptHigh i_laid a_wants i_wide a_wideAsked a_wideOnes i_sum i_flickers a_sumAt j_h) → va_S A s.heap H locs → W p l e R s m args below meth c H locs 0 0 (MQ below (qWv (Z_X10_layLeast D q cA i_pageLength a_page i_states i_columns a_entries i_signals a_signalAt i_walksAt i_turned i_changed i_read i_newRows i_newEntries i_newColumns i_greatest a_newAt i_partings a_lowSet a_highSet i_laid a_wants i_wide a_wideAsked a_wideOnes i_sum i_flickers a_sumAt j_h post) A) args s 0 0 A) (F0 m 73 ls [])) : ∀ (n : Nat) (x2 : Int32) (a_leastAt : Nat → Int32), w_X10_layLeast_50 KE a_tried x1 n x2 a_leastAt → ∀ (ls : Array Slot) (H : Heap) (locs : List Loc), lv_has ls 3 [(0, .ref (q 0)), (1, .int x1), (2, .int x2)] → va_P D vwCl (wM q cA i_pageLength a_page i_states i_columns a_entries i_signals a_signalAt i_walksAt i_turned i_changed i_read i_newRows i_newEntries i_newColumns i_greatest a_newAt i_partings a_lowSet a_highSet i_leastMany a_leastAt a_tried a_keptLow a_keptHigh i_laid a_wants i_wide a_wideAsked a_wideOnes i_sum i_flickers a_sumAt j_h) H → va_D A (wM q cA i_pageLength a_page i_states i_columns a_entries i_signals a_signalAt i_walksAt i_turned i_changed i_read i_newRows i_newEntries i_newColumns i_greatest a_newAt i_partings a_lowSet a_highSet i_leastMany a_leastAt a_tried a_keptLow a_keptHigh i_laid a_wants i_wide a_wideAsked a_wideOnes i_sum i_flickers a_sumAt j_h) → va_S A s.heap H locs → W p l e R s m args below meth c H locs 0 0 (MQ below (qWv (Z_X10_layLeast D q cA i_pageLength a_page i_states i_columns a_entries i_signals a_signalAt i_walksAt i_turned i_changed i_read i_newRows i_newEntries i_newColumns i_greatest a_newAt i_partings a_lowSet a_highSet i_laid a_wants i_wide a_wideAsked a_wideOnes i_sum i_flickers a_sumAt j_h post) A) args s 0 0 A) (F0 m 50 ls []) := by
  obtain ⟨hx, hb, hml, hown, hts, hr, hlocks, hRf, hRl⟩ := id X
  intro n
  induction n with
  | zero => intro x2 a_leastAt hw; exact (show False from hw).elim
  | succ n ih =>
    intro x2 a_leastAt hw ls H locs hl hP hD hS
    refine lv_iload_n hx hb dX10_layLeast_50 rfl (lv_at hl 2 rfl) ?_
    refine lv_iload_n hx hb dX10_layLeast_51 rfl (lv_at hl 1 rfl) ?_
    refine lv_icmp_ge (tgt := 73) hx hb dX10_layLeast_52 (by decide) (fun c_10 => ?_) (fun c_10 => ?_)
    · have hw := hw.1 c_10
      exact hE _ hw ls _ _ (lv_sub hl [] rfl) hP hD hS
    · have hw := hw.2 c_10
      refine lv_aload_n hx hb dX10_layLeast_55 rfl (lv_at hl 0 rfl) ?_
      refine gRX10_35 hx hb hown hts hK hP dX10_layLeast_56 ?_
      refine lv_iload_n hx hb dX10_layLeast_59 rfl (lv_at hl 2 rfl) ?_
      refine lv_aload_n hx hb dX10_layLeast_60 rfl (lv_at hl 0 rfl) ?_
      refine gRX10_38 hx hb hown hts hK hP dX10_layLeast_61 ?_
      refine lv_iload_n hx hb dX10_layLeast_64 rfl (lv_at hl 2 rfl) ?_
      have h_11 := hw.1
      have hw := hw.2
      refine ld_a_tried hx hb hK hP h_11 dX10_layLeast_65 ?_
      have h_12 := hw.1
      have hw := hw.2
      refine st_a_leastAt hx hb hK hP hD hS h_12 dX10_layLeast_66 (fun H locs a_12 e_12 hP hD hS => ?_)
      have hw := hw a_12 e_12
      obtain ⟨x2_13, e_13⟩ : ∃ z : Int32, z = x2 + (1 : Int32) := ⟨_, rfl⟩
      have hw := hw x2_13 e_13
      refine lv_iinc (v := x2_13) (lv' := [(2, .int x2_13), (0, .ref (q 0)), (1, .int x1)]) hx hb dX10_layLeast_67 hl (k := 2) rfl (by rw [e_13]; rfl) (by decide) rfl (fun ls hl => ?_)
      refine lv_goto (tgt := 50) hx hb dX10_layLeast_70 (by decide) ?_
      exact ih _ _ hw ls _ _ (lv_sub hl [1, 2, 0] rfl) hP hD hS
set_option maxHeartbeats 4000000 in
set_option maxRecDepth 100000 in
theorem c_X10_layLeast (l : Launch) {D : va_G} {q : Nat → Nat} {cA : Nat → ClassId} {i_pageLength : Int32} {a_page : Nat → Int32} {i_states : Int32} {i_columns : Int32} {a_entries : Nat → Int32} {i_signals : Int32} {a_signalAt : Nat → Int32} {i_walksAt : Int32} {i_turned : Int32} {i_changed : Int32} {i_read : Int32} {i_newRows : Int32} {i_newEntries : Int32} {i_newColumns : Int32} {i_greatest : Int32} {a_newAt : Nat → Int32} {i_partings : Int32} {a_lowSet : Nat → Int32} {a_highSet : Nat → Int32} {i_leastMany : Int32} {a_leastAt : Nat → Int32} {a_tried : Nat → Int32} {a_keptLow : Nat → Int64} {a_keptHigh : Nat → Int64} {i_laid : Int32} {a_wants : Nat → Int32} {i_wide : Int32} {a_wideAsked : Nat → Int32} {a_wideOnes : Nat → Int32} {i_sum : Int32} {i_flickers : Int32} {a_sumAt : Nat → Int32} {j_h : Int64} {A : Nat → Prop} {post : Int32 → (Nat → Int32) → (Nat → Int32) → (Nat → Int64) → (Nat → Int64) → Prop}  (hw : wp_X10_layLeast post i_states i_columns a_entries i_partings a_lowSet a_highSet i_leastMany a_leastAt a_tried a_keptLow a_keptHigh ) : Met l yX10_layLeast (Cond.code yX10_layLeast cX10_layLeast 3 none :: wsL_law) (rmH 3) (va_Pc [.ref (q 0)] (fun U => va_P D vwCl (wM q cA i_pageLength a_page i_states i_columns a_entries i_signals a_signalAt i_walksAt i_turned i_changed i_read i_newRows i_newEntries i_newColumns i_greatest a_newAt i_partings a_lowSet a_highSet i_leastMany a_leastAt a_tried a_keptLow a_keptHigh i_laid a_wants i_wide a_wideAsked a_wideOnes i_sum i_flickers a_sumAt j_h) U.heap ∧ va_K D vwCl (tyM cA) U ∧ va_D A (wM q cA i_pageLength a_page i_states i_columns a_entries i_signals a_signalAt i_walksAt i_turned i_changed i_read i_newRows i_newEntries i_newColumns i_greatest a_newAt i_partings a_lowSet a_highSet i_leastMany a_leastAt a_tried a_keptLow a_keptHigh i_laid a_wants i_wide a_wideAsked a_wideOnes i_sum i_flickers a_sumAt j_h))) (qWv (Z_X10_layLeast D q cA i_pageLength a_page i_states i_columns a_entries i_signals a_signalAt i_walksAt i_turned i_changed i_read i_newRows i_newEntries i_newColumns i_greatest a_newAt i_partings a_lowSet a_highSet i_laid a_wants i_wide a_wideAsked a_wideOnes i_sum i_flickers a_sumAt j_h post) A) 0 0 A := by
  refine Met.ofW (cc := cX10_layLeast) (maxL := 3) (ret := none) (by decide) rfl ?_
  intro p e s m args below meth c s₁ B hml hv
  obtain ⟨rfl, hP, hK, hD⟩ := hv
  have X : kC p (headSpec (Cond.code yX10_layLeast cX10_layLeast 3 none :: wsL_law) (rmH 3)).room s m _ meth c cX10_layLeast RX10 3 none 3 := ⟨B.exec, B.bytes, hml, findClass_of_methodNamed B.named, fun w h => atoms_spec (ws := Cond.code yX10_layLeast cX10_layLeast 3 none :: wsL_law) B.pre w (List.mem_cons_of_mem _ h), B.returns, B.notSynchronized, Nat.le_refl _, Nat.le_refl _⟩
  obtain ⟨hx, hb, hml, hown, hts, hr, hlocks, hRf, hRl⟩ := id X
  have hS : va_S A s.heap s.heap [] := va_S.rf
  have hl := lv_entry ([.ref (q 0)]) (n := 3) (Nat.le_of_ble_eq_true rfl)
  rw [lg_entry_eq]
  generalize (lg_sl ([.ref (q 0)]) ++ List.replicate (3 - (lg_sl ([.ref (q 0)])).length) Slot.unset).toArray = ls at hl ⊢
  have hl : lv_has ls 3 [(0, .ref (q 0))] := hl
  refine lv_aload_n hx hb dX10_layLeast_0 rfl (lv_at hl 0 rfl) ?_
  refine lv_iconst (v := ((-1) : Int32)) hx hb dX10_layLeast_1 (by decide) ?_
  refine pRX10_32 hx hb hown hts hK hP hD hS dX10_layLeast_2 (fun H locs hP hD hS => ?_)
  refine lv_aload_n hx hb dX10_layLeast_5 rfl (lv_at hl 0 rfl) ?_
  refine ro_i (va_runV (As := []) (rest := []) ⟨hx, hb, hml, hown, hts⟩ (c_X10_isNormal l hw) (kRX10_125 (h := 2) hts (Nat.le_trans (Nat.le_of_ble_eq_true rfl) hRf) (Nat.le_trans (Nat.le_of_ble_eq_true rfl) hRl)) (preM hK hP) rfl rfl hl.1 rfl (lv_room (Nat.le_of_ble_eq_true rfl)) dX10_layLeast_6 ⟨Nat.zero_le _, Nat.zero_le _⟩) (fun r_1 hw => ?_)
  refine lv_if_ne (tgt := 13) hx hb dX10_layLeast_9 (by decide) (fun c_2 => ?_) (fun c_2 => ?_)
  · have hw := hw.2 c_2
    refine lv_aload_n hx hb dX10_layLeast_13 rfl (lv_at hl 0 rfl) ?_
    refine wr_v (va_runV (As := []) (rest := []) ⟨hx, hb, hml, hown, hts⟩ (c_X10_layKept l hw) (kRX10_169 (h := 1) hts (Nat.le_trans (Nat.le_of_ble_eq_true rfl) hRf) (Nat.le_trans (Nat.le_of_ble_eq_true rfl) hRl)) (preMw hK hP hD) rfl rfl hl.1 rfl (lv_room (Nat.le_of_ble_eq_true rfl)) dX10_layLeast_14 ⟨Nat.zero_le _, Nat.zero_le _⟩) hS (fun t H locs ht hw hS => ?_)
    obtain ⟨ykeptLow_3, ykeptHigh_3, hw, hP⟩ := hw
    rw [ht] at hP
    have hP : va_P D vwCl (wM q cA i_pageLength a_page i_states i_columns a_entries i_signals a_signalAt i_walksAt i_turned i_changed i_read i_newRows i_newEntries i_newColumns i_greatest a_newAt i_partings a_lowSet a_highSet ((-1) : Int32) a_leastAt a_tried ykeptLow_3 ykeptHigh_3 i_laid a_wants i_wide a_wideAsked a_wideOnes i_sum i_flickers a_sumAt j_h) H := hP
    have hD : va_D A (wM q cA i_pageLength a_page i_states i_columns a_entries i_signals a_signalAt i_walksAt i_turned i_changed i_read i_newRows i_newEntries i_newColumns i_greatest a_newAt i_partings a_lowSet a_highSet ((-1) : Int32) a_leastAt a_tried ykeptLow_3 ykeptHigh_3 i_laid a_wants i_wide a_wideAsked a_wideOnes i_sum i_flickers a_sumAt j_h) := dM hD
    refine lv_iconst (v := (1 : Int32)) hx hb dX10_layLeast_17 (by decide) ?_
    refine lv_istore_n (lv' := [(1, .int (1 : Int32)), (0, .ref (q 0))]) hx hb dX10_layLeast_18 rfl hl (by decide) rfl (fun ls hl => ?_)
    obtain ⟨n_8, hw⟩ := hw
    refine t_X10_layLeast_19 X hK (fun x1_8 ytried_8 hw ls H locs hl hP hD hS => ?_) n_8 _ _ hw ls _ _ (lv_sub hl [1, 0] rfl) hP hD hS
    refine lv_iload_n hx hb dX10_layLeast_38 rfl (lv_at hl 1 rfl) ?_
    refine lv_iconst (v := (5 : Int32)) hx hb dX10_layLeast_39 (by decide) ?_
    refine lv_icmp_gt (tgt := 73) hx hb dX10_layLeast_40 (by decide) (fun c_9 => ?_) (fun c_9 => ?_)
    · have hw := hw.1 c_9
      exact rw_v hx hb hr hlocks (fun t ht => ⟨((-1) : Int32), a_leastAt, ytried_8, ykeptLow_3, ykeptHigh_3, hw, by rw [ht]; exact hP⟩) hS dX10_layLeast_73
    · have hw := hw.2 c_9
      refine lv_aload_n hx hb dX10_layLeast_43 rfl (lv_at hl 0 rfl) ?_
      refine lv_iload_n hx hb dX10_layLeast_44 rfl (lv_at hl 1 rfl) ?_
      refine pRX10_32 hx hb hown hts hK hP hD hS dX10_layLeast_45 (fun H locs hP hD hS => ?_)
      refine lv_iconst (v := (0 : Int32)) hx hb dX10_layLeast_48 (by decide) ?_
      refine lv_istore_n (lv' := [(2, .int (0 : Int32)), (0, .ref (q 0)), (1, .int x1_8)]) hx hb dX10_layLeast_49 rfl hl (by decide) rfl (fun ls hl => ?_)
      obtain ⟨n_14, hw⟩ := hw
      refine t_X10_layLeast_50 X hK (fun yleastAt_14 hw ls H locs hl hP hD hS => ?_) n_14 _ _ hw ls _ _ (lv_sub hl [1, 2, 0] rfl) hP hD hS
      exact rw_v hx hb hr hlocks (fun t ht => ⟨x1_8, yleastAt_14, ytried_8, ykeptLow_3, ykeptHigh_3, hw, by rw [ht]; exact hP⟩) hS dX10_layLeast_73
  · have hw := hw.1 c_2
    exact rw_v hx hb hr hlocks (fun t ht => ⟨((-1) : Int32), a_leastAt, a_tried, a_keptLow, a_keptHigh, hw, by rw [ht]; exact hP⟩) hS dX10_layLeast_12
abbrev Z_X10_altered (D : va_G) (q : Nat → Nat) (cA : Nat → ClassId) (i_pageLength : Int32) (a_page : Nat → Int32) (i_states : Int32) (i_columns : Int32) (a_entries : Nat → Int32) (i_signals : Int32) (a_signalAt : Nat → Int32) (i_walksAt : Int32) (i_turned : Int32) (i_changed : Int32) (i_read : Int32) (i_newRows : Int32) (i_newEntries : Int32) (i_newColumns : Int32) (i_greatest : Int32) (a_newAt : Nat → Int32) (i_partings : Int32) (a_lowSet : Nat → Int32) (a_highSet : Nat → Int32) (i_leastMany : Int32) (a_leastAt : Nat → Int32) (a_tried : Nat → Int32) (a_keptLow : Nat → Int64) (a_keptHigh : Nat → Int64) (a_wants : Nat → Int32) (i_wide : Int32) (a_wideAsked : Nat → Int32) (a_wideOnes : Nat → Int32) (i_sum : Int32) (i_flickers : Int32) (a_sumAt : Nat → Int32) (j_h : Int64) (post : Int32 → Prop) : State → Prop := fun t => ∃ (y_i_laid : Int32), post y_i_laid ∧ va_P D vwCl (wM q cA i_pageLength a_page i_states i_columns a_entries i_signals a_signalAt i_walksAt i_turned i_changed i_read i_newRows i_newEntries i_newColumns i_greatest a_newAt i_partings a_lowSet a_highSet i_leastMany a_leastAt a_tried a_keptLow a_keptHigh y_i_laid a_wants i_wide a_wideAsked a_wideOnes i_sum i_flickers a_sumAt j_h) t.heap
set_option maxHeartbeats 4000000 in
set_option maxRecDepth 100000 in
theorem c_X10_altered (l : Launch) {D : va_G} {q : Nat → Nat} {cA : Nat → ClassId} {i_pageLength : Int32} {a_page : Nat → Int32} {i_states : Int32} {i_columns : Int32} {a_entries : Nat → Int32} {i_signals : Int32} {a_signalAt : Nat → Int32} {i_walksAt : Int32} {i_turned : Int32} {i_changed : Int32} {i_read : Int32} {i_newRows : Int32} {i_newEntries : Int32} {i_newColumns : Int32} {i_greatest : Int32} {a_newAt : Nat → Int32} {i_partings : Int32} {a_lowSet : Nat → Int32} {a_highSet : Nat → Int32} {i_leastMany : Int32} {a_leastAt : Nat → Int32} {a_tried : Nat → Int32} {a_keptLow : Nat → Int64} {a_keptHigh : Nat → Int64} {i_laid : Int32} {a_wants : Nat → Int32} {i_wide : Int32} {a_wideAsked : Nat → Int32} {a_wideOnes : Nat → Int32} {i_sum : Int32} {i_flickers : Int32} {a_sumAt : Nat → Int32} {j_h : Int64} {A : Nat → Prop} {post : Int32 → Prop}  (hw : wp_X10_altered post i_laid ) : Met l yX10_altered (Cond.code yX10_altered cX10_altered 1 none :: wsL_law) (rmH 0) (va_Pc [.ref (q 0)] (fun U => va_P D vwCl (wM q cA i_pageLength a_page i_states i_columns a_entries i_signals a_signalAt i_walksAt i_turned i_changed i_read i_newRows i_newEntries i_newColumns i_greatest a_newAt i_partings a_lowSet a_highSet i_leastMany a_leastAt a_tried a_keptLow a_keptHigh i_laid a_wants i_wide a_wideAsked a_wideOnes i_sum i_flickers a_sumAt j_h) U.heap ∧ va_K D vwCl (tyM cA) U ∧ va_D A (wM q cA i_pageLength a_page i_states i_columns a_entries i_signals a_signalAt i_walksAt i_turned i_changed i_read i_newRows i_newEntries i_newColumns i_greatest a_newAt i_partings a_lowSet a_highSet i_leastMany a_leastAt a_tried a_keptLow a_keptHigh i_laid a_wants i_wide a_wideAsked a_wideOnes i_sum i_flickers a_sumAt j_h))) (qWv (Z_X10_altered D q cA i_pageLength a_page i_states i_columns a_entries i_signals a_signalAt i_walksAt i_turned i_changed i_read i_newRows i_newEntries i_newColumns i_greatest a_newAt i_partings a_lowSet a_highSet i_leastMany a_leastAt a_tried a_keptLow a_keptHigh a_wants i_wide a_wideAsked a_wideOnes i_sum i_flickers a_sumAt j_h post) A) 0 0 A := by
  refine Met.ofW (cc := cX10_altered) (maxL := 1) (ret := none) (by decide) rfl ?_
  intro p e s m args below meth c s₁ B hml hv
  obtain ⟨rfl, hP, hK, hD⟩ := hv
  have X : kC p (headSpec (Cond.code yX10_altered cX10_altered 1 none :: wsL_law) (rmH 0)).room s m _ meth c cX10_altered RX10 1 none 0 := ⟨B.exec, B.bytes, hml, findClass_of_methodNamed B.named, fun w h => atoms_spec (ws := Cond.code yX10_altered cX10_altered 1 none :: wsL_law) B.pre w (List.mem_cons_of_mem _ h), B.returns, B.notSynchronized, Nat.le_refl _, Nat.le_refl _⟩
  obtain ⟨hx, hb, hml, hown, hts, hr, hlocks, hRf, hRl⟩ := id X
  have hS : va_S A s.heap s.heap [] := va_S.rf
  have hl := lv_entry ([.ref (q 0)]) (n := 1) (Nat.le_of_ble_eq_true rfl)
  rw [lg_entry_eq]
  generalize (lg_sl ([.ref (q 0)]) ++ List.replicate (1 - (lg_sl ([.ref (q 0)])).length) Slot.unset).toArray = ls at hl ⊢
  have hl : lv_has ls 1 [(0, .ref (q 0))] := hl
  refine lv_aload_n hx hb dX10_altered_0 rfl (lv_at hl 0 rfl) ?_
  refine lv_iconst (v := ((-1) : Int32)) hx hb dX10_altered_1 (by decide) ?_
  refine pRX10_205 hx hb hown hts hK hP hD hS dX10_altered_2 (fun H locs hP hD hS => ?_)
  exact rw_v hx hb hr hlocks (fun t ht => ⟨((-1) : Int32), hw, by rw [ht]; exact hP⟩) hS dX10_altered_5
abbrev Z_X10_table (D : va_G) (q : Nat → Nat) (cA : Nat → ClassId) (a_page : Nat → Int32) (a_wants : Nat → Int32) (i_wide : Int32) (a_wideAsked : Nat → Int32) (a_wideOnes : Nat → Int32) (i_sum : Int32) (i_flickers : Int32) (a_sumAt : Nat → Int32) (j_h : Int64) (post : Int32 → Int32 → Int32 → Int32 → (Nat → Int32) → Int32 → (Nat → Int32) → Int32 → Int32 → Int32 → Int32 → Int32 → Int32 → Int32 → Int32 → (Nat → Int32) → Int32 → (Nat → Int32) → (Nat → Int32) → Int32 → (Nat → Int32) → (Nat → Int32) → (Nat → Int64) → (Nat → Int64) → Int32 → Prop) : Int32 → State → Prop := fun r t => ∃ (y_i_pageLength : Int32) (y_i_states : Int32) (y_i_columns : Int32) (y_a_entries : Nat → Int32) (y_i_signals : Int32) (y_a_signalAt : Nat → Int32) (y_i_walksAt : Int32) (y_i_turned : Int32) (y_i_changed : Int32) (y_i_read : Int32) (y_i_newRows : Int32) (y_i_newEntries : Int32) (y_i_newColumns : Int32) (y_i_greatest : Int32) (y_a_newAt : Nat → Int32) (y_i_partings : Int32) (y_a_lowSet : Nat → Int32) (y_a_highSet : Nat → Int32) (y_i_leastMany : Int32) (y_a_leastAt : Nat → Int32) (y_a_tried : Nat → Int32) (y_a_keptLow : Nat → Int64) (y_a_keptHigh : Nat → Int64) (y_i_laid : Int32), post r y_i_pageLength y_i_states y_i_columns y_a_entries y_i_signals y_a_signalAt y_i_walksAt y_i_turned y_i_changed y_i_read y_i_newRows y_i_newEntries y_i_newColumns y_i_greatest y_a_newAt y_i_partings y_a_lowSet y_a_highSet y_i_leastMany y_a_leastAt y_a_tried y_a_keptLow y_a_keptHigh y_i_laid ∧ va_P D vwCl (wM q cA y_i_pageLength a_page y_i_states y_i_columns y_a_entries y_i_signals y_a_signalAt y_i_walksAt y_i_turned y_i_changed y_i_read y_i_newRows y_i_newEntries y_i_newColumns y_i_greatest y_a_newAt y_i_partings y_a_lowSet y_a_highSet y_i_leastMany y_a_leastAt y_a_tried y_a_keptLow y_a_keptHigh y_i_laid a_wants i_wide a_wideAsked a_wideOnes i_sum i_flickers a_sumAt j_h) t.heap
set_option maxHeartbeats 4000000 in
set_option maxRecDepth 100000 in
theorem t_X10_table_74 {p : Program} {l : Launch} {e : Env} {R : Room} {s : State} {m : MethodId} {args : Array Value} {below : List Frame} {meth : Method} {c : Code} {A : Nat → Prop} {D : va_G} {q : Nat → Nat} {cA : Nat → ClassId} {i_pageLength : Int32} {a_page : Nat → Int32} {i_states : Int32} {i_columns : Int32} {i_signals : Int32} {a_signalAt : Nat → Int32} {i_walksAt : Int32} {i_turned : Int32} {i_changed : Int32} {i_read : Int32} {i_newRows : Int32} {i_newEntries : Int32} {i_newColumns : Int32} {i_greatest : Int32} {a_newAt : Nat → Int32} {i_partings : Int32} {a_lowSet : Nat → Int32} {a_highSet : Nat → Int32} {i_leastMany : Int32} {a_leastAt : Nat → Int32} {a_tried : Nat → Int32} {a_keptLow : Nat → Int64} {a_keptHigh : Nat → Int64} {i_laid : Int32} {a_wants : Nat → Int32} {i_wide : Int32} {a_wideAsked : Nat → Int32} {a_wideOnes : Nat → Int32} {i_sum : Int32} {i_flickers : Int32} {a_sumAt : Nat → Int32} {j_h : Int64} {post : Int32 → Int32 → Int32 → Int32 → (Nat → Int32) → Int32 → (Nat → Int32) → Int32 → Int32 → Int32 → Int32 → Int32 → Int32 → Int32 → Int32 → (Nat → Int32) → Int32 → (Nat → Int32) → (Nat → Int32) → Int32 → (Nat → Int32) → (Nat → Int32) → (Nat → Int64) → (Nat → Int64) → Int32 → Prop} {KE : (Nat → Int32) → Prop} (X : kC p R s m args meth c cX10_table RX10 3 (some .int) 4) (hK : va_K D vwCl (tyM cA) s) (hE : ∀ (a_entries : Nat → Int32), KE a_entries → ∀ (ls : Array Slot) (H : Heap) (locs : List Loc), lv_has ls 3 [(0, .ref (q 0))] → va_P D vwCl (wM q cA i_pageLength a_page i_states i_columns a_entries i_signals a_signalAt i_walksAt i_turned i_changed i_read i_newRows i_newEntries i_newColumns i_greatest a_newAt i_partings a_lowSet a_highSet i_leastMany a_leastAt a_tried a_keptLow a_keptHigh i_laid a_wants i_wide a_wideAsked a_wideOnes i_sum i_flickers a_sumAt j_h) H → va_D A (wM q cA i_pageLength a_page i_states i_columns a_entries i_signals a_signalAt i_walksAt i_turned i_changed i_read i_newRows i_newEntries i_newColumns i_greatest a_newAt i_partings a_lowSet a_highSet i_leastMany a_leastAt a_tried a_keptLow a_keptHigh i_laid a_wants i_wide a_wideAsked a_wideOnes i_sum i_flickers a_sumAt j_h) → va_S A s.heap H locs → W p l e R s m args below meth c H locs 0 0 (MQ below (qWi (Z_X10_table D q cA a_page a_wants i_wide a_wideAsked a_wideOnes i_sum i_flickers a_sumAt j_h post) A) args s 0 0 A) (F0 m 102 ls [])) : ∀ (n : Nat) (x2 : Int32) (a_entries : Nat → Int32), w_X10_table_74 KE i_states a_newAt n x2 a_entries → ∀ (ls : Array Slot) (H : Heap) (locs : List Loc), lv_has ls 3 [(0, .ref (q 0)), (2, .int x2)] → va_P D vwCl (wM q cA i_pageLength a_page i_states i_columns a_entries i_signals a_signalAt i_walksAt i_turned i_changed i_read i_newRows i_newEntries i_newColumns i_greatest a_newAt i_partings a_lowSet a_highSet i_leastMany a_leastAt a_tried a_keptLow a_keptHigh i_laid a_wants i_wide a_wideAsked a_wideOnes i_sum i_flickers a_sumAt j_h) H → va_D A (wM q cA i_pageLength a_page i_states i_columns a_entries i_signals a_signalAt i_walksAt i_turned i_changed i_read i_newRows i_newEntries i_newColumns i_greatest a_newAt i_partings a_lowSet a_highSet i_leastMany a_leastAt a_tried a_keptLow a_keptHigh i_laid a_wants i_wide a_wideAsked a_wideOnes i_sum i_flickers a_sumAt j_h) → va_S A s.heap H locs → W p l e R s m args below meth c H locs 0 0 (MQ below (qWi (Z_X10_table D q cA a_page a_wants i_wide a_wideAsked a_wideOnes i_sum i_flickers a_sumAt j_h post) A) args s 0 0 A) (F0 m 74 ls []) := by
  obtain ⟨hx, hb, hml, hown, hts, hr, hlocks, hRf, hRl⟩ := id X
  intro n
  induction n with
  | zero => intro x2 a_entries hw; exact (show False from hw).elim
  | succ n ih =>
    intro x2 a_entries hw ls H locs hl hP hD hS
    refine lv_iload_n hx hb dX10_table_74 rfl (lv_at hl 1 rfl) ?_
    refine lv_iconst (v := (4 : Int32)) hx hb dX10_table_75 (by decide) ?_
    refine lv_aload_n hx hb dX10_table_76 rfl (lv_at hl 0 rfl) ?_
    refine gRX10_87 hx hb hown hts hK hP dX10_table_77 ?_
    refine lv_imul hx hb dX10_table_80 ?_
    refine lv_icmp_ge (tgt := 102) hx hb dX10_table_81 (by decide) (fun c_5 => ?_) (fun c_5 => ?_)
    · have hw := hw.1 c_5
      exact hE _ hw ls _ _ (lv_sub hl [0] rfl) hP hD hS
    · have hw := hw.2 c_5
      refine lv_aload_n hx hb dX10_table_84 rfl (lv_at hl 0 rfl) ?_
      refine gRX10_13 hx hb hown hts hK hP dX10_table_85 ?_
      refine lv_iload_n hx hb dX10_table_88 rfl (lv_at hl 1 rfl) ?_
      refine lv_aload_n hx hb dX10_table_89 rfl (lv_at hl 0 rfl) ?_
      refine gRX10_23 hx hb hown hts hK hP dX10_table_90 ?_
      refine lv_iload_n hx hb dX10_table_93 rfl (lv_at hl 1 rfl) ?_
      have h_6 := hw.1
      have hw := hw.2
      refine ld_a_newAt hx hb hK hP h_6 dX10_table_94 ?_
      have h_7 := hw.1
      have hw := hw.2
      refine st_a_entries hx hb hK hP hD hS h_7 dX10_table_95 (fun H locs a_7 e_7 hP hD hS => ?_)
      have hw := hw a_7 e_7
      obtain ⟨x2_8, e_8⟩ : ∃ z : Int32, z = x2 + (1 : Int32) := ⟨_, rfl⟩
      have hw := hw x2_8 e_8
      refine lv_iinc (v := x2_8) (lv' := [(2, .int x2_8), (0, .ref (q 0))]) hx hb dX10_table_96 hl (k := 1) rfl (by rw [e_8]; rfl) (by decide) rfl (fun ls hl => ?_)
      refine lv_goto (tgt := 74) hx hb dX10_table_99 (by decide) ?_
      exact ih _ _ hw ls _ _ (lv_sub hl [1, 0] rfl) hP hD hS
set_option maxHeartbeats 4000000 in
set_option maxRecDepth 100000 in
theorem t_X10_table_147 {p : Program} {l : Launch} {e : Env} {R : Room} {s : State} {m : MethodId} {args : Array Value} {below : List Frame} {meth : Method} {c : Code} {A : Nat → Prop} {D : va_G} {q : Nat → Nat} {cA : Nat → ClassId} {i_pageLength : Int32} {a_page : Nat → Int32} {i_states : Int32} {i_columns : Int32} {a_entries : Nat → Int32} {i_signals : Int32} {i_walksAt : Int32} {i_turned : Int32} {i_changed : Int32} {i_read : Int32} {i_newRows : Int32} {i_newEntries : Int32} {i_newColumns : Int32} {i_greatest : Int32} {a_newAt : Nat → Int32} {i_partings : Int32} {a_lowSet : Nat → Int32} {a_highSet : Nat → Int32} {i_leastMany : Int32} {a_leastAt : Nat → Int32} {a_tried : Nat → Int32} {a_keptLow : Nat → Int64} {a_keptHigh : Nat → Int64} {i_laid : Int32} {a_wants : Nat → Int32} {i_wide : Int32} {a_wideAsked : Nat → Int32} {a_wideOnes : Nat → Int32} {i_sum : Int32} {i_flickers : Int32} {a_sumAt : Nat → Int32} {j_h : Int64} {post : Int32 → Int32 → Int32 → Int32 → (Nat → Int32) → Int32 → (Nat → Int32) → Int32 → Int32 → Int32 → Int32 → Int32 → Int32 → Int32 → Int32 → (Nat → Int32) → Int32 → (Nat → Int32) → (Nat → Int32) → Int32 → (Nat → Int32) → (Nat → Int32) → (Nat → Int64) → (Nat → Int64) → Int32 → Prop} {KE : (Nat → Int32) → Prop} (X : kC p R s m args meth c cX10_table RX10 3 (some .int) 4) (hK : va_K D vwCl (tyM cA) s) (hE : ∀ (a_signalAt : Nat → Int32), KE a_signalAt → ∀ (ls : Array Slot) (H : Heap) (locs : List Loc), lv_has ls 3 [(0, .ref (q 0))] → va_P D vwCl (wM q cA i_pageLength a_page i_states i_columns a_entries i_signals a_signalAt i_walksAt i_turned i_changed i_read i_newRows i_newEntries i_newColumns i_greatest a_newAt i_partings a_lowSet a_highSet i_leastMany a_leastAt a_tried a_keptLow a_keptHigh i_laid a_wants i_wide a_wideAsked a_wideOnes i_sum i_flickers a_sumAt j_h) H → va_D A (wM q cA i_pageLength a_page i_states i_columns a_entries i_signals a_signalAt i_walksAt i_turned i_changed i_read i_newRows i_newEntries i_newColumns i_greatest a_newAt i_partings a_lowSet a_highSet i_leastMany a_leastAt a_tried a_keptLow a_keptHigh i_laid a_wants i_wide a_wideAsked a_wideOnes i_sum i_flickers a_sumAt j_h) → va_S A s.heap H locs → W p l e R s m args below meth c H locs 0 0 (MQ below (qWi (Z_X10_table D q cA a_page a_wants i_wide a_wideAsked a_wideOnes i_sum i_flickers a_sumAt j_h post) A) args s 0 0 A) (F0 m 173 ls [])) : ∀ (n : Nat) (x2 : Int32) (a_signalAt : Nat → Int32), w_X10_table_147 KE i_leastMany a_leastAt n x2 a_signalAt → ∀ (ls : Array Slot) (H : Heap) (locs : List Loc), lv_has ls 3 [(0, .ref (q 0)), (2, .int x2)] → va_P D vwCl (wM q cA i_pageLength a_page i_states i_columns a_entries i_signals a_signalAt i_walksAt i_turned i_changed i_read i_newRows i_newEntries i_newColumns i_greatest a_newAt i_partings a_lowSet a_highSet i_leastMany a_leastAt a_tried a_keptLow a_keptHigh i_laid a_wants i_wide a_wideAsked a_wideOnes i_sum i_flickers a_sumAt j_h) H → va_D A (wM q cA i_pageLength a_page i_states i_columns a_entries i_signals a_signalAt i_walksAt i_turned i_changed i_read i_newRows i_newEntries i_newColumns i_greatest a_newAt i_partings a_lowSet a_highSet i_leastMany a_leastAt a_tried a_keptLow a_keptHigh i_laid a_wants i_wide a_wideAsked a_wideOnes i_sum i_flickers a_sumAt j_h) → va_S A s.heap H locs → W p l e R s m args below meth c H locs 0 0 (MQ below (qWi (Z_X10_table D q cA a_page a_wants i_wide a_wideAsked a_wideOnes i_sum i_flickers a_sumAt j_h post) A) args s 0 0 A) (F0 m 147 ls []) := by
  obtain ⟨hx, hb, hml, hown, hts, hr, hlocks, hRf, hRl⟩ := id X
  intro n
  induction n with
  | zero => intro x2 a_signalAt hw; exact (show False from hw).elim
  | succ n ih =>
    intro x2 a_signalAt hw ls H locs hl hP hD hS
    refine lv_iload_n hx hb dX10_table_147 rfl (lv_at hl 1 rfl) ?_
    refine lv_aload_n hx hb dX10_table_148 rfl (lv_at hl 0 rfl) ?_
    refine gRX10_32 hx hb hown hts hK hP dX10_table_149 ?_
    refine lv_icmp_ge (tgt := 173) hx hb dX10_table_152 (by decide) (fun c_13 => ?_) (fun c_13 => ?_)
    · have hw := hw.1 c_13
      exact hE _ hw ls _ _ (lv_sub hl [0] rfl) hP hD hS
    · have hw := hw.2 c_13
      refine lv_aload_n hx hb dX10_table_155 rfl (lv_at hl 0 rfl) ?_
      refine gRX10_16 hx hb hown hts hK hP dX10_table_156 ?_
      refine lv_iload_n hx hb dX10_table_159 rfl (lv_at hl 1 rfl) ?_
      refine lv_aload_n hx hb dX10_table_160 rfl (lv_at hl 0 rfl) ?_
      refine gRX10_35 hx hb hown hts hK hP dX10_table_161 ?_
      refine lv_iload_n hx hb dX10_table_164 rfl (lv_at hl 1 rfl) ?_
      have h_14 := hw.1
      have hw := hw.2
      refine ld_a_leastAt hx hb hK hP h_14 dX10_table_165 ?_
      have h_15 := hw.1
      have hw := hw.2
      refine st_a_signalAt hx hb hK hP hD hS h_15 dX10_table_166 (fun H locs a_15 e_15 hP hD hS => ?_)
      have hw := hw a_15 e_15
      obtain ⟨x2_16, e_16⟩ : ∃ z : Int32, z = x2 + (1 : Int32) := ⟨_, rfl⟩
      have hw := hw x2_16 e_16
      refine lv_iinc (v := x2_16) (lv' := [(2, .int x2_16), (0, .ref (q 0))]) hx hb dX10_table_167 hl (k := 1) rfl (by rw [e_16]; rfl) (by decide) rfl (fun ls hl => ?_)
      refine lv_goto (tgt := 147) hx hb dX10_table_170 (by decide) ?_
      exact ih _ _ hw ls _ _ (lv_sub hl [1, 0] rfl) hP hD hS
set_option maxHeartbeats 4000000 in
set_option maxRecDepth 100000 in
theorem t_X10_table_45 {p : Program} {l : Launch} {e : Env} {R : Room} {s : State} {m : MethodId} {args : Array Value} {below : List Frame} {meth : Method} {c : Code} {A : Nat → Prop} {D : va_G} {q : Nat → Nat} {cA : Nat → ClassId} {i_pageLength : Int32} {a_page : Nat → Int32} {i_states : Int32} {i_columns : Int32} {a_entries : Nat → Int32} {i_signals : Int32} {a_signalAt : Nat → Int32} {i_walksAt : Int32} {i_turned : Int32} {i_changed : Int32} {i_read : Int32} {i_newRows : Int32} {i_newEntries : Int32} {i_newColumns : Int32} {i_greatest : Int32} {a_newAt : Nat → Int32} {i_partings : Int32} {a_lowSet : Nat → Int32} {a_highSet : Nat → Int32} {i_leastMany : Int32} {a_leastAt : Nat → Int32} {a_tried : Nat → Int32} {a_keptLow : Nat → Int64} {a_keptHigh : Nat → Int64} {i_laid : Int32} {a_wants : Nat → Int32} {i_wide : Int32} {a_wideAsked : Nat → Int32} {a_wideOnes : Nat → Int32} {i_sum : Int32} {i_flickers : Int32} {a_sumAt : Nat → Int32} {j_h : Int64} {post : Int32 → Int32 → Int32 → Int32 → (Nat → Int32) → Int32 → (Nat → Int32) → Int32 → Int32 → Int32 → Int32 → Int32 → Int32 → Int32 → Int32 → (Nat → Int32) → Int32 → (Nat → Int32) → (Nat → Int32) → Int32 → (Nat → Int32) → (Nat → Int32) → (Nat → Int64) → (Nat → Int64) → Int32 → Prop} {v0 : Int32} (X : kC p R s m args meth c cX10_table RX10 3 (some .int) 4) (hK : va_K D vwCl (tyM cA) s) (hw : j_X10_table_45 post i_pageLength i_states i_columns a_entries i_signals a_signalAt i_walksAt i_turned i_changed i_read i_newRows i_newEntries i_newColumns i_greatest a_newAt i_partings a_lowSet a_highSet i_leastMany a_leastAt a_tried a_keptLow a_keptHigh i_laid v0) (ls : Array Slot) (H : Heap) (locs : List Loc) (hl : lv_has ls 3 [(0, .ref (q 0))]) (hP : va_P D vwCl (wM q cA i_pageLength a_page i_states i_columns a_entries i_signals a_signalAt i_walksAt i_turned i_changed i_read i_newRows i_newEntries i_newColumns i_greatest a_newAt i_partings a_lowSet a_highSet i_leastMany a_leastAt a_tried a_keptLow a_keptHigh i_laid a_wants i_wide a_wideAsked a_wideOnes i_sum i_flickers a_sumAt j_h) H) (hD : va_D A (wM q cA i_pageLength a_page i_states i_columns a_entries i_signals a_signalAt i_walksAt i_turned i_changed i_read i_newRows i_newEntries i_newColumns i_greatest a_newAt i_partings a_lowSet a_highSet i_leastMany a_leastAt a_tried a_keptLow a_keptHigh i_laid a_wants i_wide a_wideAsked a_wideOnes i_sum i_flickers a_sumAt j_h)) (hS : va_S A s.heap H locs) : W p l e R s m args below meth c H locs 0 0 (MQ below (qWi (Z_X10_table D q cA a_page a_wants i_wide a_wideAsked a_wideOnes i_sum i_flickers a_sumAt j_h post) A) args s 0 0 A) (F0 m 45 ls [.int v0]) := by
  obtain ⟨hx, hb, hml, hown, hts, hr, hlocks, hRf, hRl⟩ := id X
  refine lv_istore_n (lv' := [(1, .int v0), (0, .ref (q 0))]) hx hb dX10_table_45 rfl hl (by decide) rfl (fun ls hl => ?_)
  refine lv_iload_n hx hb dX10_table_46 rfl (lv_at hl 0 rfl) ?_
  refine lv_if_ne (tgt := 54) hx hb dX10_table_47 (by decide) (fun c_3 => ?_) (fun c_3 => ?_)
  · have hw := hw.2 c_3
    refine lv_aload_n hx hb dX10_table_54 rfl (lv_at hl 1 rfl) ?_
    refine lv_aload_n hx hb dX10_table_55 rfl (lv_at hl 1 rfl) ?_
    refine gRX10_73 hx hb hown hts hK hP dX10_table_56 ?_
    refine lv_iconst (v := (1 : Int32)) hx hb dX10_table_59 (by decide) ?_
    refine lv_iadd hx hb dX10_table_60 ?_
    refine lv_topi (fun f_4 e_4 => ?_)
    have hw := hw f_4 e_4
    refine pRX10_87 hx hb hown hts hK hP hD hS dX10_table_61 (fun H locs hP hD hS => ?_)
    refine lv_aload_n hx hb dX10_table_64 rfl (lv_at hl 1 rfl) ?_
    refine lv_aload_n hx hb dX10_table_65 rfl (lv_at hl 1 rfl) ?_
    refine gRX10_67 hx hb hown hts hK hP dX10_table_66 ?_
    refine pRX10_90 hx hb hown hts hK hP hD hS dX10_table_69 (fun H locs hP hD hS => ?_)
    refine lv_iconst (v := (0 : Int32)) hx hb dX10_table_72 (by decide) ?_
    refine lv_istore_n (lv' := [(2, .int (0 : Int32)), (1, .int v0), (0, .ref (q 0))]) hx hb dX10_table_73 rfl hl (by decide) rfl (fun ls hl => ?_)
    obtain ⟨n_9, hw⟩ := hw
    refine t_X10_table_74 X hK (fun yentries_9 hw ls H locs hl hP hD hS => ?_) n_9 _ _ hw ls _ _ (lv_sub hl [2, 0] rfl) hP hD hS
    refine lv_aload_n hx hb dX10_table_102 rfl (lv_at hl 0 rfl) ?_
    refine lv_iconst (v := ((-1) : Int32)) hx hb dX10_table_103 (by decide) ?_
    refine pRX10_19 hx hb hown hts hK hP hD hS dX10_table_104 (fun H locs hP hD hS => ?_)
    refine lv_aload_n hx hb dX10_table_107 rfl (lv_at hl 0 rfl) ?_
    refine lv_iconst (v := (0 : Int32)) hx hb dX10_table_108 (by decide) ?_
    refine pRX10_93 hx hb hown hts hK hP hD hS dX10_table_109 (fun H locs hP hD hS => ?_)
    refine lv_aload_n hx hb dX10_table_112 rfl (lv_at hl 0 rfl) ?_
    refine lv_iconst (v := (0 : Int32)) hx hb dX10_table_113 (by decide) ?_
    refine pRX10_96 hx hb hown hts hK hP hD hS dX10_table_114 (fun H locs hP hD hS => ?_)
    refine lv_aload_n hx hb dX10_table_117 rfl (lv_at hl 0 rfl) ?_
    refine lv_iconst (v := (0 : Int32)) hx hb dX10_table_118 (by decide) ?_
    refine pRX10_99 hx hb hown hts hK hP hD hS dX10_table_119 (fun H locs hP hD hS => ?_)
    refine lv_aload_n hx hb dX10_table_122 rfl (lv_at hl 0 rfl) ?_
    refine lv_dup hx hb dX10_table_123 rfl ?_
    refine gRX10_102 hx hb hown hts hK hP dX10_table_124 ?_
    refine lv_iconst (v := (1 : Int32)) hx hb dX10_table_127 (by decide) ?_
    refine lv_iadd hx hb dX10_table_128 ?_
    refine lv_topi (fun f_10 e_10 => ?_)
    have hw := hw f_10 e_10
    refine pRX10_102 hx hb hown hts hK hP hD hS dX10_table_129 (fun H locs hP hD hS => ?_)
    refine lv_aload_n hx hb dX10_table_132 rfl (lv_at hl 0 rfl) ?_
    refine lv_iconst (v := (0 : Int32)) hx hb dX10_table_133 (by decide) ?_
    refine pRX10_64 hx hb hown hts hK hP hD hS dX10_table_134 (fun H locs hP hD hS => ?_)
    refine lv_aload_n hx hb dX10_table_137 rfl (lv_at hl 0 rfl) ?_
    refine wr_v (va_runV (As := []) (rest := []) ⟨hx, hb, hml, hown, hts⟩ (c_X10_layPartings l hw) (kRX10_105 (h := 3) hts (Nat.le_trans (Nat.le_of_ble_eq_true rfl) hRf) (Nat.le_trans (Nat.le_of_ble_eq_true rfl) hRl)) (preMw hK hP hD) rfl rfl hl.1 rfl (lv_room (Nat.le_of_ble_eq_true rfl)) dX10_table_138 ⟨Nat.zero_le _, Nat.zero_le _⟩) hS (fun t H locs ht hw hS => ?_)
    obtain ⟨ypartings_11, ylowSet_11, yhighSet_11, hw, hP⟩ := hw
    rw [ht] at hP
    have hP : va_P D vwCl (wM q cA (0 : Int32) a_page f_4 i_newColumns yentries_9 (0 : Int32) a_signalAt ((-1) : Int32) (0 : Int32) (0 : Int32) f_10 i_newRows i_newEntries i_newColumns i_greatest a_newAt ypartings_11 ylowSet_11 yhighSet_11 i_leastMany a_leastAt a_tried a_keptLow a_keptHigh i_laid a_wants i_wide a_wideAsked a_wideOnes i_sum i_flickers a_sumAt j_h) H := hP
    have hD : va_D A (wM q cA (0 : Int32) a_page f_4 i_newColumns yentries_9 (0 : Int32) a_signalAt ((-1) : Int32) (0 : Int32) (0 : Int32) f_10 i_newRows i_newEntries i_newColumns i_greatest a_newAt ypartings_11 ylowSet_11 yhighSet_11 i_leastMany a_leastAt a_tried a_keptLow a_keptHigh i_laid a_wants i_wide a_wideAsked a_wideOnes i_sum i_flickers a_sumAt j_h) := dM hD
    refine lv_aload_n hx hb dX10_table_141 rfl (lv_at hl 0 rfl) ?_
    refine wr_v (va_runV (As := []) (rest := []) ⟨hx, hb, hml, hown, hts⟩ (c_X10_layLeast l hw) (kRX10_108 (h := 3) hts (Nat.le_trans (Nat.le_of_ble_eq_true rfl) hRf) (Nat.le_trans (Nat.le_of_ble_eq_true rfl) hRl)) (preMw hK hP hD) rfl rfl hl.1 rfl (lv_room (Nat.le_of_ble_eq_true rfl)) dX10_table_142 ⟨Nat.zero_le _, Nat.zero_le _⟩) hS (fun t H locs ht hw hS => ?_)
    obtain ⟨yleastMany_12, yleastAt_12, ytried_12, ykeptLow_12, ykeptHigh_12, hw, hP⟩ := hw
    rw [ht] at hP
    have hP : va_P D vwCl (wM q cA (0 : Int32) a_page f_4 i_newColumns yentries_9 (0 : Int32) a_signalAt ((-1) : Int32) (0 : Int32) (0 : Int32) f_10 i_newRows i_newEntries i_newColumns i_greatest a_newAt ypartings_11 ylowSet_11 yhighSet_11 yleastMany_12 yleastAt_12 ytried_12 ykeptLow_12 ykeptHigh_12 i_laid a_wants i_wide a_wideAsked a_wideOnes i_sum i_flickers a_sumAt j_h) H := hP
    have hD : va_D A (wM q cA (0 : Int32) a_page f_4 i_newColumns yentries_9 (0 : Int32) a_signalAt ((-1) : Int32) (0 : Int32) (0 : Int32) f_10 i_newRows i_newEntries i_newColumns i_greatest a_newAt ypartings_11 ylowSet_11 yhighSet_11 yleastMany_12 yleastAt_12 ytried_12 ykeptLow_12 ykeptHigh_12 i_laid a_wants i_wide a_wideAsked a_wideOnes i_sum i_flickers a_sumAt j_h) := dM hD
    refine lv_iconst (v := (0 : Int32)) hx hb dX10_table_145 (by decide) ?_
    refine lv_istore_n (lv' := [(2, .int (0 : Int32)), (0, .ref (q 0))]) hx hb dX10_table_146 rfl hl (by decide) rfl (fun ls hl => ?_)
    obtain ⟨n_17, hw⟩ := hw
    refine t_X10_table_147 X hK (fun ysignalAt_17 hw ls H locs hl hP hD hS => ?_) n_17 _ _ hw ls _ _ (lv_sub hl [1, 0] rfl) hP hD hS
    refine lv_aload_n hx hb dX10_table_173 rfl (lv_at hl 0 rfl) ?_
    refine lv_aload_n hx hb dX10_table_174 rfl (lv_at hl 0 rfl) ?_
    refine gRX10_32 hx hb hown hts hK hP dX10_table_175 ?_
    refine lv_if_ge (tgt := 185) hx hb dX10_table_178 (by decide) (fun c_18 => ?_) (fun c_18 => ?_)
    · have hw := hw.1 c_18
      refine lv_aload_n hx hb dX10_table_185 rfl (lv_at hl 0 rfl) ?_
      refine gRX10_32 hx hb hown hts hK hP dX10_table_186 ?_
      refine pRX10_99 hx hb hown hts hK hP hD hS dX10_table_189 (fun H locs hP hD hS => ?_)
      refine lv_aload_n hx hb dX10_table_192 rfl (lv_at hl 0 rfl) ?_
      refine wr_v (va_runV (As := []) (rest := []) ⟨hx, hb, hml, hown, hts⟩ (c_X10_altered l hw) (kRX10_111 (h := 0) hts (Nat.le_trans (Nat.le_of_ble_eq_true rfl) hRf) (Nat.le_trans (Nat.le_of_ble_eq_true rfl) hRl)) (preMw hK hP hD) rfl rfl hl.1 rfl (lv_room (Nat.le_of_ble_eq_true rfl)) dX10_table_193 ⟨Nat.zero_le _, Nat.zero_le _⟩) hS (fun t H locs ht hw hS => ?_)
      obtain ⟨ylaid_19, hw, hP⟩ := hw
      rw [ht] at hP
      have hP : va_P D vwCl (wM q cA (0 : Int32) a_page f_4 i_newColumns yentries_9 yleastMany_12 ysignalAt_17 ((-1) : Int32) (0 : Int32) (0 : Int32) f_10 i_newRows i_newEntries i_newColumns i_greatest a_newAt ypartings_11 ylowSet_11 yhighSet_11 yleastMany_12 yleastAt_12 ytried_12 ykeptLow_12 ykeptHigh_12 ylaid_19 a_wants i_wide a_wideAsked a_wideOnes i_sum i_flickers a_sumAt j_h) H := hP
      have hD : va_D A (wM q cA (0 : Int32) a_page f_4 i_newColumns yentries_9 yleastMany_12 ysignalAt_17 ((-1) : Int32) (0 : Int32) (0 : Int32) f_10 i_newRows i_newEntries i_newColumns i_greatest a_newAt ypartings_11 ylowSet_11 yhighSet_11 yleastMany_12 yleastAt_12 ytried_12 ykeptLow_12 ykeptHigh_12 ylaid_19 a_wants i_wide a_wideAsked a_wideOnes i_sum i_flickers a_sumAt j_h) := dM hD
      refine lv_aload_n hx hb dX10_table_196 rfl (lv_at hl 0 rfl) ?_
      refine gRX10_87 hx hb hown hts hK hP dX10_table_197 ?_
      exact rw_i hx hb hr hlocks (fun t ht => ⟨(0 : Int32), f_4, i_newColumns, yentries_9, yleastMany_12, ysignalAt_17, ((-1) : Int32), (0 : Int32), (0 : Int32), f_10, i_newRows, i_newEntries, i_newColumns, i_greatest, a_newAt, ypartings_11, ylowSet_11, yhighSet_11, yleastMany_12, yleastAt_12, ytried_12, ykeptLow_12, ykeptHigh_12, ylaid_19, hw, by rw [ht]; exact hP⟩) hS dX10_table_200
    · have hw := hw.2 c_18
      refine lv_iconst (v := (0 : Int32)) hx hb dX10_table_181 (by decide) ?_
      refine lv_goto (tgt := 189) hx hb dX10_table_182 (by decide) ?_
      refine pRX10_99 hx hb hown hts hK hP hD hS dX10_table_189 (fun H locs hP hD hS => ?_)
      refine lv_aload_n hx hb dX10_table_192 rfl (lv_at hl 0 rfl) ?_
      refine wr_v (va_runV (As := []) (rest := []) ⟨hx, hb, hml, hown, hts⟩ (c_X10_altered l hw) (kRX10_111 (h := 0) hts (Nat.le_trans (Nat.le_of_ble_eq_true rfl) hRf) (Nat.le_trans (Nat.le_of_ble_eq_true rfl) hRl)) (preMw hK hP hD) rfl rfl hl.1 rfl (lv_room (Nat.le_of_ble_eq_true rfl)) dX10_table_193 ⟨Nat.zero_le _, Nat.zero_le _⟩) hS (fun t H locs ht hw hS => ?_)
      obtain ⟨ylaid_20, hw, hP⟩ := hw
      rw [ht] at hP
      have hP : va_P D vwCl (wM q cA (0 : Int32) a_page f_4 i_newColumns yentries_9 (0 : Int32) ysignalAt_17 ((-1) : Int32) (0 : Int32) (0 : Int32) f_10 i_newRows i_newEntries i_newColumns i_greatest a_newAt ypartings_11 ylowSet_11 yhighSet_11 yleastMany_12 yleastAt_12 ytried_12 ykeptLow_12 ykeptHigh_12 ylaid_20 a_wants i_wide a_wideAsked a_wideOnes i_sum i_flickers a_sumAt j_h) H := hP
      have hD : va_D A (wM q cA (0 : Int32) a_page f_4 i_newColumns yentries_9 (0 : Int32) ysignalAt_17 ((-1) : Int32) (0 : Int32) (0 : Int32) f_10 i_newRows i_newEntries i_newColumns i_greatest a_newAt ypartings_11 ylowSet_11 yhighSet_11 yleastMany_12 yleastAt_12 ytried_12 ykeptLow_12 ykeptHigh_12 ylaid_20 a_wants i_wide a_wideAsked a_wideOnes i_sum i_flickers a_sumAt j_h) := dM hD
      refine lv_aload_n hx hb dX10_table_196 rfl (lv_at hl 0 rfl) ?_
      refine gRX10_87 hx hb hown hts hK hP dX10_table_197 ?_
      exact rw_i hx hb hr hlocks (fun t ht => ⟨(0 : Int32), f_4, i_newColumns, yentries_9, (0 : Int32), ysignalAt_17, ((-1) : Int32), (0 : Int32), (0 : Int32), f_10, i_newRows, i_newEntries, i_newColumns, i_greatest, a_newAt, ypartings_11, ylowSet_11, yhighSet_11, yleastMany_12, yleastAt_12, ytried_12, ykeptLow_12, ykeptHigh_12, ylaid_20, hw, by rw [ht]; exact hP⟩) hS dX10_table_200
  · have hw := hw.1 c_3
    refine lv_sipush (v := ((-1003) : Int32)) hx hb dX10_table_50 (by decide +kernel) ?_
    exact rw_i hx hb hr hlocks (fun t ht => ⟨i_pageLength, i_states, i_columns, a_entries, i_signals, a_signalAt, i_walksAt, i_turned, i_changed, i_read, i_newRows, i_newEntries, i_newColumns, i_greatest, a_newAt, i_partings, a_lowSet, a_highSet, i_leastMany, a_leastAt, a_tried, a_keptLow, a_keptHigh, i_laid, hw, by rw [ht]; exact hP⟩) hS dX10_table_53
set_option maxHeartbeats 4000000 in
set_option maxRecDepth 100000 in
theorem c_X10_table (l : Launch) {D : va_G} {q : Nat → Nat} {cA : Nat → ClassId} {i_pageLength : Int32} {a_page : Nat → Int32} {i_states : Int32} {i_columns : Int32} {a_entries : Nat → Int32} {i_signals : Int32} {a_signalAt : Nat → Int32} {i_walksAt : Int32} {i_turned : Int32} {i_changed : Int32} {i_read : Int32} {i_newRows : Int32} {i_newEntries : Int32} {i_newColumns : Int32} {i_greatest : Int32} {a_newAt : Nat → Int32} {i_partings : Int32} {a_lowSet : Nat → Int32} {a_highSet : Nat → Int32} {i_leastMany : Int32} {a_leastAt : Nat → Int32} {a_tried : Nat → Int32} {a_keptLow : Nat → Int64} {a_keptHigh : Nat → Int64} {i_laid : Int32} {a_wants : Nat → Int32} {i_wide : Int32} {a_wideAsked : Nat → Int32} {a_wideOnes : Nat → Int32} {i_sum : Int32} {i_flickers : Int32} {a_sumAt : Nat → Int32} {j_h : Int64} {A : Nat → Prop} {post : Int32 → Int32 → Int32 → Int32 → (Nat → Int32) → Int32 → (Nat → Int32) → Int32 → Int32 → Int32 → Int32 → Int32 → Int32 → Int32 → Int32 → (Nat → Int32) → Int32 → (Nat → Int32) → (Nat → Int32) → Int32 → (Nat → Int32) → (Nat → Int32) → (Nat → Int64) → (Nat → Int64) → Int32 → Prop}  (hw : wp_X10_table post i_pageLength a_page i_states i_columns a_entries i_signals a_signalAt i_walksAt i_turned i_changed i_read i_newRows i_newEntries i_newColumns i_greatest a_newAt i_partings a_lowSet a_highSet i_leastMany a_leastAt a_tried a_keptLow a_keptHigh i_laid ) : Met l yX10_table (Cond.code yX10_table cX10_table 3 (some .int) :: wsL_law) (rmH 4) (va_Pc [.ref (q 0)] (fun U => va_P D vwCl (wM q cA i_pageLength a_page i_states i_columns a_entries i_signals a_signalAt i_walksAt i_turned i_changed i_read i_newRows i_newEntries i_newColumns i_greatest a_newAt i_partings a_lowSet a_highSet i_leastMany a_leastAt a_tried a_keptLow a_keptHigh i_laid a_wants i_wide a_wideAsked a_wideOnes i_sum i_flickers a_sumAt j_h) U.heap ∧ va_K D vwCl (tyM cA) U ∧ va_D A (wM q cA i_pageLength a_page i_states i_columns a_entries i_signals a_signalAt i_walksAt i_turned i_changed i_read i_newRows i_newEntries i_newColumns i_greatest a_newAt i_partings a_lowSet a_highSet i_leastMany a_leastAt a_tried a_keptLow a_keptHigh i_laid a_wants i_wide a_wideAsked a_wideOnes i_sum i_flickers a_sumAt j_h))) (qWi (Z_X10_table D q cA a_page a_wants i_wide a_wideAsked a_wideOnes i_sum i_flickers a_sumAt j_h post) A) 0 0 A := by
  refine Met.ofW (cc := cX10_table) (maxL := 3) (ret := (some .int)) (by decide) rfl ?_
  intro p e s m args below meth c s₁ B hml hv
  obtain ⟨rfl, hP, hK, hD⟩ := hv
  have X : kC p (headSpec (Cond.code yX10_table cX10_table 3 (some .int) :: wsL_law) (rmH 4)).room s m _ meth c cX10_table RX10 3 (some .int) 4 := ⟨B.exec, B.bytes, hml, findClass_of_methodNamed B.named, fun w h => atoms_spec (ws := Cond.code yX10_table cX10_table 3 (some .int) :: wsL_law) B.pre w (List.mem_cons_of_mem _ h), B.returns, B.notSynchronized, Nat.le_refl _, Nat.le_refl _⟩
  obtain ⟨hx, hb, hml, hown, hts, hr, hlocks, hRf, hRl⟩ := id X
  have hS : va_S A s.heap s.heap [] := va_S.rf
  have hl := lv_entry ([.ref (q 0)]) (n := 3) (Nat.le_of_ble_eq_true rfl)
  rw [lg_entry_eq]
  generalize (lg_sl ([.ref (q 0)]) ++ List.replicate (3 - (lg_sl ([.ref (q 0)])).length) Slot.unset).toArray = ls at hl ⊢
  have hl : lv_has ls 3 [(0, .ref (q 0))] := hl
  refine lv_aload_n hx hb dX10_table_0 rfl (lv_at hl 0 rfl) ?_
  refine wr_i (va_runV (As := []) (rest := []) ⟨hx, hb, hml, hown, hts⟩ (c_X10_readPage l hw) (kRX10_83 (h := 2) hts (Nat.le_trans (Nat.le_of_ble_eq_true rfl) hRf) (Nat.le_trans (Nat.le_of_ble_eq_true rfl) hRl)) (preMw hK hP hD) rfl rfl hl.1 rfl (lv_room (Nat.le_of_ble_eq_true rfl)) dX10_table_1 ⟨Nat.zero_le _, Nat.zero_le _⟩) hS (fun r_1 t H locs ht hw hS => ?_)
  obtain ⟨ynewRows_1, ynewEntries_1, ynewColumns_1, ygreatest_1, ynewAt_1, hw, hP⟩ := hw
  rw [ht] at hP
  have hP : va_P D vwCl (wM q cA i_pageLength a_page i_states i_columns a_entries i_signals a_signalAt i_walksAt i_turned i_changed i_read ynewRows_1 ynewEntries_1 ynewColumns_1 ygreatest_1 ynewAt_1 i_partings a_lowSet a_highSet i_leastMany a_leastAt a_tried a_keptLow a_keptHigh i_laid a_wants i_wide a_wideAsked a_wideOnes i_sum i_flickers a_sumAt j_h) H := hP
  have hD : va_D A (wM q cA i_pageLength a_page i_states i_columns a_entries i_signals a_signalAt i_walksAt i_turned i_changed i_read ynewRows_1 ynewEntries_1 ynewColumns_1 ygreatest_1 ynewAt_1 i_partings a_lowSet a_highSet i_leastMany a_leastAt a_tried a_keptLow a_keptHigh i_laid a_wants i_wide a_wideAsked a_wideOnes i_sum i_flickers a_sumAt j_h) := dM hD
  refine lv_aload_n hx hb dX10_table_4 rfl (lv_at hl 0 rfl) ?_
  refine gRX10_64 hx hb hown hts hK hP dX10_table_5 ?_
  refine lv_icmp_ne (tgt := 44) hx hb dX10_table_8 (by decide) (fun c_2 => ?_) (fun c_2 => ?_)
  · have hw := hw.2 c_2
    refine lv_iconst (v := (0 : Int32)) hx hb dX10_table_44 (by decide) ?_
    exact t_X10_table_45 X hK hw ls _ _ (lv_sub hl [0] rfl) hP hD hS
  · have hw := hw.1 c_2
    refine lv_aload_n hx hb dX10_table_11 rfl (lv_at hl 0 rfl) ?_
    refine gRX10_73 hx hb hown hts hK hP dX10_table_12 ?_
    refine lv_if_le (tgt := 44) hx hb dX10_table_15 (by decide) (fun c_21 => ?_) (fun c_21 => ?_)
    · have hw := hw.1 c_21
      refine lv_iconst (v := (0 : Int32)) hx hb dX10_table_44 (by decide) ?_
      exact t_X10_table_45 X hK hw ls _ _ (lv_sub hl [0] rfl) hP hD hS
    · have hw := hw.2 c_21
      refine lv_aload_n hx hb dX10_table_18 rfl (lv_at hl 0 rfl) ?_
      refine gRX10_70 hx hb hown hts hK hP dX10_table_19 ?_
      refine lv_aload_n hx hb dX10_table_22 rfl (lv_at hl 0 rfl) ?_
      refine gRX10_67 hx hb hown hts hK hP dX10_table_23 ?_
      refine lv_icmp_ne (tgt := 44) hx hb dX10_table_26 (by decide) (fun c_22 => ?_) (fun c_22 => ?_)
      · have hw := hw.2 c_22
        refine lv_iconst (v := (0 : Int32)) hx hb dX10_table_44 (by decide) ?_
        exact t_X10_table_45 X hK hw ls _ _ (lv_sub hl [0] rfl) hP hD hS
      · have hw := hw.1 c_22
        refine lv_aload_n hx hb dX10_table_29 rfl (lv_at hl 0 rfl) ?_
        refine gRX10_76 hx hb hown hts hK hP dX10_table_30 ?_
        refine lv_aload_n hx hb dX10_table_33 rfl (lv_at hl 0 rfl) ?_
        refine gRX10_73 hx hb hown hts hK hP dX10_table_34 ?_
        refine lv_icmp_gt (tgt := 44) hx hb dX10_table_37 (by decide) (fun c_23 => ?_) (fun c_23 => ?_)
        · have hw := hw.1 c_23
          refine lv_iconst (v := (0 : Int32)) hx hb dX10_table_44 (by decide) ?_
          exact t_X10_table_45 X hK hw ls _ _ (lv_sub hl [0] rfl) hP hD hS
        · have hw := hw.2 c_23
          refine lv_iconst (v := (1 : Int32)) hx hb dX10_table_40 (by decide) ?_
          refine lv_goto (tgt := 45) hx hb dX10_table_41 (by decide) ?_
          exact t_X10_table_45 X hK hw ls _ _ (lv_sub hl [0] rfl) hP hD hS
