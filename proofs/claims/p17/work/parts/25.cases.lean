/-! THE CLAIM OUT OF ONE WALK OF THE LAW'S BODY. Your part is whole_start (and what it stands on); all else here is the same for every law, but numbers. -/
def R_law : String := "FlowCodesLaw"
def lw_P (b : Addr) (xs : List Int32) (args : Array Value) (s : State) : Prop := args = #[.ref b] ∧ s.IntsAt b xs ∧ xs.length ≤ 2048 ∧ (Jvm.Cond.and given_1 narrow_1).before args s = true
def lw_Q (_ : Array Value) (s : State) (o : Outcome) (t : State) : Prop := o = .returned (some (.int 1)) ∧ Framed s o t [] 600000 7302250
def lw_Z (below : List Frame) (a : Array Value) (s : State) : State → Prop := fun t => ∃ o, t.status = .running ∧ Ended t below o ∧ lw_Q a s o t
/-- the law's own end, with 1 on the stack, nothing written that was there before, its room as the claim has it -/
theorem lw_ret {p : Program} {l : Launch} {e : Env} {s : State} {m : MethodId} {below : List Frame} {meth : Method} {c : Code} {b : Nat} (hx : p.tables.exec = Jvm.exec) (hb : c.code = code) (hr : meth.sig.returnType = ret) (hlocks : meth.locks = false) {pc : Nat} {H : Heap} {ls : Array Slot} (hdg : decode code pc = .ok (.ireturn, 1)) : W p l e room_1 s m #[Value.ref b] below meth c H [] 600000 7302250 (lw_Z below #[Value.ref b] s) (F0 m pc ls [.int 1]) := by
  intro T hT X
  obtain ⟨fs, hret, hrun, hended, hW, hframe⟩ := X.leave (v := some (.int 1)) (hlocks := hlocks) (fun h => by rw [hr] at h; cases h)
  have hmeth' : T.vm.method? m = some meth := X.method'
  refine ⟨T.setFrames fs, ?_, .returned (some (.int 1)), hrun, hended, rfl, ⟨_, rfl⟩, hW, hframe⟩
  jvm_step X.here [X.here.top, hx, hb, hdg, hmeth', hr, ret, narrow_b1]
  (try refine ⟨rfl, ?_⟩); (try refine ⟨rfl, ?_⟩)
  first | (intro acts; rw [hret _ acts rfl rfl rfl]) | rw [hret _ _ rfl rfl rfl]
  exact Steps.refl _
/-- what holds at the law's entry: the machine, the code, the tables' words (any of lw_tbl by 'hts w (by decide +kernel)'), the script of L ints xs at the cell b, what the Statement gives of the start (any of its parts by flat_of_before) -/
def lw_At (p : Program) (s : State) (m : MethodId) (meth : Method) (c : Code) (b L : Nat) (xs : Nat → Int32) : Prop :=
  p.tables.exec = Jvm.exec ∧ c.code = code ∧ meth.sig.returnType = ret ∧ c.maxLocals = 4 ∧ s.vm.findClass R_law = some m.cls ∧ (∀ w ∈ lw_tbl, w.before #[Value.ref b] s = true) ∧ va_X b L xs s s.heap ∧ b < s.heap.size ∧ meth.locks = false ∧ (Jvm.Cond.and given_1 narrow_1).before #[Value.ref b] s = true
theorem nl_0 : Cond.fieldLinkNest RX9 83 "FlowCodes$Page" "size" "I" "FlowCodes" ∈ lw_tbl := List.mem_append_right _ (List.mem_of_getElem? (i := 30) (by decide +kernel))
theorem nl_1 : Cond.fieldLinkNest RX9 89 "FlowCodes$Page" "fault" "I" "FlowCodes" ∈ lw_tbl := List.mem_append_right _ (List.mem_of_getElem? (i := 31) (by decide +kernel))
theorem nl_2 : Cond.fieldLinkNest RX2 19 "FlowCodes$Page" "rows" "I" "FlowCodes" ∈ lw_tbl := List.mem_append_right _ (List.mem_of_getElem? (i := 33) (by decide +kernel))
theorem nl_3 : Cond.fieldLinkNest RX2 27 "FlowCodes$Page" "width" "I" "FlowCodes" ∈ lw_tbl := List.mem_append_right _ (List.mem_of_getElem? (i := 36) (by decide +kernel))
theorem nl_4 : Cond.fieldLinkNest RX0 24 "FlowCodes$Flow" "states" "I" "FlowCodes" ∈ lw_tbl := List.mem_append_right _ (List.mem_of_getElem? (i := 60) (by decide +kernel))
theorem nl_5 : Cond.fieldLinkNest RX6 25 "FlowCodes$Flow" "states" "I" "FlowCodes" ∈ lw_tbl := List.mem_append_right _ (List.mem_of_getElem? (i := 61) (by decide +kernel))
theorem nl_6 : Cond.fieldLinkNest RX9 118 "FlowCodes$Flow" "states" "I" "FlowCodes" ∈ lw_tbl := List.mem_append_right _ (List.mem_of_getElem? (i := 62) (by decide +kernel))
theorem nl_7 : Cond.fieldLinkNest RX7 53 "FlowCodes$Flow" "states" "I" "FlowCodes" ∈ lw_tbl := List.mem_append_right _ (List.mem_of_getElem? (i := 63) (by decide +kernel))
theorem nl_8 : Cond.fieldLinkNest RX0 29 "FlowCodes$Flow" "columns" "I" "FlowCodes" ∈ lw_tbl := List.mem_append_right _ (List.mem_of_getElem? (i := 65) (by decide +kernel))
theorem nl_9 : Cond.fieldLinkNest RX6 34 "FlowCodes$Flow" "columns" "I" "FlowCodes" ∈ lw_tbl := List.mem_append_right _ (List.mem_of_getElem? (i := 66) (by decide +kernel))
theorem nl_10 : Cond.fieldLinkNest RX7 58 "FlowCodes$Flow" "columns" "I" "FlowCodes" ∈ lw_tbl := List.mem_append_right _ (List.mem_of_getElem? (i := 67) (by decide +kernel))
theorem nl_11 : Cond.fieldLinkNest RX9 233 "FlowCodes$Flow" "columns" "I" "FlowCodes" ∈ lw_tbl := List.mem_append_right _ (List.mem_of_getElem? (i := 68) (by decide +kernel))
theorem nl_12 : Cond.fieldLinkNest RX9 145 "FlowCodes$Flow" "moves" "I" "FlowCodes" ∈ lw_tbl := List.mem_append_right _ (List.mem_of_getElem? (i := 70) (by decide +kernel))
theorem nl_13 : Cond.fieldLinkNest RX9 148 "FlowCodes$Flow" "stables" "I" "FlowCodes" ∈ lw_tbl := List.mem_append_right _ (List.mem_of_getElem? (i := 72) (by decide +kernel))
theorem nl_14 : Cond.fieldLinkNest RX9 142 "FlowCodes$Flow" "amiss" "I" "FlowCodes" ∈ lw_tbl := List.mem_append_right _ (List.mem_of_getElem? (i := 74) (by decide +kernel))
theorem nl_15 : Cond.fieldLinkNest RX9 110 "FlowCodes$Flow" "normal" "Z" "FlowCodes" ∈ lw_tbl := List.mem_append_right _ (List.mem_of_getElem? (i := 76) (by decide +kernel))
theorem nl_16 : Cond.fieldLinkNest RX3 37 "FlowCodes$Partings" "size" "I" "FlowCodes" ∈ lw_tbl := List.mem_append_right _ (List.mem_of_getElem? (i := 102) (by decide +kernel))
theorem nl_17 : Cond.fieldLinkNest RX9 151 "FlowCodes$Partings" "size" "I" "FlowCodes" ∈ lw_tbl := List.mem_append_right _ (List.mem_of_getElem? (i := 103) (by decide +kernel))
theorem nl_18 : Cond.fieldLinkNest RX7 48 "FlowCodes$Partings" "size" "I" "FlowCodes" ∈ lw_tbl := List.mem_append_right _ (List.mem_of_getElem? (i := 104) (by decide +kernel))
theorem nl_19 : Cond.fieldLinkNest RX7 28 "FlowCodes$LeastCode" "signals" "[I" "FlowCodes" ∈ lw_tbl := List.mem_append_right _ (List.mem_of_getElem? (i := 119) (by decide +kernel))
theorem nl_20 : Cond.fieldLinkNest RX9 164 "FlowCodes$LeastCode" "signals" "[I" "FlowCodes" ∈ lw_tbl := List.mem_append_right _ (List.mem_of_getElem? (i := 120) (by decide +kernel))
theorem nl_21 : Cond.fieldLinkNest RX7 25 "FlowCodes$LeastCode" "size" "I" "FlowCodes" ∈ lw_tbl := List.mem_append_right _ (List.mem_of_getElem? (i := 125) (by decide +kernel))
theorem nl_22 : Cond.fieldLinkNest RX9 163 "FlowCodes$LeastCode" "size" "I" "FlowCodes" ∈ lw_tbl := List.mem_append_right _ (List.mem_of_getElem? (i := 126) (by decide +kernel))
theorem nl_23 : Cond.fieldLinkNest RX0 19 "FlowCodes$SignalCode" "size" "I" "FlowCodes" ∈ lw_tbl := List.mem_append_right _ (List.mem_of_getElem? (i := 148) (by decide +kernel))
theorem nl_24 : Cond.fieldLinkNest RX9 175 "FlowCodes$SignalCode" "size" "I" "FlowCodes" ∈ lw_tbl := List.mem_append_right _ (List.mem_of_getElem? (i := 149) (by decide +kernel))
theorem nl_25 : Cond.fieldLinkNest RX4 57 "FlowCodes$Aims" "bits" "I" "FlowCodes" ∈ lw_tbl := List.mem_append_right _ (List.mem_of_getElem? (i := 165) (by decide +kernel))
theorem nl_26 : Cond.fieldLinkNest RX4 25 "FlowCodes$Cubes" "all" "I" "FlowCodes" ∈ lw_tbl := List.mem_append_right _ (List.mem_of_getElem? (i := 180) (by decide +kernel))
theorem nl_27 : Cond.fieldLinkNest RX9 203 "FlowCodes$Logic" "wideSize" "I" "FlowCodes" ∈ lw_tbl := List.mem_append_right _ (List.mem_of_getElem? (i := 200) (by decide +kernel))
theorem nl_28 : Cond.fieldLinkNest RX9 206 "FlowCodes$Logic" "sumSize" "I" "FlowCodes" ∈ lw_tbl := List.mem_append_right _ (List.mem_of_getElem? (i := 202) (by decide +kernel))
theorem nl_29 : Cond.fieldLinkNest RX9 209 "FlowCodes$Logic" "flickers" "I" "FlowCodes" ∈ lw_tbl := List.mem_append_right _ (List.mem_of_getElem? (i := 204) (by decide +kernel))
theorem nl_30 : Cond.fieldLinkNest RX9 294 "FlowCodes$Logic" "ready" "Z" "FlowCodes" ∈ lw_tbl := List.mem_append_right _ (List.mem_of_getElem? (i := 205) (by decide +kernel))
theorem nl_31 : Cond.fieldLinkNest RX9 224 "FlowCodes$Walker" "at" "I" "FlowCodes" ∈ lw_tbl := List.mem_append_right _ (List.mem_of_getElem? (i := 228) (by decide +kernel))
theorem nl_32 : Cond.fieldLinkNest RX9 236 "FlowCodes$Walker" "turns" "I" "FlowCodes" ∈ lw_tbl := List.mem_append_right _ (List.mem_of_getElem? (i := 230) (by decide +kernel))
theorem nl_33 : Cond.fieldLinkNest RX9 239 "FlowCodes$Walker" "changes" "I" "FlowCodes" ∈ lw_tbl := List.mem_append_right _ (List.mem_of_getElem? (i := 232) (by decide +kernel))
theorem nwC_of {s : State} {args : Array Value} (hts : ∀ w ∈ lw_tbl, w.before args s = true) : nwC s := List.forall_mem_cons.mpr ⟨va_Nw.of rfl (hts _ nl_0), List.forall_mem_cons.mpr ⟨va_Nw.of rfl (hts _ nl_1), List.forall_mem_cons.mpr ⟨va_Nw.of rfl (hts _ nl_2), List.forall_mem_cons.mpr ⟨va_Nw.of rfl (hts _ nl_3), List.forall_mem_cons.mpr ⟨va_Nw.of rfl (hts _ nl_4), List.forall_mem_cons.mpr ⟨va_Nw.of rfl (hts _ nl_5), List.forall_mem_cons.mpr ⟨va_Nw.of rfl (hts _ nl_6), List.forall_mem_cons.mpr ⟨va_Nw.of rfl (hts _ nl_7), List.forall_mem_cons.mpr ⟨va_Nw.of rfl (hts _ nl_8), List.forall_mem_cons.mpr ⟨va_Nw.of rfl (hts _ nl_9), List.forall_mem_cons.mpr ⟨va_Nw.of rfl (hts _ nl_10), List.forall_mem_cons.mpr ⟨va_Nw.of rfl (hts _ nl_11), List.forall_mem_cons.mpr ⟨va_Nw.of rfl (hts _ nl_12), List.forall_mem_cons.mpr ⟨va_Nw.of rfl (hts _ nl_13), List.forall_mem_cons.mpr ⟨va_Nw.of rfl (hts _ nl_14), List.forall_mem_cons.mpr ⟨va_Nw.of rfl (hts _ nl_15), List.forall_mem_cons.mpr ⟨va_Nw.of rfl (hts _ nl_16), List.forall_mem_cons.mpr ⟨va_Nw.of rfl (hts _ nl_17), List.forall_mem_cons.mpr ⟨va_Nw.of rfl (hts _ nl_18), List.forall_mem_cons.mpr ⟨va_Nw.of rfl (hts _ nl_19), List.forall_mem_cons.mpr ⟨va_Nw.of rfl (hts _ nl_20), List.forall_mem_cons.mpr ⟨va_Nw.of rfl (hts _ nl_21), List.forall_mem_cons.mpr ⟨va_Nw.of rfl (hts _ nl_22), List.forall_mem_cons.mpr ⟨va_Nw.of rfl (hts _ nl_23), List.forall_mem_cons.mpr ⟨va_Nw.of rfl (hts _ nl_24), List.forall_mem_cons.mpr ⟨va_Nw.of rfl (hts _ nl_25), List.forall_mem_cons.mpr ⟨va_Nw.of rfl (hts _ nl_26), List.forall_mem_cons.mpr ⟨va_Nw.of rfl (hts _ nl_27), List.forall_mem_cons.mpr ⟨va_Nw.of rfl (hts _ nl_28), List.forall_mem_cons.mpr ⟨va_Nw.of rfl (hts _ nl_29), List.forall_mem_cons.mpr ⟨va_Nw.of rfl (hts _ nl_30), List.forall_mem_cons.mpr ⟨va_Nw.of rfl (hts _ nl_31), List.forall_mem_cons.mpr ⟨va_Nw.of rfl (hts _ nl_32), List.forall_mem_cons.mpr ⟨va_Nw.of rfl (hts _ nl_33), fun _ h => absurd h List.not_mem_nil⟩⟩⟩⟩⟩⟩⟩⟩⟩⟩⟩⟩⟩⟩⟩⟩⟩⟩⟩⟩⟩⟩⟩⟩⟩⟩⟩⟩⟩⟩⟩⟩⟩⟩
theorem ao_in : Cond.arrayOver (.object "FlowCodes$Logic") ∈ lw_tbl := List.mem_append_right _ (List.mem_of_getElem? (i := 190) (by decide +kernel))
def iC (D : va_G) (q : Nat → Nat) (cA : Nat → ClassId) (A : Nat → Prop) (z : AS) (H : Heap) : Prop := ∃ (Fc_unkept : Int32) (Fc_tablesRead : Int32) (Pg_letters : Nat → Int32) (Pg_size : Int32) (Pg_fault : Int32) (Pg_rows : Int32) (Pg_inRow : Int32) (Pg_width : Int32) (Fl_entries : Nat → Int32) (Fl_states : Int32) (Fl_columns : Int32) (Fl_moves : Int32) (Fl_stables : Int32) (Fl_amiss : Int32) (Fl_normal : Int32) (Pt_lessers : Nat → Int32) (Pt_greaters : Nat → Int32) (Pt_size : Int32) (Lc_signals : Nat → Int32) (Lc_kept : Nat → Int64) (Lc_keptFrom : Nat → Int64) (Lc_candidates : Int32) (Lc_size : Int32) (Sc_signals : Nat → Int32) (Sc_codes : Nat → Int32) (Sc_size : Int32) (Ai_codes : Nat → Int32) (Ai_bits : Int32) (Cu_seen : Nat → Int32) (Cu_inThrees : Nat → Int32) (Cu_all : Int32) (Lo_asked : Nat → Nat → Int32) (Lo_ones : Nat → Nat → Int32) (Lo_sum : Nat → Nat → Int32) (Lo_wideSize : Nat → Int32) (Lo_sumSize : Nat → Int32) (Lo_flickers : Nat → Int32) (Lo_ready : Nat → Int32) (Wa_at : Int32) (Wa_turns : Int32) (Wa_changes : Int32), jCz z Pg_letters Pg_size Fl_entries Fl_states Fl_columns Wa_at Fc_tablesRead Wa_turns Wa_changes Fc_unkept Fl_moves Fl_stables Fl_amiss Fl_normal Pt_lessers Pt_greaters Pt_size Lc_signals Lc_size Sc_signals Sc_codes Sc_size Ai_codes Ai_bits Cu_inThrees Lo_asked Lo_ones Lo_sum Lo_wideSize Lo_sumSize Lo_flickers Lo_ready ∧ va_P D vwCl (wC q cA Fc_unkept Fc_tablesRead Pg_letters Pg_size Pg_fault Pg_rows Pg_inRow Pg_width Fl_entries Fl_states Fl_columns Fl_moves Fl_stables Fl_amiss Fl_normal Pt_lessers Pt_greaters Pt_size Lc_signals Lc_kept Lc_keptFrom Lc_candidates Lc_size Sc_signals Sc_codes Sc_size Ai_codes Ai_bits Cu_seen Cu_inThrees Cu_all Lo_asked Lo_ones Lo_sum Lo_wideSize Lo_sumSize Lo_flickers Lo_ready Wa_at Wa_turns Wa_changes) H ∧ va_D A (wC q cA Fc_unkept Fc_tablesRead Pg_letters Pg_size Pg_fault Pg_rows Pg_inRow Pg_width Fl_entries Fl_states Fl_columns Fl_moves Fl_stables Fl_amiss Fl_normal Pt_lessers Pt_greaters Pt_size Lc_signals Lc_kept Lc_keptFrom Lc_candidates Lc_size Sc_signals Sc_codes Sc_size Ai_codes Ai_bits Cu_seen Cu_inThrees Cu_all Lo_asked Lo_ones Lo_sum Lo_wideSize Lo_sumSize Lo_flickers Lo_ready Wa_at Wa_turns Wa_changes)
def iM (D : va_G) (q : Nat → Nat) (cA : Nat → ClassId) (A : Nat → Prop) (z : AS) (H : Heap) : Prop := ∃ (i_pageLength : Int32) (a_page : Nat → Int32) (i_states : Int32) (i_columns : Int32) (a_entries : Nat → Int32) (i_signals : Int32) (a_signalAt : Nat → Int32) (i_walksAt : Int32) (i_turned : Int32) (i_changed : Int32) (i_read : Int32) (i_newRows : Int32) (i_newEntries : Int32) (i_newColumns : Int32) (i_greatest : Int32) (a_newAt : Nat → Int32) (i_partings : Int32) (a_lowSet : Nat → Int32) (a_highSet : Nat → Int32) (i_leastMany : Int32) (a_leastAt : Nat → Int32) (a_tried : Nat → Int32) (a_keptLow : Nat → Int64) (a_keptHigh : Nat → Int64) (i_laid : Int32) (a_wants : Nat → Int32) (i_wide : Int32) (a_wideAsked : Nat → Int32) (a_wideOnes : Nat → Int32) (i_sum : Int32) (i_flickers : Int32) (a_sumAt : Nat → Int32) (j_h : Int64), jMz z i_pageLength a_page i_states i_columns a_entries i_signals a_signalAt i_walksAt i_read i_turned i_changed i_partings a_lowSet a_highSet i_leastMany a_leastAt i_laid a_wants i_wide a_wideAsked a_wideOnes i_sum i_flickers a_sumAt ∧ va_P D vwCl (wM q cA i_pageLength a_page i_states i_columns a_entries i_signals a_signalAt i_walksAt i_turned i_changed i_read i_newRows i_newEntries i_newColumns i_greatest a_newAt i_partings a_lowSet a_highSet i_leastMany a_leastAt a_tried a_keptLow a_keptHigh i_laid a_wants i_wide a_wideAsked a_wideOnes i_sum i_flickers a_sumAt j_h) H ∧ va_D A (wM q cA i_pageLength a_page i_states i_columns a_entries i_signals a_signalAt i_walksAt i_turned i_changed i_read i_newRows i_newEntries i_newColumns i_greatest a_newAt i_partings a_lowSet a_highSet i_leastMany a_leastAt a_tried a_keptLow a_keptHigh i_laid a_wants i_wide a_wideAsked a_wideOnes i_sum i_flickers a_sumAt j_h)
/-- a world stays, where others write -/
theorem va_P.stay {D : va_G} {cl : List vw_C} {w : va_W} {H H1 : Heap} {A B : Nat → Prop} (h : va_P D cl w H) (hD : va_D A w) (hd : ∀ a, B a → ¬ A a) (hk : ∀ q : Nat, q < H.size → ¬ B q → H1[q]? = H[q]?) : va_P D cl w H1 := h.kept (fun k q hq => hk q.1 ((h k q hq).lt) (fun hb => hd _ hb (hD.2 k q hq)))
theorem iC.stay {D : va_G} {q : Nat → Nat} {cA : Nat → ClassId} {A B : Nat → Prop} {z : AS} {H H1 : Heap} (h : iC D q cA A z H) (hd : ∀ a, B a → ¬ A a) (hk : ∀ q : Nat, q < H.size → ¬ B q → H1[q]? = H[q]?) : iC D q cA A z H1 := by
  obtain ⟨Fc_unkept, Fc_tablesRead, Pg_letters, Pg_size, Pg_fault, Pg_rows, Pg_inRow, Pg_width, Fl_entries, Fl_states, Fl_columns, Fl_moves, Fl_stables, Fl_amiss, Fl_normal, Pt_lessers, Pt_greaters, Pt_size, Lc_signals, Lc_kept, Lc_keptFrom, Lc_candidates, Lc_size, Sc_signals, Sc_codes, Sc_size, Ai_codes, Ai_bits, Cu_seen, Cu_inThrees, Cu_all, Lo_asked, Lo_ones, Lo_sum, Lo_wideSize, Lo_sumSize, Lo_flickers, Lo_ready, Wa_at, Wa_turns, Wa_changes, hJ, hP, hD⟩ := h
  exact ⟨Fc_unkept, Fc_tablesRead, Pg_letters, Pg_size, Pg_fault, Pg_rows, Pg_inRow, Pg_width, Fl_entries, Fl_states, Fl_columns, Fl_moves, Fl_stables, Fl_amiss, Fl_normal, Pt_lessers, Pt_greaters, Pt_size, Lc_signals, Lc_kept, Lc_keptFrom, Lc_candidates, Lc_size, Sc_signals, Sc_codes, Sc_size, Ai_codes, Ai_bits, Cu_seen, Cu_inThrees, Cu_all, Lo_asked, Lo_ones, Lo_sum, Lo_wideSize, Lo_sumSize, Lo_flickers, Lo_ready, Wa_at, Wa_turns, Wa_changes, hJ, hP.stay hD hd hk, hD⟩
theorem iM.stay {D : va_G} {q : Nat → Nat} {cA : Nat → ClassId} {A B : Nat → Prop} {z : AS} {H H1 : Heap} (h : iM D q cA A z H) (hd : ∀ a, B a → ¬ A a) (hk : ∀ q : Nat, q < H.size → ¬ B q → H1[q]? = H[q]?) : iM D q cA A z H1 := by
  obtain ⟨i_pageLength, a_page, i_states, i_columns, a_entries, i_signals, a_signalAt, i_walksAt, i_turned, i_changed, i_read, i_newRows, i_newEntries, i_newColumns, i_greatest, a_newAt, i_partings, a_lowSet, a_highSet, i_leastMany, a_leastAt, a_tried, a_keptLow, a_keptHigh, i_laid, a_wants, i_wide, a_wideAsked, a_wideOnes, i_sum, i_flickers, a_sumAt, j_h, hJ, hP, hD⟩ := h
  exact ⟨i_pageLength, a_page, i_states, i_columns, a_entries, i_signals, a_signalAt, i_walksAt, i_turned, i_changed, i_read, i_newRows, i_newEntries, i_newColumns, i_greatest, a_newAt, i_partings, a_lowSet, a_highSet, i_leastMany, a_leastAt, a_tried, a_keptLow, a_keptHigh, i_laid, a_wants, i_wide, a_wideAsked, a_wideOnes, i_sum, i_flickers, a_sumAt, j_h, hJ, hP.stay hD hd hk, hD⟩
theorem va_P.left {D : va_G} {cl : List vw_C} {w1 w2 : va_W} {H : Heap} (h : va_P D cl (w1 ++ w2) H) : va_P D cl w1 H := fun k q hk => h k q (by rw [List.getElem?_append_left (List.getElem?_eq_some_iff.mp hk).1]; exact hk)
theorem va_P.right {D : va_G} {cl : List vw_C} {w1 w2 : va_W} {H : Heap} (h : va_P D cl (w1 ++ w2) H) : va_P D cl w2 H := fun k q hk => h (w1.length + k) q (by rw [List.getElem?_append_right (Nat.le_add_right _ _), Nat.add_sub_cancel_left]; exact hk)
/-- the addresses of a world -/
def aW (w : va_W) : Nat → Prop := fun a => ∃ (k : Nat) (e : va_E), w[k]? = some (a, e)
theorem aW_L {A : Nat → Prop} {w1 w2 : va_W} (h : va_D A (w1 ++ w2)) : va_D (aW w1) w1 := ⟨fun i j p q hp hq e => h.1 i j p q (by rw [List.getElem?_append_left (List.getElem?_eq_some_iff.mp hp).1]; exact hp) (by rw [List.getElem?_append_left (List.getElem?_eq_some_iff.mp hq).1]; exact hq) e, fun k q hk => ⟨k, q.2, hk⟩⟩
theorem aW_R {A : Nat → Prop} {w1 w2 : va_W} (h : va_D A (w1 ++ w2)) : va_D (aW w2) w2 := ⟨fun i j p q hp hq e => by
  have := h.1 (w1.length + i) (w1.length + j) p q (by rw [List.getElem?_append_right (Nat.le_add_right _ _), Nat.add_sub_cancel_left]; exact hp) (by rw [List.getElem?_append_right (Nat.le_add_right _ _), Nat.add_sub_cancel_left]; exact hq) e
  omega, fun k q hk => ⟨k, q.2, hk⟩⟩
theorem aW_dis {A : Nat → Prop} {w1 w2 : va_W} (h : va_D A (w1 ++ w2)) : ∀ a, aW w1 a → ¬ aW w2 a := by
  rintro a ⟨i, e, hi⟩ ⟨j, e', hj⟩
  have hlt := (List.getElem?_eq_some_iff.mp hi).1
  have := h.1 i (w1.length + j) (a, e) (a, e') (by rw [List.getElem?_append_left hlt]; exact hi) (by rw [List.getElem?_append_right (Nat.le_add_right _ _), Nat.add_sub_cancel_left]; exact hj) rfl
  omega
theorem aW_inL {A : Nat → Prop} {w1 w2 : va_W} (h : va_D A (w1 ++ w2)) : ∀ a, aW w1 a → A a := by
  rintro a ⟨i, e, hi⟩
  exact h.2 i (a, e) (by rw [List.getElem?_append_left (List.getElem?_eq_some_iff.mp hi).1]; exact hi)
theorem aW_inR {A : Nat → Prop} {w1 w2 : va_W} (h : va_D A (w1 ++ w2)) : ∀ a, aW w2 a → A a := by
  rintro a ⟨i, e, hi⟩
  exact h.2 (w1.length + i) (a, e) (by rw [List.getElem?_append_right (Nat.le_add_right _ _), Nat.add_sub_cancel_left]; exact hi)
section CALLS
variable {p : Program} {l : Launch} {e : Env} {R : Room} {s : State} {m : MethodId} {args : Array Value} {below : List Frame} {meth : Method} {c : Code} {H : Heap} {locs : List Loc} {cells slots : Nat} {Q : State → Prop}
variable {pc : Nat} {ls : Array Slot} {rest st0 : List Value} {a : Array Value} {A0 B : Nat → Prop} {H0 : Heap}
theorem l_wi {Pq : Int32 → State → Prop} (hr : va_Run p l e R s m args below meth c H locs cells slots 0 0 (F0 m pc ls st0) rest (qWi Pq B a) B) (hS : va_S A0 H0 H locs) (hB : ∀ q, B q → A0 q)
    (kk : ∀ (r : Int32) (t : State) (H1 : Heap) (locs1 : List Loc), t.heap = H1 → Pq r t → (∀ q : Nat, q < H.size → ¬ B q → H1[q]? = H[q]?) → va_S A0 H0 H1 locs1 → W p l e R s m args below meth c H1 locs1 cells slots Q (F0 m (pc + 3) ls (.int r :: rest))) : W p l e R s m args below meth c H locs cells slots Q (F0 m pc ls st0) := by
  intro T hT X
  obtain ⟨v, st₀, t, T', L, h0, X', hL, e1, e2, ⟨⟨r, hv, hp⟩, hf⟩, st⟩ := hr T hT X
  cases hv
  have hf' : va_F A0 st₀ t := ⟨hf.1, fun q h1 h2 => hf.2 q h1 (fun h => h2 (hB q h))⟩
  obtain ⟨t2, a1, b1⟩ := kk r t T'.heap (locs ++ L) e1.symm hp (fun q h1 h2 => by rw [e1, hf.2 q (by rw [h0]; exact h1) h2, h0]) (wr_S hS h0 (fun q h => hB _ (hL q h)) hf' e1) T' rfl X'
  exact ⟨t2, st t2 a1, b1⟩
theorem l_wl {Pq : Int64 → State → Prop} (hr : va_Run p l e R s m args below meth c H locs cells slots 0 0 (F0 m pc ls st0) rest (qWl Pq B a) B) (hS : va_S A0 H0 H locs) (hB : ∀ q, B q → A0 q)
    (kk : ∀ (r : Int64) (t : State) (H1 : Heap) (locs1 : List Loc), t.heap = H1 → Pq r t → (∀ q : Nat, q < H.size → ¬ B q → H1[q]? = H[q]?) → va_S A0 H0 H1 locs1 → W p l e R s m args below meth c H1 locs1 cells slots Q (F0 m (pc + 3) ls (.long r :: rest))) : W p l e R s m args below meth c H locs cells slots Q (F0 m pc ls st0) := by
  intro T hT X
  obtain ⟨v, st₀, t, T', L, h0, X', hL, e1, e2, ⟨⟨r, hv, hp⟩, hf⟩, st⟩ := hr T hT X
  cases hv
  have hf' : va_F A0 st₀ t := ⟨hf.1, fun q h1 h2 => hf.2 q h1 (fun h => h2 (hB q h))⟩
  obtain ⟨t2, a1, b1⟩ := kk r t T'.heap (locs ++ L) e1.symm hp (fun q h1 h2 => by rw [e1, hf.2 q (by rw [h0]; exact h1) h2, h0]) (wr_S hS h0 (fun q h => hB _ (hL q h)) hf' e1) T' rfl X'
  exact ⟨t2, st t2 a1, b1⟩
end CALLS
section CASES
variable {p : Program} {l : Launch} {e : Env} {s : State} {m : MethodId} {below : List Frame} {meth : Method} {c : Code} {Q : State → Prop} {b L : Nat} {xs : Nat → Int32} {D : va_G} {qC qM : Nat → Nat} {cC cM : Nat → ClassId} {AC AM : Nat → Prop} {i : Nat} {ls : Array Slot} {z : AS} {H : Heap} {locs : List Loc}
set_option maxHeartbeats 4000000 in
set_option maxRecDepth 100000 in
theorem law_0 (C0 : lw_At p s m meth c b L xs) (hN : nwC s) (hKC : va_K D vwCl (tyC cC) s) (hKM : va_K D vwCl (tyM cM) s) (hdis : ∀ a, AC a → ¬ AM a) (hAC : ∀ a, AC a → s.heap.size ≤ a) (hAM : ∀ a, AM a → s.heap.size ≤ a) (hi : i + 4 ≤ L) (hL : L ≤ 2048) (hl : lv_has ls 4 [(3, .int (nI i)), (2, .ref (qM 0)), (1, .ref (qC 0)), (0, .ref b)]) (kk : ∀ (z : AS) (H : Heap) (locs : List Loc), iC D qC cC AC z H → iM D qM cM AM z H → va_S (fun a : Nat => s.heap.size ≤ a) s.heap H locs → W p l e room_1 s m #[Value.ref b] below meth c H locs 57 18427 Q (F0 m 618 ls [])) (hC : iC D qC cC AC z H) (hM : iM D qM cM AM z H) (hS : va_S (fun a : Nat => s.heap.size ≤ a) s.heap H locs) : W p l e room_1 s m #[Value.ref b] below meth c H locs 57 18427 Q (F0 m 128 ls []) := by
  obtain ⟨hx, hb, hr, hml, hown, hts0, hX, hbl, hlocks, hgv⟩ := C0
  have hts : ∀ w ∈ wsL_law, w.before #[Value.ref b] s = true := fun w h => hts0 w (wsL_law_in w h)
  have hbA : ¬ (fun a : Nat => s.heap.size ≤ a) b := Nat.not_le.mpr hbl
  refine lv_aload_n hx hb dL_law_128 rfl (lv_at hl 2 rfl) ?_
  refine lv_aload_n hx hb dL_law_129 rfl (lv_at hl 3 rfl) ?_
  refine lv_iload_n hx hb dL_law_130 rfl (lv_at hl 0 rfl) ?_
  refine lv_iconst (v := (1 : Int32)) hx hb dL_law_131 (by decide) ?_
  refine lv_iadd hx hb dL_law_132 ?_
  rw [show nI i + (1 : Int32) = nI (i + 1) from by rw [show (1 : Int32) = nI 1 from rfl, nI_add]]
  refine va_sld hx hb hX hbl hbA hS (pk_in (i + 1) L (by omega)) dL_law_133 ?_
  obtain ⟨Fc_unkept, Fc_tablesRead, Pg_letters, Pg_size, Pg_fault, Pg_rows, Pg_inRow, Pg_width, Fl_entries, Fl_states, Fl_columns, Fl_moves, Fl_stables, Fl_amiss, Fl_normal, Pt_lessers, Pt_greaters, Pt_size, Lc_signals, Lc_kept, Lc_keptFrom, Lc_candidates, Lc_size, Sc_signals, Sc_codes, Sc_size, Ai_codes, Ai_bits, Cu_seen, Cu_inThrees, Cu_all, Lo_asked, Lo_ones, Lo_sum, Lo_wideSize, Lo_sumSize, Lo_flickers, Lo_ready, Wa_at, Wa_turns, Wa_changes, hJ, hP, hD⟩ := id hC
  refine l_wi (va_runV (As := [.int (xs (nI (i + 1)).toNatClampNeg)]) (rest := []) ⟨hx, hb, hml, hown, hts⟩ (c_X9_letter l (n_letter hJ)) (kwV 1 hts (inr6 _ (List.mem_of_getElem? (i := 10) rfl)) (inr6 _ (List.mem_of_getElem? (i := 7) rfl)) (inr6 _ (List.mem_of_getElem? (i := 8) rfl)) (inr6 _ (List.mem_of_getElem? (i := 9) rfl)) (inr1 _ (List.mem_of_getElem? (i := 2) rfl)) (by decide +kernel) rfl rfl ⟨Nat.le_of_ble_eq_true rfl, Nat.le_of_ble_eq_true rfl⟩) (preX9w hKC hN hP hD) rfl rfl hl.1 rfl (lv_room (Nat.le_of_ble_eq_true rfl)) dL_law_134 ⟨Nat.le_of_ble_eq_true rfl, Nat.le_of_ble_eq_true rfl⟩) hS hAC (fun rC t H1 locs1 ht hw hk hS => ?_)
  obtain ⟨Pg_letters_, Pg_size_, hw, hP⟩ := hw
  rw [ht] at hP
  obtain ⟨zC, hRC, hw⟩ := hw
  have hM : iM D qM cM AM z H1 := hM.stay (B := AC) hdis hk
  have hC : iC D qC cC AC zC H1 := ⟨Fc_unkept, Fc_tablesRead, Pg_letters_, Pg_size_, Pg_fault, Pg_rows, Pg_inRow, Pg_width, Fl_entries, Fl_states, Fl_columns, Fl_moves, Fl_stables, Fl_amiss, Fl_normal, Pt_lessers, Pt_greaters, Pt_size, Lc_signals, Lc_kept, Lc_keptFrom, Lc_candidates, Lc_size, Sc_signals, Sc_codes, Sc_size, Ai_codes, Ai_bits, Cu_seen, Cu_inThrees, Cu_all, Lo_asked, Lo_ones, Lo_sum, Lo_wideSize, Lo_sumSize, Lo_flickers, Lo_ready, Wa_at, Wa_turns, Wa_changes, hw, hP, dC hD⟩
  generalize H1 = H at hC hM hS ⊢
  generalize locs1 = locs at hS ⊢
  refine lv_pop hx hb dL_law_137 rfl ?_
  refine lv_aload_n hx hb dL_law_138 rfl (lv_at hl 1 rfl) ?_
  refine lv_aload_n hx hb dL_law_139 rfl (lv_at hl 3 rfl) ?_
  refine lv_iload_n hx hb dL_law_140 rfl (lv_at hl 0 rfl) ?_
  refine lv_iconst (v := (1 : Int32)) hx hb dL_law_141 (by decide) ?_
  refine lv_iadd hx hb dL_law_142 ?_
  rw [show nI i + (1 : Int32) = nI (i + 1) from by rw [show (1 : Int32) = nI 1 from rfl, nI_add]]
  refine va_sld hx hb hX hbl hbA hS (pk_in (i + 1) L (by omega)) dL_law_143 ?_
  obtain ⟨i_pageLength, a_page, i_states, i_columns, a_entries, i_signals, a_signalAt, i_walksAt, i_turned, i_changed, i_read, i_newRows, i_newEntries, i_newColumns, i_greatest, a_newAt, i_partings, a_lowSet, a_highSet, i_leastMany, a_leastAt, a_tried, a_keptLow, a_keptHigh, i_laid, a_wants, i_wide, a_wideAsked, a_wideOnes, i_sum, i_flickers, a_sumAt, j_h, hJ, hP, hD⟩ := id hM
  refine l_wi (va_runV (As := [.int (xs (nI (i + 1)).toNatClampNeg)]) (rest := []) ⟨hx, hb, hml, hown, hts⟩ (c_X10_letter l (m_letter hJ)) (kwV 1 hts (inr6 _ (List.mem_of_getElem? (i := 19) rfl)) (inr6 _ (List.mem_of_getElem? (i := 16) rfl)) (inr6 _ (List.mem_of_getElem? (i := 17) rfl)) (inr6 _ (List.mem_of_getElem? (i := 18) rfl)) (inr1 _ (List.mem_of_getElem? (i := 5) rfl)) (by decide +kernel) rfl rfl ⟨Nat.le_of_ble_eq_true rfl, Nat.le_of_ble_eq_true rfl⟩) (preMw hKM hP hD) rfl rfl hl.1 rfl (lv_room (Nat.le_of_ble_eq_true rfl)) dL_law_144 ⟨Nat.le_of_ble_eq_true rfl, Nat.le_of_ble_eq_true rfl⟩) hS hAM (fun rM t H1 locs1 ht hw hk hS => ?_)
  obtain ⟨i_pageLength_, a_page_, hw, hP⟩ := hw
  rw [ht] at hP
  obtain ⟨zM, hRM, hw⟩ := hw
  have hC : iC D qC cC AC zC H1 := hC.stay (B := AM) (fun a h1 h2 => hdis a h2 h1) hk
  have hM : iM D qM cM AM zM H1 := ⟨i_pageLength_, a_page_, i_states, i_columns, a_entries, i_signals, a_signalAt, i_walksAt, i_turned, i_changed, i_read, i_newRows, i_newEntries, i_newColumns, i_greatest, a_newAt, i_partings, a_lowSet, a_highSet, i_leastMany, a_leastAt, a_tried, a_keptLow, a_keptHigh, i_laid, a_wants, i_wide, a_wideAsked, a_wideOnes, i_sum, i_flickers, a_sumAt, j_h, hw, hP, dM hD⟩
  obtain ⟨eA, eZ⟩ := LETR_eq hRC hRM
  rw [← eZ] at hM
  generalize H1 = H at hM hC hS ⊢
  generalize locs1 = locs at hS ⊢
  refine lv_pop hx hb dL_law_147 rfl ?_
  refine lv_goto (tgt := 618) hx hb dL_law_148 (by decide) ?_
  exact kk _ _ _ hC hM hS
set_option maxHeartbeats 4000000 in
set_option maxRecDepth 100000 in
theorem law_1 (C0 : lw_At p s m meth c b L xs) (hN : nwC s) (hKC : va_K D vwCl (tyC cC) s) (hKM : va_K D vwCl (tyM cM) s) (hdis : ∀ a, AC a → ¬ AM a) (hAC : ∀ a, AC a → s.heap.size ≤ a) (hAM : ∀ a, AM a → s.heap.size ≤ a) (hi : i + 4 ≤ L) (hL : L ≤ 2048) (hl : lv_has ls 4 [(3, .int (nI i)), (2, .ref (qM 0)), (1, .ref (qC 0)), (0, .ref b)]) (kk : ∀ (z : AS) (H : Heap) (locs : List Loc), iC D qC cC AC z H → iM D qM cM AM z H → va_S (fun a : Nat => s.heap.size ≤ a) s.heap H locs → W p l e room_1 s m #[Value.ref b] below meth c H locs 57 18427 Q (F0 m 618 ls [])) (hC : iC D qC cC AC z H) (hM : iM D qM cM AM z H) (hS : va_S (fun a : Nat => s.heap.size ≤ a) s.heap H locs) : W p l e room_1 s m #[Value.ref b] below meth c H locs 57 18427 Q (F0 m 151 ls []) := by
  obtain ⟨hx, hb, hr, hml, hown, hts0, hX, hbl, hlocks, hgv⟩ := C0
  have hts : ∀ w ∈ wsL_law, w.before #[Value.ref b] s = true := fun w h => hts0 w (wsL_law_in w h)
  have hbA : ¬ (fun a : Nat => s.heap.size ≤ a) b := Nat.not_le.mpr hbl
  refine lv_aload_n hx hb dL_law_151 rfl (lv_at hl 2 rfl) ?_
  obtain ⟨Fc_unkept, Fc_tablesRead, Pg_letters, Pg_size, Pg_fault, Pg_rows, Pg_inRow, Pg_width, Fl_entries, Fl_states, Fl_columns, Fl_moves, Fl_stables, Fl_amiss, Fl_normal, Pt_lessers, Pt_greaters, Pt_size, Lc_signals, Lc_kept, Lc_keptFrom, Lc_candidates, Lc_size, Sc_signals, Sc_codes, Sc_size, Ai_codes, Ai_bits, Cu_seen, Cu_inThrees, Cu_all, Lo_asked, Lo_ones, Lo_sum, Lo_wideSize, Lo_sumSize, Lo_flickers, Lo_ready, Wa_at, Wa_turns, Wa_changes, hJ, hP, hD⟩ := id hC
  refine l_wi (va_runV (As := []) (rest := []) ⟨hx, hb, hml, hown, hts⟩ (c_X9_blank l (n_blank hJ)) (kwV 0 hts (inr7 _ (List.mem_of_getElem? (i := 3) rfl)) (inr7 _ (List.mem_of_getElem? (i := 0) rfl)) (inr7 _ (List.mem_of_getElem? (i := 1) rfl)) (inr7 _ (List.mem_of_getElem? (i := 2) rfl)) (inr1 _ (List.mem_of_getElem? (i := 2) rfl)) (by decide +kernel) rfl rfl ⟨Nat.le_of_ble_eq_true rfl, Nat.le_of_ble_eq_true rfl⟩) (preX9w hKC hN hP hD) rfl rfl hl.1 rfl (lv_room (Nat.le_of_ble_eq_true rfl)) dL_law_152 ⟨Nat.le_of_ble_eq_true rfl, Nat.le_of_ble_eq_true rfl⟩) hS hAC (fun rC t H1 locs1 ht hw hk hS => ?_)
  obtain ⟨Pg_size_, hw, hP⟩ := hw
  rw [ht] at hP
  obtain ⟨hwC, hw⟩ := hw
  have hM : iM D qM cM AM z H1 := hM.stay (B := AC) hdis hk
  have hC : iC D qC cC AC (z.1, 0, z.2.2) H1 := ⟨Fc_unkept, Fc_tablesRead, Pg_letters, Pg_size_, Pg_fault, Pg_rows, Pg_inRow, Pg_width, Fl_entries, Fl_states, Fl_columns, Fl_moves, Fl_stables, Fl_amiss, Fl_normal, Pt_lessers, Pt_greaters, Pt_size, Lc_signals, Lc_kept, Lc_keptFrom, Lc_candidates, Lc_size, Sc_signals, Sc_codes, Sc_size, Ai_codes, Ai_bits, Cu_seen, Cu_inThrees, Cu_all, Lo_asked, Lo_ones, Lo_sum, Lo_wideSize, Lo_sumSize, Lo_flickers, Lo_ready, Wa_at, Wa_turns, Wa_changes, hw, hP, dC hD⟩
  generalize H1 = H at hC hM hS ⊢
  generalize locs1 = locs at hS ⊢
  refine lv_pop hx hb dL_law_155 rfl ?_
  refine lv_aload_n hx hb dL_law_156 rfl (lv_at hl 1 rfl) ?_
  obtain ⟨i_pageLength, a_page, i_states, i_columns, a_entries, i_signals, a_signalAt, i_walksAt, i_turned, i_changed, i_read, i_newRows, i_newEntries, i_newColumns, i_greatest, a_newAt, i_partings, a_lowSet, a_highSet, i_leastMany, a_leastAt, a_tried, a_keptLow, a_keptHigh, i_laid, a_wants, i_wide, a_wideAsked, a_wideOnes, i_sum, i_flickers, a_sumAt, j_h, hJ, hP, hD⟩ := id hM
  refine l_wi (va_runV (As := []) (rest := []) ⟨hx, hb, hml, hown, hts⟩ (c_X10_blank l (m_blank hJ)) (kwV 0 hts (inr7 _ (List.mem_of_getElem? (i := 7) rfl)) (inr7 _ (List.mem_of_getElem? (i := 4) rfl)) (inr7 _ (List.mem_of_getElem? (i := 5) rfl)) (inr7 _ (List.mem_of_getElem? (i := 6) rfl)) (inr1 _ (List.mem_of_getElem? (i := 5) rfl)) (by decide +kernel) rfl rfl ⟨Nat.le_of_ble_eq_true rfl, Nat.le_of_ble_eq_true rfl⟩) (preMw hKM hP hD) rfl rfl hl.1 rfl (lv_room (Nat.le_of_ble_eq_true rfl)) dL_law_157 ⟨Nat.le_of_ble_eq_true rfl, Nat.le_of_ble_eq_true rfl⟩) hS hAM (fun rM t H1 locs1 ht hw hk hS => ?_)
  obtain ⟨i_pageLength_, hw, hP⟩ := hw
  rw [ht] at hP
  obtain ⟨hwM, hw⟩ := hw
  have hC : iC D qC cC AC (z.1, 0, z.2.2) H1 := hC.stay (B := AM) (fun a h1 h2 => hdis a h2 h1) hk
  have hM : iM D qM cM AM (z.1, 0, z.2.2) H1 := ⟨i_pageLength_, a_page, i_states, i_columns, a_entries, i_signals, a_signalAt, i_walksAt, i_turned, i_changed, i_read, i_newRows, i_newEntries, i_newColumns, i_greatest, a_newAt, i_partings, a_lowSet, a_highSet, i_leastMany, a_leastAt, a_tried, a_keptLow, a_keptHigh, i_laid, a_wants, i_wide, a_wideAsked, a_wideOnes, i_sum, i_flickers, a_sumAt, j_h, hw, hP, dM hD⟩
  generalize H1 = H at hM hC hS ⊢
  generalize locs1 = locs at hS ⊢
  refine lv_pop hx hb dL_law_160 rfl ?_
  refine lv_goto (tgt := 618) hx hb dL_law_161 (by decide) ?_
  exact kk _ _ _ hC hM hS
set_option maxHeartbeats 4000000 in
set_option maxRecDepth 100000 in
theorem law_2 (C0 : lw_At p s m meth c b L xs) (hN : nwC s) (hKC : va_K D vwCl (tyC cC) s) (hKM : va_K D vwCl (tyM cM) s) (hdis : ∀ a, AC a → ¬ AM a) (hAC : ∀ a, AC a → s.heap.size ≤ a) (hAM : ∀ a, AM a → s.heap.size ≤ a) (hi : i + 4 ≤ L) (hL : L ≤ 2048) (hl : lv_has ls 4 [(3, .int (nI i)), (2, .ref (qM 0)), (1, .ref (qC 0)), (0, .ref b)]) (kk : ∀ (z : AS) (H : Heap) (locs : List Loc), iC D qC cC AC z H → iM D qM cM AM z H → va_S (fun a : Nat => s.heap.size ≤ a) s.heap H locs → W p l e room_1 s m #[Value.ref b] below meth c H locs 57 18427 Q (F0 m 618 ls [])) (hC : iC D qC cC AC z H) (hM : iM D qM cM AM z H) (hS : va_S (fun a : Nat => s.heap.size ≤ a) s.heap H locs) : W p l e room_1 s m #[Value.ref b] below meth c H locs 57 18427 Q (F0 m 164 ls []) := by
  obtain ⟨hx, hb, hr, hml, hown, hts0, hX, hbl, hlocks, hgv⟩ := C0
  have hts : ∀ w ∈ wsL_law, w.before #[Value.ref b] s = true := fun w h => hts0 w (wsL_law_in w h)
  have hbA : ¬ (fun a : Nat => s.heap.size ≤ a) b := Nat.not_le.mpr hbl
  refine lv_aload_n hx hb dL_law_164 rfl (lv_at hl 2 rfl) ?_
  obtain ⟨Fc_unkept, Fc_tablesRead, Pg_letters, Pg_size, Pg_fault, Pg_rows, Pg_inRow, Pg_width, Fl_entries, Fl_states, Fl_columns, Fl_moves, Fl_stables, Fl_amiss, Fl_normal, Pt_lessers, Pt_greaters, Pt_size, Lc_signals, Lc_kept, Lc_keptFrom, Lc_candidates, Lc_size, Sc_signals, Sc_codes, Sc_size, Ai_codes, Ai_bits, Cu_seen, Cu_inThrees, Cu_all, Lo_asked, Lo_ones, Lo_sum, Lo_wideSize, Lo_sumSize, Lo_flickers, Lo_ready, Wa_at, Wa_turns, Wa_changes, hJ, hP, hD⟩ := id hC
  refine l_wi (va_runV (As := []) (rest := []) ⟨hx, hb, hml, hown, hts⟩ (c_X9_fault l (n_fault hJ)) (kwV 0 hts (inr7 _ (List.mem_of_getElem? (i := 11) rfl)) (inr7 _ (List.mem_of_getElem? (i := 8) rfl)) (inr7 _ (List.mem_of_getElem? (i := 9) rfl)) (inr7 _ (List.mem_of_getElem? (i := 10) rfl)) (inr1 _ (List.mem_of_getElem? (i := 2) rfl)) (by decide +kernel) rfl rfl ⟨Nat.le_of_ble_eq_true rfl, Nat.le_of_ble_eq_true rfl⟩) (preX9w hKC hN hP hD) rfl rfl hl.1 rfl (lv_room (Nat.le_of_ble_eq_true rfl)) dL_law_165 ⟨Nat.le_of_ble_eq_true rfl, Nat.le_of_ble_eq_true rfl⟩) hS hAC (fun rC t H1 locs1 ht hw hk hS => ?_)
  obtain ⟨Pg_fault_, Pg_rows_, Pg_inRow_, Pg_width_, hw, hP⟩ := hw
  rw [ht] at hP
  obtain ⟨hwC, hw⟩ := hw
  have hM : iM D qM cM AM z H1 := hM.stay (B := AC) hdis hk
  have hC : iC D qC cC AC z H1 := ⟨Fc_unkept, Fc_tablesRead, Pg_letters, Pg_size, Pg_fault_, Pg_rows_, Pg_inRow_, Pg_width_, Fl_entries, Fl_states, Fl_columns, Fl_moves, Fl_stables, Fl_amiss, Fl_normal, Pt_lessers, Pt_greaters, Pt_size, Lc_signals, Lc_kept, Lc_keptFrom, Lc_candidates, Lc_size, Sc_signals, Sc_codes, Sc_size, Ai_codes, Ai_bits, Cu_seen, Cu_inThrees, Cu_all, Lo_asked, Lo_ones, Lo_sum, Lo_wideSize, Lo_sumSize, Lo_flickers, Lo_ready, Wa_at, Wa_turns, Wa_changes, hw, hP, dC hD⟩
  generalize H1 = H at hC hM hS ⊢
  generalize locs1 = locs at hS ⊢
  refine lv_pop hx hb dL_law_168 rfl ?_
  refine lv_aload_n hx hb dL_law_169 rfl (lv_at hl 1 rfl) ?_
  obtain ⟨i_pageLength, a_page, i_states, i_columns, a_entries, i_signals, a_signalAt, i_walksAt, i_turned, i_changed, i_read, i_newRows, i_newEntries, i_newColumns, i_greatest, a_newAt, i_partings, a_lowSet, a_highSet, i_leastMany, a_leastAt, a_tried, a_keptLow, a_keptHigh, i_laid, a_wants, i_wide, a_wideAsked, a_wideOnes, i_sum, i_flickers, a_sumAt, j_h, hJ, hP, hD⟩ := id hM
  refine l_wi (va_runV (As := []) (rest := []) ⟨hx, hb, hml, hown, hts⟩ (c_X10_fault l (m_fault hJ)) (kwV 0 hts (inr8 _ (List.mem_of_getElem? (i := 10) rfl)) (inr8 _ (List.mem_of_getElem? (i := 7) rfl)) (inr8 _ (List.mem_of_getElem? (i := 8) rfl)) (inr8 _ (List.mem_of_getElem? (i := 9) rfl)) (inr1 _ (List.mem_of_getElem? (i := 5) rfl)) (by decide +kernel) rfl rfl ⟨Nat.le_of_ble_eq_true rfl, Nat.le_of_ble_eq_true rfl⟩) (preMw hKM hP hD) rfl rfl hl.1 rfl (lv_room (Nat.le_of_ble_eq_true rfl)) dL_law_170 ⟨Nat.le_of_ble_eq_true rfl, Nat.le_of_ble_eq_true rfl⟩) hS hAM (fun rM t H1 locs1 ht hw hk hS => ?_)
  obtain ⟨i_newRows_, i_newEntries_, i_newColumns_, i_greatest_, a_newAt_, hw, hP⟩ := hw
  rw [ht] at hP
  obtain ⟨hwM, hw⟩ := hw
  have hC : iC D qC cC AC z H1 := hC.stay (B := AM) (fun a h1 h2 => hdis a h2 h1) hk
  have hM : iM D qM cM AM z H1 := ⟨i_pageLength, a_page, i_states, i_columns, a_entries, i_signals, a_signalAt, i_walksAt, i_turned, i_changed, i_read, i_newRows_, i_newEntries_, i_newColumns_, i_greatest_, a_newAt_, i_partings, a_lowSet, a_highSet, i_leastMany, a_leastAt, a_tried, a_keptLow, a_keptHigh, i_laid, a_wants, i_wide, a_wideAsked, a_wideOnes, i_sum, i_flickers, a_sumAt, j_h, hw, hP, dM hD⟩
  generalize H1 = H at hM hC hS ⊢
  generalize locs1 = locs at hS ⊢
  refine lv_pop hx hb dL_law_173 rfl ?_
  refine lv_goto (tgt := 618) hx hb dL_law_174 (by decide) ?_
  exact kk _ _ _ hC hM hS
set_option maxHeartbeats 4000000 in
set_option maxRecDepth 100000 in
theorem law_3 (C0 : lw_At p s m meth c b L xs) (hN : nwC s) (hKC : va_K D vwCl (tyC cC) s) (hKM : va_K D vwCl (tyM cM) s) (hdis : ∀ a, AC a → ¬ AM a) (hAC : ∀ a, AC a → s.heap.size ≤ a) (hAM : ∀ a, AM a → s.heap.size ≤ a) (hi : i + 4 ≤ L) (hL : L ≤ 2048) (hl : lv_has ls 4 [(3, .int (nI i)), (2, .ref (qM 0)), (1, .ref (qC 0)), (0, .ref b)]) (kk : ∀ (z : AS) (H : Heap) (locs : List Loc), iC D qC cC AC z H → iM D qM cM AM z H → va_S (fun a : Nat => s.heap.size ≤ a) s.heap H locs → W p l e room_1 s m #[Value.ref b] below meth c H locs 57 18427 Q (F0 m 618 ls [])) (hC : iC D qC cC AC z H) (hM : iM D qM cM AM z H) (hS : va_S (fun a : Nat => s.heap.size ≤ a) s.heap H locs) : W p l e room_1 s m #[Value.ref b] below meth c H locs 57 18427 Q (F0 m 177 ls []) := by
  obtain ⟨hx, hb, hr, hml, hown, hts0, hX, hbl, hlocks, hgv⟩ := C0
  have hts : ∀ w ∈ wsL_law, w.before #[Value.ref b] s = true := fun w h => hts0 w (wsL_law_in w h)
  have hbA : ¬ (fun a : Nat => s.heap.size ≤ a) b := Nat.not_le.mpr hbl
  refine lv_aload_n hx hb dL_law_177 rfl (lv_at hl 2 rfl) ?_
  obtain ⟨Fc_unkept, Fc_tablesRead, Pg_letters, Pg_size, Pg_fault, Pg_rows, Pg_inRow, Pg_width, Fl_entries, Fl_states, Fl_columns, Fl_moves, Fl_stables, Fl_amiss, Fl_normal, Pt_lessers, Pt_greaters, Pt_size, Lc_signals, Lc_kept, Lc_keptFrom, Lc_candidates, Lc_size, Sc_signals, Sc_codes, Sc_size, Ai_codes, Ai_bits, Cu_seen, Cu_inThrees, Cu_all, Lo_asked, Lo_ones, Lo_sum, Lo_wideSize, Lo_sumSize, Lo_flickers, Lo_ready, Wa_at, Wa_turns, Wa_changes, hJ, hP, hD⟩ := id hC
  refine l_wi (va_runV (As := []) (rest := []) ⟨hx, hb, hml, hown, hts⟩ (c_X9_table l (n_table hJ)) (kwV 0 hts (inr9 _ (List.mem_of_getElem? (i := 2) rfl)) (inr8 _ (List.mem_of_getElem? (i := 23) rfl)) (inr9 _ (List.mem_of_getElem? (i := 0) rfl)) (inr9 _ (List.mem_of_getElem? (i := 1) rfl)) (inr1 _ (List.mem_of_getElem? (i := 2) rfl)) (by decide +kernel) rfl rfl ⟨Nat.le_of_ble_eq_true rfl, Nat.le_of_ble_eq_true rfl⟩) (preX9w hKC hN hP hD) rfl rfl hl.1 rfl (lv_room (Nat.le_of_ble_eq_true rfl)) dL_law_178 ⟨Nat.le_of_ble_eq_true rfl, Nat.le_of_ble_eq_true rfl⟩) hS hAC (fun rC t H1 locs1 ht hw hk hS => ?_)
  obtain ⟨Fc_unkept_, Fc_tablesRead_, Pg_size_, Pg_fault_, Pg_rows_, Pg_inRow_, Pg_width_, Fl_entries_, Fl_states_, Fl_columns_, Fl_moves_, Fl_stables_, Fl_amiss_, Fl_normal_, Pt_lessers_, Pt_greaters_, Pt_size_, Lc_signals_, Lc_kept_, Lc_keptFrom_, Lc_candidates_, Lc_size_, Sc_signals_, Sc_codes_, Sc_size_, Ai_codes_, Ai_bits_, Lo_ready_, Wa_at_, Wa_turns_, Wa_changes_, hw, hP⟩ := hw
  rw [ht] at hP
  obtain ⟨zC, hRC, hw⟩ := hw
  have hM : iM D qM cM AM z H1 := hM.stay (B := AC) hdis hk
  have hC : iC D qC cC AC zC H1 := ⟨Fc_unkept_, Fc_tablesRead_, Pg_letters, Pg_size_, Pg_fault_, Pg_rows_, Pg_inRow_, Pg_width_, Fl_entries_, Fl_states_, Fl_columns_, Fl_moves_, Fl_stables_, Fl_amiss_, Fl_normal_, Pt_lessers_, Pt_greaters_, Pt_size_, Lc_signals_, Lc_kept_, Lc_keptFrom_, Lc_candidates_, Lc_size_, Sc_signals_, Sc_codes_, Sc_size_, Ai_codes_, Ai_bits_, Cu_seen, Cu_inThrees, Cu_all, Lo_asked, Lo_ones, Lo_sum, Lo_wideSize, Lo_sumSize, Lo_flickers, Lo_ready_, Wa_at_, Wa_turns_, Wa_changes_, hw, hP, dC hD⟩
  generalize H1 = H at hC hM hS ⊢
  generalize locs1 = locs at hS ⊢
  refine lv_pop hx hb dL_law_181 rfl ?_
  refine lv_aload_n hx hb dL_law_182 rfl (lv_at hl 1 rfl) ?_
  obtain ⟨i_pageLength, a_page, i_states, i_columns, a_entries, i_signals, a_signalAt, i_walksAt, i_turned, i_changed, i_read, i_newRows, i_newEntries, i_newColumns, i_greatest, a_newAt, i_partings, a_lowSet, a_highSet, i_leastMany, a_leastAt, a_tried, a_keptLow, a_keptHigh, i_laid, a_wants, i_wide, a_wideAsked, a_wideOnes, i_sum, i_flickers, a_sumAt, j_h, hJ, hP, hD⟩ := id hM
  refine l_wi (va_runV (As := []) (rest := []) ⟨hx, hb, hml, hown, hts⟩ (c_X10_table l (m_table hJ)) (kwV 0 hts (inr16 _ (List.mem_of_getElem? (i := 1) rfl)) (inr15 _ (List.mem_of_getElem? (i := 22) rfl)) (inr15 _ (List.mem_of_getElem? (i := 23) rfl)) (inr16 _ (List.mem_of_getElem? (i := 0) rfl)) (inr1 _ (List.mem_of_getElem? (i := 5) rfl)) (by decide +kernel) rfl rfl ⟨Nat.le_of_ble_eq_true rfl, Nat.le_of_ble_eq_true rfl⟩) (preMw hKM hP hD) rfl rfl hl.1 rfl (lv_room (Nat.le_of_ble_eq_true rfl)) dL_law_183 ⟨Nat.le_of_ble_eq_true rfl, Nat.le_of_ble_eq_true rfl⟩) hS hAM (fun rM t H1 locs1 ht hw hk hS => ?_)
  obtain ⟨i_pageLength_, i_states_, i_columns_, a_entries_, i_signals_, a_signalAt_, i_walksAt_, i_turned_, i_changed_, i_read_, i_newRows_, i_newEntries_, i_newColumns_, i_greatest_, a_newAt_, i_partings_, a_lowSet_, a_highSet_, i_leastMany_, a_leastAt_, a_tried_, a_keptLow_, a_keptHigh_, i_laid_, hw, hP⟩ := hw
  rw [ht] at hP
  obtain ⟨zM, hRM, hw⟩ := hw
  have hC : iC D qC cC AC zC H1 := hC.stay (B := AM) (fun a h1 h2 => hdis a h2 h1) hk
  have hM : iM D qM cM AM zM H1 := ⟨i_pageLength_, a_page, i_states_, i_columns_, a_entries_, i_signals_, a_signalAt_, i_walksAt_, i_turned_, i_changed_, i_read_, i_newRows_, i_newEntries_, i_newColumns_, i_greatest_, a_newAt_, i_partings_, a_lowSet_, a_highSet_, i_leastMany_, a_leastAt_, a_tried_, a_keptLow_, a_keptHigh_, i_laid_, a_wants, i_wide, a_wideAsked, a_wideOnes, i_sum, i_flickers, a_sumAt, j_h, hw, hP, dM hD⟩
  obtain ⟨eA, eZ⟩ := TABR_eq hRC hRM
  rw [← eZ] at hM
  generalize H1 = H at hM hC hS ⊢
  generalize locs1 = locs at hS ⊢
  refine lv_pop hx hb dL_law_186 rfl ?_
  refine lv_goto (tgt := 618) hx hb dL_law_187 (by decide) ?_
  exact kk _ _ _ hC hM hS
set_option maxHeartbeats 4000000 in
set_option maxRecDepth 100000 in
theorem law_4 (C0 : lw_At p s m meth c b L xs) (hN : nwC s) (hKC : va_K D vwCl (tyC cC) s) (hKM : va_K D vwCl (tyM cM) s) (hdis : ∀ a, AC a → ¬ AM a) (hAC : ∀ a, AC a → s.heap.size ≤ a) (hAM : ∀ a, AM a → s.heap.size ≤ a) (hi : i + 4 ≤ L) (hL : L ≤ 2048) (hl : lv_has ls 4 [(3, .int (nI i)), (2, .ref (qM 0)), (1, .ref (qC 0)), (0, .ref b)]) (kk : ∀ (z : AS) (H : Heap) (locs : List Loc), iC D qC cC AC z H → iM D qM cM AM z H → va_S (fun a : Nat => s.heap.size ≤ a) s.heap H locs → W p l e room_1 s m #[Value.ref b] below meth c H locs 57 18427 Q (F0 m 618 ls [])) (hC : iC D qC cC AC z H) (hM : iM D qM cM AM z H) (hS : va_S (fun a : Nat => s.heap.size ≤ a) s.heap H locs) : W p l e room_1 s m #[Value.ref b] below meth c H locs 57 18427 Q (F0 m 190 ls []) := by
  obtain ⟨hx, hb, hr, hml, hown, hts0, hX, hbl, hlocks, hgv⟩ := C0
  have hts : ∀ w ∈ wsL_law, w.before #[Value.ref b] s = true := fun w h => hts0 w (wsL_law_in w h)
  have hbA : ¬ (fun a : Nat => s.heap.size ≤ a) b := Nat.not_le.mpr hbl
  refine lv_aload_n hx hb dL_law_190 rfl (lv_at hl 2 rfl) ?_
  refine lv_aload_n hx hb dL_law_191 rfl (lv_at hl 3 rfl) ?_
  refine lv_iload_n hx hb dL_law_192 rfl (lv_at hl 0 rfl) ?_
  refine lv_iconst (v := (1 : Int32)) hx hb dL_law_193 (by decide) ?_
  refine lv_iadd hx hb dL_law_194 ?_
  rw [show nI i + (1 : Int32) = nI (i + 1) from by rw [show (1 : Int32) = nI 1 from rfl, nI_add]]
  refine va_sld hx hb hX hbl hbA hS (pk_in (i + 1) L (by omega)) dL_law_195 ?_
  refine lv_aload_n hx hb dL_law_196 rfl (lv_at hl 3 rfl) ?_
  refine lv_iload_n hx hb dL_law_197 rfl (lv_at hl 0 rfl) ?_
  refine lv_iconst (v := (2 : Int32)) hx hb dL_law_198 (by decide) ?_
  refine lv_iadd hx hb dL_law_199 ?_
  rw [show nI i + (2 : Int32) = nI (i + 2) from by rw [show (2 : Int32) = nI 2 from rfl, nI_add]]
  refine va_sld hx hb hX hbl hbA hS (pk_in (i + 2) L (by omega)) dL_law_200 ?_
  obtain ⟨Fc_unkept, Fc_tablesRead, Pg_letters, Pg_size, Pg_fault, Pg_rows, Pg_inRow, Pg_width, Fl_entries, Fl_states, Fl_columns, Fl_moves, Fl_stables, Fl_amiss, Fl_normal, Pt_lessers, Pt_greaters, Pt_size, Lc_signals, Lc_kept, Lc_keptFrom, Lc_candidates, Lc_size, Sc_signals, Sc_codes, Sc_size, Ai_codes, Ai_bits, Cu_seen, Cu_inThrees, Cu_all, Lo_asked, Lo_ones, Lo_sum, Lo_wideSize, Lo_sumSize, Lo_flickers, Lo_ready, Wa_at, Wa_turns, Wa_changes, hJ, hP, hD⟩ := id hC
  refine ro_i (va_runV (As := [.int (xs (nI (i + 1)).toNatClampNeg), .int (xs (nI (i + 2)).toNatClampNeg)]) (rest := []) ⟨hx, hb, hml, hown, hts⟩ (c_X9_entry l (n_entry hJ)) (kwV 2 hts (inr18 _ (List.mem_of_getElem? (i := 20) rfl)) (inr18 _ (List.mem_of_getElem? (i := 17) rfl)) (inr18 _ (List.mem_of_getElem? (i := 18) rfl)) (inr18 _ (List.mem_of_getElem? (i := 19) rfl)) (inr1 _ (List.mem_of_getElem? (i := 2) rfl)) (by decide +kernel) rfl rfl ⟨Nat.le_of_ble_eq_true rfl, Nat.le_of_ble_eq_true rfl⟩) (preX9 hKC hN hP) rfl rfl hl.1 rfl (lv_room (Nat.le_of_ble_eq_true rfl)) dL_law_201 ⟨Nat.le_of_ble_eq_true rfl, Nat.le_of_ble_eq_true rfl⟩) (fun rC hwC => ?_)
  refine lv_pop hx hb dL_law_204 rfl ?_
  refine lv_aload_n hx hb dL_law_205 rfl (lv_at hl 1 rfl) ?_
  refine lv_aload_n hx hb dL_law_206 rfl (lv_at hl 3 rfl) ?_
  refine lv_iload_n hx hb dL_law_207 rfl (lv_at hl 0 rfl) ?_
  refine lv_iconst (v := (1 : Int32)) hx hb dL_law_208 (by decide) ?_
  refine lv_iadd hx hb dL_law_209 ?_
  rw [show nI i + (1 : Int32) = nI (i + 1) from by rw [show (1 : Int32) = nI 1 from rfl, nI_add]]
  refine va_sld hx hb hX hbl hbA hS (pk_in (i + 1) L (by omega)) dL_law_210 ?_
  refine lv_aload_n hx hb dL_law_211 rfl (lv_at hl 3 rfl) ?_
  refine lv_iload_n hx hb dL_law_212 rfl (lv_at hl 0 rfl) ?_
  refine lv_iconst (v := (2 : Int32)) hx hb dL_law_213 (by decide) ?_
  refine lv_iadd hx hb dL_law_214 ?_
  rw [show nI i + (2 : Int32) = nI (i + 2) from by rw [show (2 : Int32) = nI 2 from rfl, nI_add]]
  refine va_sld hx hb hX hbl hbA hS (pk_in (i + 2) L (by omega)) dL_law_215 ?_
  obtain ⟨i_pageLength, a_page, i_states, i_columns, a_entries, i_signals, a_signalAt, i_walksAt, i_turned, i_changed, i_read, i_newRows, i_newEntries, i_newColumns, i_greatest, a_newAt, i_partings, a_lowSet, a_highSet, i_leastMany, a_leastAt, a_tried, a_keptLow, a_keptHigh, i_laid, a_wants, i_wide, a_wideAsked, a_wideOnes, i_sum, i_flickers, a_sumAt, j_h, hJ, hP, hD⟩ := id hM
  refine ro_i (va_runV (As := [.int (xs (nI (i + 1)).toNatClampNeg), .int (xs (nI (i + 2)).toNatClampNeg)]) (rest := []) ⟨hx, hb, hml, hown, hts⟩ (c_X10_entry l (m_entry hJ)) (kwV 2 hts (inr19 _ (List.mem_of_getElem? (i := 3) rfl)) (inr19 _ (List.mem_of_getElem? (i := 0) rfl)) (inr19 _ (List.mem_of_getElem? (i := 1) rfl)) (inr19 _ (List.mem_of_getElem? (i := 2) rfl)) (inr1 _ (List.mem_of_getElem? (i := 5) rfl)) (by decide +kernel) rfl rfl ⟨Nat.le_of_ble_eq_true rfl, Nat.le_of_ble_eq_true rfl⟩) (preM hKM hP) rfl rfl hl.1 rfl (lv_room (Nat.le_of_ble_eq_true rfl)) dL_law_216 ⟨Nat.le_of_ble_eq_true rfl, Nat.le_of_ble_eq_true rfl⟩) (fun rM hwM => ?_)
  refine lv_pop hx hb dL_law_219 rfl ?_
  refine lv_goto (tgt := 618) hx hb dL_law_220 (by decide) ?_
  exact kk _ _ _ hC hM hS
set_option maxHeartbeats 4000000 in
set_option maxRecDepth 100000 in
theorem law_5 (C0 : lw_At p s m meth c b L xs) (hN : nwC s) (hKC : va_K D vwCl (tyC cC) s) (hKM : va_K D vwCl (tyM cM) s) (hdis : ∀ a, AC a → ¬ AM a) (hAC : ∀ a, AC a → s.heap.size ≤ a) (hAM : ∀ a, AM a → s.heap.size ≤ a) (hi : i + 4 ≤ L) (hL : L ≤ 2048) (hl : lv_has ls 4 [(3, .int (nI i)), (2, .ref (qM 0)), (1, .ref (qC 0)), (0, .ref b)]) (kk : ∀ (z : AS) (H : Heap) (locs : List Loc), iC D qC cC AC z H → iM D qM cM AM z H → va_S (fun a : Nat => s.heap.size ≤ a) s.heap H locs → W p l e room_1 s m #[Value.ref b] below meth c H locs 57 18427 Q (F0 m 618 ls [])) (hC : iC D qC cC AC z H) (hM : iM D qM cM AM z H) (hS : va_S (fun a : Nat => s.heap.size ≤ a) s.heap H locs) : W p l e room_1 s m #[Value.ref b] below meth c H locs 57 18427 Q (F0 m 223 ls []) := by
  obtain ⟨hx, hb, hr, hml, hown, hts0, hX, hbl, hlocks, hgv⟩ := C0
  have hts : ∀ w ∈ wsL_law, w.before #[Value.ref b] s = true := fun w h => hts0 w (wsL_law_in w h)
  have hbA : ¬ (fun a : Nat => s.heap.size ≤ a) b := Nat.not_le.mpr hbl
  refine lv_aload_n hx hb dL_law_223 rfl (lv_at hl 2 rfl) ?_
  refine lv_aload_n hx hb dL_law_224 rfl (lv_at hl 3 rfl) ?_
  refine lv_iload_n hx hb dL_law_225 rfl (lv_at hl 0 rfl) ?_
  refine lv_iconst (v := (1 : Int32)) hx hb dL_law_226 (by decide) ?_
  refine lv_iadd hx hb dL_law_227 ?_
  rw [show nI i + (1 : Int32) = nI (i + 1) from by rw [show (1 : Int32) = nI 1 from rfl, nI_add]]
  refine va_sld hx hb hX hbl hbA hS (pk_in (i + 1) L (by omega)) dL_law_228 ?_
  obtain ⟨Fc_unkept, Fc_tablesRead, Pg_letters, Pg_size, Pg_fault, Pg_rows, Pg_inRow, Pg_width, Fl_entries, Fl_states, Fl_columns, Fl_moves, Fl_stables, Fl_amiss, Fl_normal, Pt_lessers, Pt_greaters, Pt_size, Lc_signals, Lc_kept, Lc_keptFrom, Lc_candidates, Lc_size, Sc_signals, Sc_codes, Sc_size, Ai_codes, Ai_bits, Cu_seen, Cu_inThrees, Cu_all, Lo_asked, Lo_ones, Lo_sum, Lo_wideSize, Lo_sumSize, Lo_flickers, Lo_ready, Wa_at, Wa_turns, Wa_changes, hJ, hP, hD⟩ := id hC
  refine ro_i (va_runV (As := [.int (xs (nI (i + 1)).toNatClampNeg)]) (rest := []) ⟨hx, hb, hml, hown, hts⟩ (c_X9_about l (n_about hJ)) (kwV 1 hts (inr19 _ (List.mem_of_getElem? (i := 11) rfl)) (inr19 _ (List.mem_of_getElem? (i := 8) rfl)) (inr19 _ (List.mem_of_getElem? (i := 9) rfl)) (inr19 _ (List.mem_of_getElem? (i := 10) rfl)) (inr1 _ (List.mem_of_getElem? (i := 2) rfl)) (by decide +kernel) rfl rfl ⟨Nat.le_of_ble_eq_true rfl, Nat.le_of_ble_eq_true rfl⟩) (preX9 hKC hN hP) rfl rfl hl.1 rfl (lv_room (Nat.le_of_ble_eq_true rfl)) dL_law_229 ⟨Nat.le_of_ble_eq_true rfl, Nat.le_of_ble_eq_true rfl⟩) (fun rC hwC => ?_)
  refine lv_pop hx hb dL_law_232 rfl ?_
  refine lv_aload_n hx hb dL_law_233 rfl (lv_at hl 1 rfl) ?_
  refine lv_aload_n hx hb dL_law_234 rfl (lv_at hl 3 rfl) ?_
  refine lv_iload_n hx hb dL_law_235 rfl (lv_at hl 0 rfl) ?_
  refine lv_iconst (v := (1 : Int32)) hx hb dL_law_236 (by decide) ?_
  refine lv_iadd hx hb dL_law_237 ?_
  rw [show nI i + (1 : Int32) = nI (i + 1) from by rw [show (1 : Int32) = nI 1 from rfl, nI_add]]
  refine va_sld hx hb hX hbl hbA hS (pk_in (i + 1) L (by omega)) dL_law_238 ?_
  obtain ⟨i_pageLength, a_page, i_states, i_columns, a_entries, i_signals, a_signalAt, i_walksAt, i_turned, i_changed, i_read, i_newRows, i_newEntries, i_newColumns, i_greatest, a_newAt, i_partings, a_lowSet, a_highSet, i_leastMany, a_leastAt, a_tried, a_keptLow, a_keptHigh, i_laid, a_wants, i_wide, a_wideAsked, a_wideOnes, i_sum, i_flickers, a_sumAt, j_h, hJ, hP, hD⟩ := id hM
  refine ro_i (va_runV (As := [.int (xs (nI (i + 1)).toNatClampNeg)]) (rest := []) ⟨hx, hb, hml, hown, hts⟩ (c_X10_about l (m_about hJ)) (kwV 1 hts (inr19 _ (List.mem_of_getElem? (i := 15) rfl)) (inr19 _ (List.mem_of_getElem? (i := 12) rfl)) (inr19 _ (List.mem_of_getElem? (i := 13) rfl)) (inr19 _ (List.mem_of_getElem? (i := 14) rfl)) (inr1 _ (List.mem_of_getElem? (i := 5) rfl)) (by decide +kernel) rfl rfl ⟨Nat.le_of_ble_eq_true rfl, Nat.le_of_ble_eq_true rfl⟩) (preM hKM hP) rfl rfl hl.1 rfl (lv_room (Nat.le_of_ble_eq_true rfl)) dL_law_239 ⟨Nat.le_of_ble_eq_true rfl, Nat.le_of_ble_eq_true rfl⟩) (fun rM hwM => ?_)
  refine lv_pop hx hb dL_law_242 rfl ?_
  refine lv_goto (tgt := 618) hx hb dL_law_243 (by decide) ?_
  exact kk _ _ _ hC hM hS
set_option maxHeartbeats 4000000 in
set_option maxRecDepth 100000 in
theorem law_6 (C0 : lw_At p s m meth c b L xs) (hN : nwC s) (hKC : va_K D vwCl (tyC cC) s) (hKM : va_K D vwCl (tyM cM) s) (hdis : ∀ a, AC a → ¬ AM a) (hAC : ∀ a, AC a → s.heap.size ≤ a) (hAM : ∀ a, AM a → s.heap.size ≤ a) (hi : i + 4 ≤ L) (hL : L ≤ 2048) (hl : lv_has ls 4 [(3, .int (nI i)), (2, .ref (qM 0)), (1, .ref (qC 0)), (0, .ref b)]) (kk : ∀ (z : AS) (H : Heap) (locs : List Loc), iC D qC cC AC z H → iM D qM cM AM z H → va_S (fun a : Nat => s.heap.size ≤ a) s.heap H locs → W p l e room_1 s m #[Value.ref b] below meth c H locs 57 18427 Q (F0 m 618 ls [])) (hC : iC D qC cC AC z H) (hM : iM D qM cM AM z H) (hS : va_S (fun a : Nat => s.heap.size ≤ a) s.heap H locs) : W p l e room_1 s m #[Value.ref b] below meth c H locs 57 18427 Q (F0 m 246 ls []) := by
  obtain ⟨hx, hb, hr, hml, hown, hts0, hX, hbl, hlocks, hgv⟩ := C0
  have hts : ∀ w ∈ wsL_law, w.before #[Value.ref b] s = true := fun w h => hts0 w (wsL_law_in w h)
  have hbA : ¬ (fun a : Nat => s.heap.size ≤ a) b := Nat.not_le.mpr hbl
  refine lv_aload_n hx hb dL_law_246 rfl (lv_at hl 2 rfl) ?_
  refine lv_aload_n hx hb dL_law_247 rfl (lv_at hl 3 rfl) ?_
  refine lv_iload_n hx hb dL_law_248 rfl (lv_at hl 0 rfl) ?_
  refine lv_iconst (v := (1 : Int32)) hx hb dL_law_249 (by decide) ?_
  refine lv_iadd hx hb dL_law_250 ?_
  rw [show nI i + (1 : Int32) = nI (i + 1) from by rw [show (1 : Int32) = nI 1 from rfl, nI_add]]
  refine va_sld hx hb hX hbl hbA hS (pk_in (i + 1) L (by omega)) dL_law_251 ?_
  refine lv_aload_n hx hb dL_law_252 rfl (lv_at hl 3 rfl) ?_
  refine lv_iload_n hx hb dL_law_253 rfl (lv_at hl 0 rfl) ?_
  refine lv_iconst (v := (2 : Int32)) hx hb dL_law_254 (by decide) ?_
  refine lv_iadd hx hb dL_law_255 ?_
  rw [show nI i + (2 : Int32) = nI (i + 2) from by rw [show (2 : Int32) = nI 2 from rfl, nI_add]]
  refine va_sld hx hb hX hbl hbA hS (pk_in (i + 2) L (by omega)) dL_law_256 ?_
  obtain ⟨Fc_unkept, Fc_tablesRead, Pg_letters, Pg_size, Pg_fault, Pg_rows, Pg_inRow, Pg_width, Fl_entries, Fl_states, Fl_columns, Fl_moves, Fl_stables, Fl_amiss, Fl_normal, Pt_lessers, Pt_greaters, Pt_size, Lc_signals, Lc_kept, Lc_keptFrom, Lc_candidates, Lc_size, Sc_signals, Sc_codes, Sc_size, Ai_codes, Ai_bits, Cu_seen, Cu_inThrees, Cu_all, Lo_asked, Lo_ones, Lo_sum, Lo_wideSize, Lo_sumSize, Lo_flickers, Lo_ready, Wa_at, Wa_turns, Wa_changes, hJ, hP, hD⟩ := id hC
  refine ro_i (va_runV (As := [.int (xs (nI (i + 1)).toNatClampNeg), .int (xs (nI (i + 2)).toNatClampNeg)]) (rest := []) ⟨hx, hb, hml, hown, hts⟩ (c_X9_parting l (n_parting hJ)) (kwV 2 hts (inr20 _ (List.mem_of_getElem? (i := 3) rfl)) (inr20 _ (List.mem_of_getElem? (i := 0) rfl)) (inr20 _ (List.mem_of_getElem? (i := 1) rfl)) (inr20 _ (List.mem_of_getElem? (i := 2) rfl)) (inr1 _ (List.mem_of_getElem? (i := 2) rfl)) (by decide +kernel) rfl rfl ⟨Nat.le_of_ble_eq_true rfl, Nat.le_of_ble_eq_true rfl⟩) (preX9 hKC hN hP) rfl rfl hl.1 rfl (lv_room (Nat.le_of_ble_eq_true rfl)) dL_law_257 ⟨Nat.le_of_ble_eq_true rfl, Nat.le_of_ble_eq_true rfl⟩) (fun rC hwC => ?_)
  refine lv_pop hx hb dL_law_260 rfl ?_
  refine lv_aload_n hx hb dL_law_261 rfl (lv_at hl 1 rfl) ?_
  refine lv_aload_n hx hb dL_law_262 rfl (lv_at hl 3 rfl) ?_
  refine lv_iload_n hx hb dL_law_263 rfl (lv_at hl 0 rfl) ?_
  refine lv_iconst (v := (1 : Int32)) hx hb dL_law_264 (by decide) ?_
  refine lv_iadd hx hb dL_law_265 ?_
  rw [show nI i + (1 : Int32) = nI (i + 1) from by rw [show (1 : Int32) = nI 1 from rfl, nI_add]]
  refine va_sld hx hb hX hbl hbA hS (pk_in (i + 1) L (by omega)) dL_law_266 ?_
  refine lv_aload_n hx hb dL_law_267 rfl (lv_at hl 3 rfl) ?_
  refine lv_iload_n hx hb dL_law_268 rfl (lv_at hl 0 rfl) ?_
  refine lv_iconst (v := (2 : Int32)) hx hb dL_law_269 (by decide) ?_
  refine lv_iadd hx hb dL_law_270 ?_
  rw [show nI i + (2 : Int32) = nI (i + 2) from by rw [show (2 : Int32) = nI 2 from rfl, nI_add]]
  refine va_sld hx hb hX hbl hbA hS (pk_in (i + 2) L (by omega)) dL_law_271 ?_
  obtain ⟨i_pageLength, a_page, i_states, i_columns, a_entries, i_signals, a_signalAt, i_walksAt, i_turned, i_changed, i_read, i_newRows, i_newEntries, i_newColumns, i_greatest, a_newAt, i_partings, a_lowSet, a_highSet, i_leastMany, a_leastAt, a_tried, a_keptLow, a_keptHigh, i_laid, a_wants, i_wide, a_wideAsked, a_wideOnes, i_sum, i_flickers, a_sumAt, j_h, hJ, hP, hD⟩ := id hM
  refine ro_i (va_runV (As := [.int (xs (nI (i + 1)).toNatClampNeg), .int (xs (nI (i + 2)).toNatClampNeg)]) (rest := []) ⟨hx, hb, hml, hown, hts⟩ (c_X10_parting l (m_parting hJ)) (kwV 2 hts (inr20 _ (List.mem_of_getElem? (i := 10) rfl)) (inr20 _ (List.mem_of_getElem? (i := 7) rfl)) (inr20 _ (List.mem_of_getElem? (i := 8) rfl)) (inr20 _ (List.mem_of_getElem? (i := 9) rfl)) (inr1 _ (List.mem_of_getElem? (i := 5) rfl)) (by decide +kernel) rfl rfl ⟨Nat.le_of_ble_eq_true rfl, Nat.le_of_ble_eq_true rfl⟩) (preM hKM hP) rfl rfl hl.1 rfl (lv_room (Nat.le_of_ble_eq_true rfl)) dL_law_272 ⟨Nat.le_of_ble_eq_true rfl, Nat.le_of_ble_eq_true rfl⟩) (fun rM hwM => ?_)
  refine lv_pop hx hb dL_law_275 rfl ?_
  refine lv_goto (tgt := 618) hx hb dL_law_276 (by decide) ?_
  exact kk _ _ _ hC hM hS
set_option maxHeartbeats 4000000 in
set_option maxRecDepth 100000 in
theorem law_7 (C0 : lw_At p s m meth c b L xs) (hN : nwC s) (hKC : va_K D vwCl (tyC cC) s) (hKM : va_K D vwCl (tyM cM) s) (hdis : ∀ a, AC a → ¬ AM a) (hAC : ∀ a, AC a → s.heap.size ≤ a) (hAM : ∀ a, AM a → s.heap.size ≤ a) (hi : i + 4 ≤ L) (hL : L ≤ 2048) (hl : lv_has ls 4 [(3, .int (nI i)), (2, .ref (qM 0)), (1, .ref (qC 0)), (0, .ref b)]) (kk : ∀ (z : AS) (H : Heap) (locs : List Loc), iC D qC cC AC z H → iM D qM cM AM z H → va_S (fun a : Nat => s.heap.size ≤ a) s.heap H locs → W p l e room_1 s m #[Value.ref b] below meth c H locs 57 18427 Q (F0 m 618 ls [])) (hC : iC D qC cC AC z H) (hM : iM D qM cM AM z H) (hS : va_S (fun a : Nat => s.heap.size ≤ a) s.heap H locs) : W p l e room_1 s m #[Value.ref b] below meth c H locs 57 18427 Q (F0 m 279 ls []) := by
  obtain ⟨hx, hb, hr, hml, hown, hts0, hX, hbl, hlocks, hgv⟩ := C0
  have hts : ∀ w ∈ wsL_law, w.before #[Value.ref b] s = true := fun w h => hts0 w (wsL_law_in w h)
  have hbA : ¬ (fun a : Nat => s.heap.size ≤ a) b := Nat.not_le.mpr hbl
  refine lv_aload_n hx hb dL_law_279 rfl (lv_at hl 2 rfl) ?_
  refine lv_aload_n hx hb dL_law_280 rfl (lv_at hl 3 rfl) ?_
  refine lv_iload_n hx hb dL_law_281 rfl (lv_at hl 0 rfl) ?_
  refine lv_iconst (v := (1 : Int32)) hx hb dL_law_282 (by decide) ?_
  refine lv_iadd hx hb dL_law_283 ?_
  rw [show nI i + (1 : Int32) = nI (i + 1) from by rw [show (1 : Int32) = nI 1 from rfl, nI_add]]
  refine va_sld hx hb hX hbl hbA hS (pk_in (i + 1) L (by omega)) dL_law_284 ?_
  obtain ⟨Fc_unkept, Fc_tablesRead, Pg_letters, Pg_size, Pg_fault, Pg_rows, Pg_inRow, Pg_width, Fl_entries, Fl_states, Fl_columns, Fl_moves, Fl_stables, Fl_amiss, Fl_normal, Pt_lessers, Pt_greaters, Pt_size, Lc_signals, Lc_kept, Lc_keptFrom, Lc_candidates, Lc_size, Sc_signals, Sc_codes, Sc_size, Ai_codes, Ai_bits, Cu_seen, Cu_inThrees, Cu_all, Lo_asked, Lo_ones, Lo_sum, Lo_wideSize, Lo_sumSize, Lo_flickers, Lo_ready, Wa_at, Wa_turns, Wa_changes, hJ, hP, hD⟩ := id hC
  refine ro_i (va_runV (As := [.int (xs (nI (i + 1)).toNatClampNeg)]) (rest := []) ⟨hx, hb, hml, hown, hts⟩ (c_X9_least l (n_least hJ)) (kwV 1 hts (inr20 _ (List.mem_of_getElem? (i := 22) rfl)) (inr20 _ (List.mem_of_getElem? (i := 19) rfl)) (inr20 _ (List.mem_of_getElem? (i := 20) rfl)) (inr20 _ (List.mem_of_getElem? (i := 21) rfl)) (inr1 _ (List.mem_of_getElem? (i := 2) rfl)) (by decide +kernel) rfl rfl ⟨Nat.le_of_ble_eq_true rfl, Nat.le_of_ble_eq_true rfl⟩) (preX9 hKC hN hP) rfl rfl hl.1 rfl (lv_room (Nat.le_of_ble_eq_true rfl)) dL_law_285 ⟨Nat.le_of_ble_eq_true rfl, Nat.le_of_ble_eq_true rfl⟩) (fun rC hwC => ?_)
  refine lv_pop hx hb dL_law_288 rfl ?_
  refine lv_aload_n hx hb dL_law_289 rfl (lv_at hl 1 rfl) ?_
  refine lv_aload_n hx hb dL_law_290 rfl (lv_at hl 3 rfl) ?_
  refine lv_iload_n hx hb dL_law_291 rfl (lv_at hl 0 rfl) ?_
  refine lv_iconst (v := (1 : Int32)) hx hb dL_law_292 (by decide) ?_
  refine lv_iadd hx hb dL_law_293 ?_
  rw [show nI i + (1 : Int32) = nI (i + 1) from by rw [show (1 : Int32) = nI 1 from rfl, nI_add]]
  refine va_sld hx hb hX hbl hbA hS (pk_in (i + 1) L (by omega)) dL_law_294 ?_
  obtain ⟨i_pageLength, a_page, i_states, i_columns, a_entries, i_signals, a_signalAt, i_walksAt, i_turned, i_changed, i_read, i_newRows, i_newEntries, i_newColumns, i_greatest, a_newAt, i_partings, a_lowSet, a_highSet, i_leastMany, a_leastAt, a_tried, a_keptLow, a_keptHigh, i_laid, a_wants, i_wide, a_wideAsked, a_wideOnes, i_sum, i_flickers, a_sumAt, j_h, hJ, hP, hD⟩ := id hM
  refine ro_i (va_runV (As := [.int (xs (nI (i + 1)).toNatClampNeg)]) (rest := []) ⟨hx, hb, hml, hown, hts⟩ (c_X10_least l (m_least hJ)) (kwV 1 hts (inr21 _ (List.mem_of_getElem? (i := 2) rfl)) (inr20 _ (List.mem_of_getElem? (i := 23) rfl)) (inr21 _ (List.mem_of_getElem? (i := 0) rfl)) (inr21 _ (List.mem_of_getElem? (i := 1) rfl)) (inr1 _ (List.mem_of_getElem? (i := 5) rfl)) (by decide +kernel) rfl rfl ⟨Nat.le_of_ble_eq_true rfl, Nat.le_of_ble_eq_true rfl⟩) (preM hKM hP) rfl rfl hl.1 rfl (lv_room (Nat.le_of_ble_eq_true rfl)) dL_law_295 ⟨Nat.le_of_ble_eq_true rfl, Nat.le_of_ble_eq_true rfl⟩) (fun rM hwM => ?_)
  refine lv_pop hx hb dL_law_298 rfl ?_
  refine lv_goto (tgt := 618) hx hb dL_law_299 (by decide) ?_
  exact kk _ _ _ hC hM hS
set_option maxHeartbeats 4000000 in
set_option maxRecDepth 100000 in
theorem law_8 (C0 : lw_At p s m meth c b L xs) (hN : nwC s) (hKC : va_K D vwCl (tyC cC) s) (hKM : va_K D vwCl (tyM cM) s) (hdis : ∀ a, AC a → ¬ AM a) (hAC : ∀ a, AC a → s.heap.size ≤ a) (hAM : ∀ a, AM a → s.heap.size ≤ a) (hi : i + 4 ≤ L) (hL : L ≤ 2048) (hl : lv_has ls 4 [(3, .int (nI i)), (2, .ref (qM 0)), (1, .ref (qC 0)), (0, .ref b)]) (kk : ∀ (z : AS) (H : Heap) (locs : List Loc), iC D qC cC AC z H → iM D qM cM AM z H → va_S (fun a : Nat => s.heap.size ≤ a) s.heap H locs → W p l e room_1 s m #[Value.ref b] below meth c H locs 57 18427 Q (F0 m 618 ls [])) (hC : iC D qC cC AC z H) (hM : iM D qM cM AM z H) (hS : va_S (fun a : Nat => s.heap.size ≤ a) s.heap H locs) : W p l e room_1 s m #[Value.ref b] below meth c H locs 57 18427 Q (F0 m 302 ls []) := by
  obtain ⟨hx, hb, hr, hml, hown, hts0, hX, hbl, hlocks, hgv⟩ := C0
  have hts : ∀ w ∈ wsL_law, w.before #[Value.ref b] s = true := fun w h => hts0 w (wsL_law_in w h)
  have hbA : ¬ (fun a : Nat => s.heap.size ≤ a) b := Nat.not_le.mpr hbl
  refine lv_aload_n hx hb dL_law_302 rfl (lv_at hl 2 rfl) ?_
  refine lv_aload_n hx hb dL_law_303 rfl (lv_at hl 3 rfl) ?_
  refine lv_iload_n hx hb dL_law_304 rfl (lv_at hl 0 rfl) ?_
  refine lv_iconst (v := (1 : Int32)) hx hb dL_law_305 (by decide) ?_
  refine lv_iadd hx hb dL_law_306 ?_
  rw [show nI i + (1 : Int32) = nI (i + 1) from by rw [show (1 : Int32) = nI 1 from rfl, nI_add]]
  refine va_sld hx hb hX hbl hbA hS (pk_in (i + 1) L (by omega)) dL_law_307 ?_
  obtain ⟨Fc_unkept, Fc_tablesRead, Pg_letters, Pg_size, Pg_fault, Pg_rows, Pg_inRow, Pg_width, Fl_entries, Fl_states, Fl_columns, Fl_moves, Fl_stables, Fl_amiss, Fl_normal, Pt_lessers, Pt_greaters, Pt_size, Lc_signals, Lc_kept, Lc_keptFrom, Lc_candidates, Lc_size, Sc_signals, Sc_codes, Sc_size, Ai_codes, Ai_bits, Cu_seen, Cu_inThrees, Cu_all, Lo_asked, Lo_ones, Lo_sum, Lo_wideSize, Lo_sumSize, Lo_flickers, Lo_ready, Wa_at, Wa_turns, Wa_changes, hJ, hP, hD⟩ := id hC
  refine l_wi (va_runV (As := [.int (xs (nI (i + 1)).toNatClampNeg)]) (rest := []) ⟨hx, hb, hml, hown, hts⟩ (c_X9_put l (n_put hJ)) (kwV 1 hts (inr21 _ (List.mem_of_getElem? (i := 10) rfl)) (inr21 _ (List.mem_of_getElem? (i := 7) rfl)) (inr21 _ (List.mem_of_getElem? (i := 8) rfl)) (inr21 _ (List.mem_of_getElem? (i := 9) rfl)) (inr1 _ (List.mem_of_getElem? (i := 2) rfl)) (by decide +kernel) rfl rfl ⟨Nat.le_of_ble_eq_true rfl, Nat.le_of_ble_eq_true rfl⟩) (preX9w hKC hN hP hD) rfl rfl hl.1 rfl (lv_room (Nat.le_of_ble_eq_true rfl)) dL_law_308 ⟨Nat.le_of_ble_eq_true rfl, Nat.le_of_ble_eq_true rfl⟩) hS hAC (fun rC t H1 locs1 ht hw hk hS => ?_)
  obtain ⟨Fc_unkept_, Sc_signals_, Sc_codes_, Sc_size_, Ai_codes_, Ai_bits_, Lo_ready_, hw, hP⟩ := hw
  rw [ht] at hP
  obtain ⟨zC, hRC, hw⟩ := hw
  have hM : iM D qM cM AM z H1 := hM.stay (B := AC) hdis hk
  have hC : iC D qC cC AC zC H1 := ⟨Fc_unkept_, Fc_tablesRead, Pg_letters, Pg_size, Pg_fault, Pg_rows, Pg_inRow, Pg_width, Fl_entries, Fl_states, Fl_columns, Fl_moves, Fl_stables, Fl_amiss, Fl_normal, Pt_lessers, Pt_greaters, Pt_size, Lc_signals, Lc_kept, Lc_keptFrom, Lc_candidates, Lc_size, Sc_signals_, Sc_codes_, Sc_size_, Ai_codes_, Ai_bits_, Cu_seen, Cu_inThrees, Cu_all, Lo_asked, Lo_ones, Lo_sum, Lo_wideSize, Lo_sumSize, Lo_flickers, Lo_ready_, Wa_at, Wa_turns, Wa_changes, hw, hP, dC hD⟩
  generalize H1 = H at hC hM hS ⊢
  generalize locs1 = locs at hS ⊢
  refine lv_pop hx hb dL_law_311 rfl ?_
  refine lv_aload_n hx hb dL_law_312 rfl (lv_at hl 1 rfl) ?_
  refine lv_aload_n hx hb dL_law_313 rfl (lv_at hl 3 rfl) ?_
  refine lv_iload_n hx hb dL_law_314 rfl (lv_at hl 0 rfl) ?_
  refine lv_iconst (v := (1 : Int32)) hx hb dL_law_315 (by decide) ?_
  refine lv_iadd hx hb dL_law_316 ?_
  rw [show nI i + (1 : Int32) = nI (i + 1) from by rw [show (1 : Int32) = nI 1 from rfl, nI_add]]
  refine va_sld hx hb hX hbl hbA hS (pk_in (i + 1) L (by omega)) dL_law_317 ?_
  obtain ⟨i_pageLength, a_page, i_states, i_columns, a_entries, i_signals, a_signalAt, i_walksAt, i_turned, i_changed, i_read, i_newRows, i_newEntries, i_newColumns, i_greatest, a_newAt, i_partings, a_lowSet, a_highSet, i_leastMany, a_leastAt, a_tried, a_keptLow, a_keptHigh, i_laid, a_wants, i_wide, a_wideAsked, a_wideOnes, i_sum, i_flickers, a_sumAt, j_h, hJ, hP, hD⟩ := id hM
  refine l_wi (va_runV (As := [.int (xs (nI (i + 1)).toNatClampNeg)]) (rest := []) ⟨hx, hb, hml, hown, hts⟩ (c_X10_put l (m_put hJ)) (kwV 1 hts (inr21 _ (List.mem_of_getElem? (i := 19) rfl)) (inr21 _ (List.mem_of_getElem? (i := 16) rfl)) (inr21 _ (List.mem_of_getElem? (i := 17) rfl)) (inr21 _ (List.mem_of_getElem? (i := 18) rfl)) (inr1 _ (List.mem_of_getElem? (i := 5) rfl)) (by decide +kernel) rfl rfl ⟨Nat.le_of_ble_eq_true rfl, Nat.le_of_ble_eq_true rfl⟩) (preMw hKM hP hD) rfl rfl hl.1 rfl (lv_room (Nat.le_of_ble_eq_true rfl)) dL_law_318 ⟨Nat.le_of_ble_eq_true rfl, Nat.le_of_ble_eq_true rfl⟩) hS hAM (fun rM t H1 locs1 ht hw hk hS => ?_)
  obtain ⟨i_signals_, a_signalAt_, i_laid_, hw, hP⟩ := hw
  rw [ht] at hP
  obtain ⟨zM, hRM, hw⟩ := hw
  have hC : iC D qC cC AC zC H1 := hC.stay (B := AM) (fun a h1 h2 => hdis a h2 h1) hk
  have hM : iM D qM cM AM zM H1 := ⟨i_pageLength, a_page, i_states, i_columns, a_entries, i_signals_, a_signalAt_, i_walksAt, i_turned, i_changed, i_read, i_newRows, i_newEntries, i_newColumns, i_greatest, a_newAt, i_partings, a_lowSet, a_highSet, i_leastMany, a_leastAt, a_tried, a_keptLow, a_keptHigh, i_laid_, a_wants, i_wide, a_wideAsked, a_wideOnes, i_sum, i_flickers, a_sumAt, j_h, hw, hP, dM hD⟩
  obtain ⟨eA, eZ⟩ := PUTR_eq hRC hRM
  rw [← eZ] at hM
  generalize H1 = H at hM hC hS ⊢
  generalize locs1 = locs at hS ⊢
  refine lv_pop hx hb dL_law_321 rfl ?_
  refine lv_goto (tgt := 618) hx hb dL_law_322 (by decide) ?_
  exact kk _ _ _ hC hM hS
set_option maxHeartbeats 4000000 in
set_option maxRecDepth 100000 in
theorem law_9 (C0 : lw_At p s m meth c b L xs) (hN : nwC s) (hKC : va_K D vwCl (tyC cC) s) (hKM : va_K D vwCl (tyM cM) s) (hdis : ∀ a, AC a → ¬ AM a) (hAC : ∀ a, AC a → s.heap.size ≤ a) (hAM : ∀ a, AM a → s.heap.size ≤ a) (hi : i + 4 ≤ L) (hL : L ≤ 2048) (hl : lv_has ls 4 [(3, .int (nI i)), (2, .ref (qM 0)), (1, .ref (qC 0)), (0, .ref b)]) (kk : ∀ (z : AS) (H : Heap) (locs : List Loc), iC D qC cC AC z H → iM D qM cM AM z H → va_S (fun a : Nat => s.heap.size ≤ a) s.heap H locs → W p l e room_1 s m #[Value.ref b] below meth c H locs 57 18427 Q (F0 m 618 ls [])) (hC : iC D qC cC AC z H) (hM : iM D qM cM AM z H) (hS : va_S (fun a : Nat => s.heap.size ≤ a) s.heap H locs) : W p l e room_1 s m #[Value.ref b] below meth c H locs 57 18427 Q (F0 m 325 ls []) := by
  obtain ⟨hx, hb, hr, hml, hown, hts0, hX, hbl, hlocks, hgv⟩ := C0
  have hts : ∀ w ∈ wsL_law, w.before #[Value.ref b] s = true := fun w h => hts0 w (wsL_law_in w h)
  have hbA : ¬ (fun a : Nat => s.heap.size ≤ a) b := Nat.not_le.mpr hbl
  refine lv_aload_n hx hb dL_law_325 rfl (lv_at hl 2 rfl) ?_
  obtain ⟨Fc_unkept, Fc_tablesRead, Pg_letters, Pg_size, Pg_fault, Pg_rows, Pg_inRow, Pg_width, Fl_entries, Fl_states, Fl_columns, Fl_moves, Fl_stables, Fl_amiss, Fl_normal, Pt_lessers, Pt_greaters, Pt_size, Lc_signals, Lc_kept, Lc_keptFrom, Lc_candidates, Lc_size, Sc_signals, Sc_codes, Sc_size, Ai_codes, Ai_bits, Cu_seen, Cu_inThrees, Cu_all, Lo_asked, Lo_ones, Lo_sum, Lo_wideSize, Lo_sumSize, Lo_flickers, Lo_ready, Wa_at, Wa_turns, Wa_changes, hJ, hP, hD⟩ := id hC
  refine l_wi (va_runV (As := []) (rest := []) ⟨hx, hb, hml, hown, hts⟩ (c_X9_clear l (n_clear hJ)) (kwV 0 hts (inr21 _ (List.mem_of_getElem? (i := 23) rfl)) (inr21 _ (List.mem_of_getElem? (i := 20) rfl)) (inr21 _ (List.mem_of_getElem? (i := 21) rfl)) (inr21 _ (List.mem_of_getElem? (i := 22) rfl)) (inr1 _ (List.mem_of_getElem? (i := 2) rfl)) (by decide +kernel) rfl rfl ⟨Nat.le_of_ble_eq_true rfl, Nat.le_of_ble_eq_true rfl⟩) (preX9w hKC hN hP hD) rfl rfl hl.1 rfl (lv_room (Nat.le_of_ble_eq_true rfl)) dL_law_326 ⟨Nat.le_of_ble_eq_true rfl, Nat.le_of_ble_eq_true rfl⟩) hS hAC (fun rC t H1 locs1 ht hw hk hS => ?_)
  obtain ⟨Fc_unkept_, Sc_codes_, Sc_size_, Ai_codes_, Ai_bits_, Lo_ready_, hw, hP⟩ := hw
  rw [ht] at hP
  obtain ⟨zC, hRC, hw⟩ := hw
  have hM : iM D qM cM AM z H1 := hM.stay (B := AC) hdis hk
  have hC : iC D qC cC AC zC H1 := ⟨Fc_unkept_, Fc_tablesRead, Pg_letters, Pg_size, Pg_fault, Pg_rows, Pg_inRow, Pg_width, Fl_entries, Fl_states, Fl_columns, Fl_moves, Fl_stables, Fl_amiss, Fl_normal, Pt_lessers, Pt_greaters, Pt_size, Lc_signals, Lc_kept, Lc_keptFrom, Lc_candidates, Lc_size, Sc_signals, Sc_codes_, Sc_size_, Ai_codes_, Ai_bits_, Cu_seen, Cu_inThrees, Cu_all, Lo_asked, Lo_ones, Lo_sum, Lo_wideSize, Lo_sumSize, Lo_flickers, Lo_ready_, Wa_at, Wa_turns, Wa_changes, hw, hP, dC hD⟩
  generalize H1 = H at hC hM hS ⊢
  generalize locs1 = locs at hS ⊢
  refine lv_pop hx hb dL_law_329 rfl ?_
  refine lv_aload_n hx hb dL_law_330 rfl (lv_at hl 1 rfl) ?_
  obtain ⟨i_pageLength, a_page, i_states, i_columns, a_entries, i_signals, a_signalAt, i_walksAt, i_turned, i_changed, i_read, i_newRows, i_newEntries, i_newColumns, i_greatest, a_newAt, i_partings, a_lowSet, a_highSet, i_leastMany, a_leastAt, a_tried, a_keptLow, a_keptHigh, i_laid, a_wants, i_wide, a_wideAsked, a_wideOnes, i_sum, i_flickers, a_sumAt, j_h, hJ, hP, hD⟩ := id hM
  refine l_wi (va_runV (As := []) (rest := []) ⟨hx, hb, hml, hown, hts⟩ (c_X10_clear l (m_clear hJ)) (kwV 0 hts (inr22 _ (List.mem_of_getElem? (i := 4) rfl)) (inr22 _ (List.mem_of_getElem? (i := 1) rfl)) (inr22 _ (List.mem_of_getElem? (i := 2) rfl)) (inr22 _ (List.mem_of_getElem? (i := 3) rfl)) (inr1 _ (List.mem_of_getElem? (i := 5) rfl)) (by decide +kernel) rfl rfl ⟨Nat.le_of_ble_eq_true rfl, Nat.le_of_ble_eq_true rfl⟩) (preMw hKM hP hD) rfl rfl hl.1 rfl (lv_room (Nat.le_of_ble_eq_true rfl)) dL_law_331 ⟨Nat.le_of_ble_eq_true rfl, Nat.le_of_ble_eq_true rfl⟩) hS hAM (fun rM t H1 locs1 ht hw hk hS => ?_)
  obtain ⟨i_signals_, i_laid_, hw, hP⟩ := hw
  rw [ht] at hP
  obtain ⟨zM, hRM, hw⟩ := hw
  have hC : iC D qC cC AC zC H1 := hC.stay (B := AM) (fun a h1 h2 => hdis a h2 h1) hk
  have hM : iM D qM cM AM zM H1 := ⟨i_pageLength, a_page, i_states, i_columns, a_entries, i_signals_, a_signalAt, i_walksAt, i_turned, i_changed, i_read, i_newRows, i_newEntries, i_newColumns, i_greatest, a_newAt, i_partings, a_lowSet, a_highSet, i_leastMany, a_leastAt, a_tried, a_keptLow, a_keptHigh, i_laid_, a_wants, i_wide, a_wideAsked, a_wideOnes, i_sum, i_flickers, a_sumAt, j_h, hw, hP, dM hD⟩
  obtain ⟨eA, eZ⟩ := CLRR_eq hRC hRM
  rw [← eZ] at hM
  generalize H1 = H at hM hC hS ⊢
  generalize locs1 = locs at hS ⊢
  refine lv_pop hx hb dL_law_334 rfl ?_
  refine lv_goto (tgt := 618) hx hb dL_law_335 (by decide) ?_
  exact kk _ _ _ hC hM hS
set_option maxHeartbeats 4000000 in
set_option maxRecDepth 100000 in
theorem law_10 (C0 : lw_At p s m meth c b L xs) (hN : nwC s) (hKC : va_K D vwCl (tyC cC) s) (hKM : va_K D vwCl (tyM cM) s) (hdis : ∀ a, AC a → ¬ AM a) (hAC : ∀ a, AC a → s.heap.size ≤ a) (hAM : ∀ a, AM a → s.heap.size ≤ a) (hi : i + 4 ≤ L) (hL : L ≤ 2048) (hl : lv_has ls 4 [(3, .int (nI i)), (2, .ref (qM 0)), (1, .ref (qC 0)), (0, .ref b)]) (kk : ∀ (z : AS) (H : Heap) (locs : List Loc), iC D qC cC AC z H → iM D qM cM AM z H → va_S (fun a : Nat => s.heap.size ≤ a) s.heap H locs → W p l e room_1 s m #[Value.ref b] below meth c H locs 57 18427 Q (F0 m 618 ls [])) (hC : iC D qC cC AC z H) (hM : iM D qM cM AM z H) (hS : va_S (fun a : Nat => s.heap.size ≤ a) s.heap H locs) : W p l e room_1 s m #[Value.ref b] below meth c H locs 57 18427 Q (F0 m 338 ls []) := by
  obtain ⟨hx, hb, hr, hml, hown, hts0, hX, hbl, hlocks, hgv⟩ := C0
  have hts : ∀ w ∈ wsL_law, w.before #[Value.ref b] s = true := fun w h => hts0 w (wsL_law_in w h)
  have hbA : ¬ (fun a : Nat => s.heap.size ≤ a) b := Nat.not_le.mpr hbl
  refine lv_aload_n hx hb dL_law_338 rfl (lv_at hl 2 rfl) ?_
  refine lv_aload_n hx hb dL_law_339 rfl (lv_at hl 3 rfl) ?_
  refine lv_iload_n hx hb dL_law_340 rfl (lv_at hl 0 rfl) ?_
  refine lv_iconst (v := (1 : Int32)) hx hb dL_law_341 (by decide) ?_
  refine lv_iadd hx hb dL_law_342 ?_
  rw [show nI i + (1 : Int32) = nI (i + 1) from by rw [show (1 : Int32) = nI 1 from rfl, nI_add]]
  refine va_sld hx hb hX hbl hbA hS (pk_in (i + 1) L (by omega)) dL_law_343 ?_
  obtain ⟨Fc_unkept, Fc_tablesRead, Pg_letters, Pg_size, Pg_fault, Pg_rows, Pg_inRow, Pg_width, Fl_entries, Fl_states, Fl_columns, Fl_moves, Fl_stables, Fl_amiss, Fl_normal, Pt_lessers, Pt_greaters, Pt_size, Lc_signals, Lc_kept, Lc_keptFrom, Lc_candidates, Lc_size, Sc_signals, Sc_codes, Sc_size, Ai_codes, Ai_bits, Cu_seen, Cu_inThrees, Cu_all, Lo_asked, Lo_ones, Lo_sum, Lo_wideSize, Lo_sumSize, Lo_flickers, Lo_ready, Wa_at, Wa_turns, Wa_changes, hJ, hP, hD⟩ := id hC
  refine ro_i (va_runV (As := [.int (xs (nI (i + 1)).toNatClampNeg)]) (rest := []) ⟨hx, hb, hml, hown, hts⟩ (c_X9_code l (n_code hJ)) (kwV 1 hts (inr22 _ (List.mem_of_getElem? (i := 8) rfl)) (inr22 _ (List.mem_of_getElem? (i := 5) rfl)) (inr22 _ (List.mem_of_getElem? (i := 6) rfl)) (inr22 _ (List.mem_of_getElem? (i := 7) rfl)) (inr1 _ (List.mem_of_getElem? (i := 2) rfl)) (by decide +kernel) rfl rfl ⟨Nat.le_of_ble_eq_true rfl, Nat.le_of_ble_eq_true rfl⟩) (preX9 hKC hN hP) rfl rfl hl.1 rfl (lv_room (Nat.le_of_ble_eq_true rfl)) dL_law_344 ⟨Nat.le_of_ble_eq_true rfl, Nat.le_of_ble_eq_true rfl⟩) (fun rC hwC => ?_)
  refine lv_pop hx hb dL_law_347 rfl ?_
  refine lv_aload_n hx hb dL_law_348 rfl (lv_at hl 1 rfl) ?_
  refine lv_aload_n hx hb dL_law_349 rfl (lv_at hl 3 rfl) ?_
  refine lv_iload_n hx hb dL_law_350 rfl (lv_at hl 0 rfl) ?_
  refine lv_iconst (v := (1 : Int32)) hx hb dL_law_351 (by decide) ?_
  refine lv_iadd hx hb dL_law_352 ?_
  rw [show nI i + (1 : Int32) = nI (i + 1) from by rw [show (1 : Int32) = nI 1 from rfl, nI_add]]
  refine va_sld hx hb hX hbl hbA hS (pk_in (i + 1) L (by omega)) dL_law_353 ?_
  obtain ⟨i_pageLength, a_page, i_states, i_columns, a_entries, i_signals, a_signalAt, i_walksAt, i_turned, i_changed, i_read, i_newRows, i_newEntries, i_newColumns, i_greatest, a_newAt, i_partings, a_lowSet, a_highSet, i_leastMany, a_leastAt, a_tried, a_keptLow, a_keptHigh, i_laid, a_wants, i_wide, a_wideAsked, a_wideOnes, i_sum, i_flickers, a_sumAt, j_h, hJ, hP, hD⟩ := id hM
  refine ro_i (va_runV (As := [.int (xs (nI (i + 1)).toNatClampNeg)]) (rest := []) ⟨hx, hb, hml, hown, hts⟩ (c_X10_code l (m_code hJ)) (kwV 1 hts (inr22 _ (List.mem_of_getElem? (i := 13) rfl)) (inr22 _ (List.mem_of_getElem? (i := 10) rfl)) (inr22 _ (List.mem_of_getElem? (i := 11) rfl)) (inr22 _ (List.mem_of_getElem? (i := 12) rfl)) (inr1 _ (List.mem_of_getElem? (i := 5) rfl)) (by decide +kernel) rfl rfl ⟨Nat.le_of_ble_eq_true rfl, Nat.le_of_ble_eq_true rfl⟩) (preM hKM hP) rfl rfl hl.1 rfl (lv_room (Nat.le_of_ble_eq_true rfl)) dL_law_354 ⟨Nat.le_of_ble_eq_true rfl, Nat.le_of_ble_eq_true rfl⟩) (fun rM hwM => ?_)
  refine lv_pop hx hb dL_law_357 rfl ?_
  refine lv_goto (tgt := 618) hx hb dL_law_358 (by decide) ?_
  exact kk _ _ _ hC hM hS
set_option maxHeartbeats 4000000 in
set_option maxRecDepth 100000 in
theorem law_11 (C0 : lw_At p s m meth c b L xs) (hN : nwC s) (hKC : va_K D vwCl (tyC cC) s) (hKM : va_K D vwCl (tyM cM) s) (hdis : ∀ a, AC a → ¬ AM a) (hAC : ∀ a, AC a → s.heap.size ≤ a) (hAM : ∀ a, AM a → s.heap.size ≤ a) (hi : i + 4 ≤ L) (hL : L ≤ 2048) (hl : lv_has ls 4 [(3, .int (nI i)), (2, .ref (qM 0)), (1, .ref (qC 0)), (0, .ref b)]) (kk : ∀ (z : AS) (H : Heap) (locs : List Loc), iC D qC cC AC z H → iM D qM cM AM z H → va_S (fun a : Nat => s.heap.size ≤ a) s.heap H locs → W p l e room_1 s m #[Value.ref b] below meth c H locs 57 18427 Q (F0 m 618 ls [])) (hC : iC D qC cC AC z H) (hM : iM D qM cM AM z H) (hS : va_S (fun a : Nat => s.heap.size ≤ a) s.heap H locs) : W p l e room_1 s m #[Value.ref b] below meth c H locs 57 18427 Q (F0 m 361 ls []) := by
  obtain ⟨hx, hb, hr, hml, hown, hts0, hX, hbl, hlocks, hgv⟩ := C0
  have hts : ∀ w ∈ wsL_law, w.before #[Value.ref b] s = true := fun w h => hts0 w (wsL_law_in w h)
  have hbA : ¬ (fun a : Nat => s.heap.size ≤ a) b := Nat.not_le.mpr hbl
  refine lv_aload_n hx hb dL_law_361 rfl (lv_at hl 2 rfl) ?_
  refine lv_aload_n hx hb dL_law_362 rfl (lv_at hl 3 rfl) ?_
  refine lv_iload_n hx hb dL_law_363 rfl (lv_at hl 0 rfl) ?_
  refine lv_iconst (v := (1 : Int32)) hx hb dL_law_364 (by decide) ?_
  refine lv_iadd hx hb dL_law_365 ?_
  rw [show nI i + (1 : Int32) = nI (i + 1) from by rw [show (1 : Int32) = nI 1 from rfl, nI_add]]
  refine va_sld hx hb hX hbl hbA hS (pk_in (i + 1) L (by omega)) dL_law_366 ?_
  obtain ⟨Fc_unkept, Fc_tablesRead, Pg_letters, Pg_size, Pg_fault, Pg_rows, Pg_inRow, Pg_width, Fl_entries, Fl_states, Fl_columns, Fl_moves, Fl_stables, Fl_amiss, Fl_normal, Pt_lessers, Pt_greaters, Pt_size, Lc_signals, Lc_kept, Lc_keptFrom, Lc_candidates, Lc_size, Sc_signals, Sc_codes, Sc_size, Ai_codes, Ai_bits, Cu_seen, Cu_inThrees, Cu_all, Lo_asked, Lo_ones, Lo_sum, Lo_wideSize, Lo_sumSize, Lo_flickers, Lo_ready, Wa_at, Wa_turns, Wa_changes, hJ, hP, hD⟩ := id hC
  refine ro_i (va_runV (As := [.int (xs (nI (i + 1)).toNatClampNeg)]) (rest := []) ⟨hx, hb, hml, hown, hts⟩ (c_X9_coded l (n_coded hJ)) (kwV 1 hts (inr22 _ (List.mem_of_getElem? (i := 21) rfl)) (inr22 _ (List.mem_of_getElem? (i := 18) rfl)) (inr22 _ (List.mem_of_getElem? (i := 19) rfl)) (inr22 _ (List.mem_of_getElem? (i := 20) rfl)) (inr1 _ (List.mem_of_getElem? (i := 2) rfl)) (by decide +kernel) rfl rfl ⟨Nat.le_of_ble_eq_true rfl, Nat.le_of_ble_eq_true rfl⟩) (preX9 hKC hN hP) rfl rfl hl.1 rfl (lv_room (Nat.le_of_ble_eq_true rfl)) dL_law_367 ⟨Nat.le_of_ble_eq_true rfl, Nat.le_of_ble_eq_true rfl⟩) (fun rC hwC => ?_)
  refine lv_pop hx hb dL_law_370 rfl ?_
  refine lv_aload_n hx hb dL_law_371 rfl (lv_at hl 1 rfl) ?_
  refine lv_aload_n hx hb dL_law_372 rfl (lv_at hl 3 rfl) ?_
  refine lv_iload_n hx hb dL_law_373 rfl (lv_at hl 0 rfl) ?_
  refine lv_iconst (v := (1 : Int32)) hx hb dL_law_374 (by decide) ?_
  refine lv_iadd hx hb dL_law_375 ?_
  rw [show nI i + (1 : Int32) = nI (i + 1) from by rw [show (1 : Int32) = nI 1 from rfl, nI_add]]
  refine va_sld hx hb hX hbl hbA hS (pk_in (i + 1) L (by omega)) dL_law_376 ?_
  obtain ⟨i_pageLength, a_page, i_states, i_columns, a_entries, i_signals, a_signalAt, i_walksAt, i_turned, i_changed, i_read, i_newRows, i_newEntries, i_newColumns, i_greatest, a_newAt, i_partings, a_lowSet, a_highSet, i_leastMany, a_leastAt, a_tried, a_keptLow, a_keptHigh, i_laid, a_wants, i_wide, a_wideAsked, a_wideOnes, i_sum, i_flickers, a_sumAt, j_h, hJ, hP, hD⟩ := id hM
  refine ro_i (va_runV (As := [.int (xs (nI (i + 1)).toNatClampNeg)]) (rest := []) ⟨hx, hb, hml, hown, hts⟩ (c_X10_coded l (m_coded hJ)) (kwV 1 hts (inr24 _ (List.mem_of_getElem? (i := 11) rfl)) (inr24 _ (List.mem_of_getElem? (i := 8) rfl)) (inr24 _ (List.mem_of_getElem? (i := 9) rfl)) (inr24 _ (List.mem_of_getElem? (i := 10) rfl)) (inr1 _ (List.mem_of_getElem? (i := 5) rfl)) (by decide +kernel) rfl rfl ⟨Nat.le_of_ble_eq_true rfl, Nat.le_of_ble_eq_true rfl⟩) (preM hKM hP) rfl rfl hl.1 rfl (lv_room (Nat.le_of_ble_eq_true rfl)) dL_law_377 ⟨Nat.le_of_ble_eq_true rfl, Nat.le_of_ble_eq_true rfl⟩) (fun rM hwM => ?_)
  refine lv_pop hx hb dL_law_380 rfl ?_
  refine lv_goto (tgt := 618) hx hb dL_law_381 (by decide) ?_
  exact kk _ _ _ hC hM hS
set_option maxHeartbeats 4000000 in
set_option maxRecDepth 100000 in
theorem law_12 (C0 : lw_At p s m meth c b L xs) (hN : nwC s) (hKC : va_K D vwCl (tyC cC) s) (hKM : va_K D vwCl (tyM cM) s) (hdis : ∀ a, AC a → ¬ AM a) (hAC : ∀ a, AC a → s.heap.size ≤ a) (hAM : ∀ a, AM a → s.heap.size ≤ a) (hi : i + 4 ≤ L) (hL : L ≤ 2048) (hl : lv_has ls 4 [(3, .int (nI i)), (2, .ref (qM 0)), (1, .ref (qC 0)), (0, .ref b)]) (kk : ∀ (z : AS) (H : Heap) (locs : List Loc), iC D qC cC AC z H → iM D qM cM AM z H → va_S (fun a : Nat => s.heap.size ≤ a) s.heap H locs → W p l e room_1 s m #[Value.ref b] below meth c H locs 57 18427 Q (F0 m 618 ls [])) (hC : iC D qC cC AC z H) (hM : iM D qM cM AM z H) (hS : va_S (fun a : Nat => s.heap.size ≤ a) s.heap H locs) : W p l e room_1 s m #[Value.ref b] below meth c H locs 57 18427 Q (F0 m 384 ls []) := by
  obtain ⟨hx, hb, hr, hml, hown, hts0, hX, hbl, hlocks, hgv⟩ := C0
  have hts : ∀ w ∈ wsL_law, w.before #[Value.ref b] s = true := fun w h => hts0 w (wsL_law_in w h)
  have hbA : ¬ (fun a : Nat => s.heap.size ≤ a) b := Nat.not_le.mpr hbl
  refine lv_aload_n hx hb dL_law_384 rfl (lv_at hl 2 rfl) ?_
  refine lv_aload_n hx hb dL_law_385 rfl (lv_at hl 3 rfl) ?_
  refine lv_iload_n hx hb dL_law_386 rfl (lv_at hl 0 rfl) ?_
  refine lv_iconst (v := (1 : Int32)) hx hb dL_law_387 (by decide) ?_
  refine lv_iadd hx hb dL_law_388 ?_
  rw [show nI i + (1 : Int32) = nI (i + 1) from by rw [show (1 : Int32) = nI 1 from rfl, nI_add]]
  refine va_sld hx hb hX hbl hbA hS (pk_in (i + 1) L (by omega)) dL_law_389 ?_
  refine lv_aload_n hx hb dL_law_390 rfl (lv_at hl 3 rfl) ?_
  refine lv_iload_n hx hb dL_law_391 rfl (lv_at hl 0 rfl) ?_
  refine lv_iconst (v := (2 : Int32)) hx hb dL_law_392 (by decide) ?_
  refine lv_iadd hx hb dL_law_393 ?_
  rw [show nI i + (2 : Int32) = nI (i + 2) from by rw [show (2 : Int32) = nI 2 from rfl, nI_add]]
  refine va_sld hx hb hX hbl hbA hS (pk_in (i + 2) L (by omega)) dL_law_394 ?_
  obtain ⟨Fc_unkept, Fc_tablesRead, Pg_letters, Pg_size, Pg_fault, Pg_rows, Pg_inRow, Pg_width, Fl_entries, Fl_states, Fl_columns, Fl_moves, Fl_stables, Fl_amiss, Fl_normal, Pt_lessers, Pt_greaters, Pt_size, Lc_signals, Lc_kept, Lc_keptFrom, Lc_candidates, Lc_size, Sc_signals, Sc_codes, Sc_size, Ai_codes, Ai_bits, Cu_seen, Cu_inThrees, Cu_all, Lo_asked, Lo_ones, Lo_sum, Lo_wideSize, Lo_sumSize, Lo_flickers, Lo_ready, Wa_at, Wa_turns, Wa_changes, hJ, hP, hD⟩ := id hC
  refine ro_i (va_runV (As := [.int (xs (nI (i + 1)).toNatClampNeg), .int (xs (nI (i + 2)).toNatClampNeg)]) (rest := []) ⟨hx, hb, hml, hown, hts⟩ (c_X9_wanted l (n_wanted hJ)) (kwV 2 hts (inr25 _ (List.mem_of_getElem? (i := 22) rfl)) (inr25 _ (List.mem_of_getElem? (i := 19) rfl)) (inr25 _ (List.mem_of_getElem? (i := 20) rfl)) (inr25 _ (List.mem_of_getElem? (i := 21) rfl)) (inr1 _ (List.mem_of_getElem? (i := 2) rfl)) (by decide +kernel) rfl rfl ⟨Nat.le_of_ble_eq_true rfl, Nat.le_of_ble_eq_true rfl⟩) (preX9 hKC hN hP) rfl rfl hl.1 rfl (lv_room (Nat.le_of_ble_eq_true rfl)) dL_law_395 ⟨Nat.le_of_ble_eq_true rfl, Nat.le_of_ble_eq_true rfl⟩) (fun rC hwC => ?_)
  refine lv_pop hx hb dL_law_398 rfl ?_
  refine lv_aload_n hx hb dL_law_399 rfl (lv_at hl 1 rfl) ?_
  refine lv_aload_n hx hb dL_law_400 rfl (lv_at hl 3 rfl) ?_
  refine lv_iload_n hx hb dL_law_401 rfl (lv_at hl 0 rfl) ?_
  refine lv_iconst (v := (1 : Int32)) hx hb dL_law_402 (by decide) ?_
  refine lv_iadd hx hb dL_law_403 ?_
  rw [show nI i + (1 : Int32) = nI (i + 1) from by rw [show (1 : Int32) = nI 1 from rfl, nI_add]]
  refine va_sld hx hb hX hbl hbA hS (pk_in (i + 1) L (by omega)) dL_law_404 ?_
  refine lv_aload_n hx hb dL_law_405 rfl (lv_at hl 3 rfl) ?_
  refine lv_iload_n hx hb dL_law_406 rfl (lv_at hl 0 rfl) ?_
  refine lv_iconst (v := (2 : Int32)) hx hb dL_law_407 (by decide) ?_
  refine lv_iadd hx hb dL_law_408 ?_
  rw [show nI i + (2 : Int32) = nI (i + 2) from by rw [show (2 : Int32) = nI 2 from rfl, nI_add]]
  refine va_sld hx hb hX hbl hbA hS (pk_in (i + 2) L (by omega)) dL_law_409 ?_
  obtain ⟨i_pageLength, a_page, i_states, i_columns, a_entries, i_signals, a_signalAt, i_walksAt, i_turned, i_changed, i_read, i_newRows, i_newEntries, i_newColumns, i_greatest, a_newAt, i_partings, a_lowSet, a_highSet, i_leastMany, a_leastAt, a_tried, a_keptLow, a_keptHigh, i_laid, a_wants, i_wide, a_wideAsked, a_wideOnes, i_sum, i_flickers, a_sumAt, j_h, hJ, hP, hD⟩ := id hM
  refine ro_i (va_runV (As := [.int (xs (nI (i + 1)).toNatClampNeg), .int (xs (nI (i + 2)).toNatClampNeg)]) (rest := []) ⟨hx, hb, hml, hown, hts⟩ (c_X10_wanted l (m_wanted hJ)) (kwV 2 hts (inr26 _ (List.mem_of_getElem? (i := 14) rfl)) (inr26 _ (List.mem_of_getElem? (i := 11) rfl)) (inr26 _ (List.mem_of_getElem? (i := 12) rfl)) (inr26 _ (List.mem_of_getElem? (i := 13) rfl)) (inr1 _ (List.mem_of_getElem? (i := 5) rfl)) (by decide +kernel) rfl rfl ⟨Nat.le_of_ble_eq_true rfl, Nat.le_of_ble_eq_true rfl⟩) (preM hKM hP) rfl rfl hl.1 rfl (lv_room (Nat.le_of_ble_eq_true rfl)) dL_law_410 ⟨Nat.le_of_ble_eq_true rfl, Nat.le_of_ble_eq_true rfl⟩) (fun rM hwM => ?_)
  refine lv_pop hx hb dL_law_413 rfl ?_
  refine lv_goto (tgt := 618) hx hb dL_law_414 (by decide) ?_
  exact kk _ _ _ hC hM hS
set_option maxHeartbeats 4000000 in
set_option maxRecDepth 100000 in
theorem law_13 (C0 : lw_At p s m meth c b L xs) (hN : nwC s) (hKC : va_K D vwCl (tyC cC) s) (hKM : va_K D vwCl (tyM cM) s) (hdis : ∀ a, AC a → ¬ AM a) (hAC : ∀ a, AC a → s.heap.size ≤ a) (hAM : ∀ a, AM a → s.heap.size ≤ a) (hi : i + 4 ≤ L) (hL : L ≤ 2048) (hl : lv_has ls 4 [(3, .int (nI i)), (2, .ref (qM 0)), (1, .ref (qC 0)), (0, .ref b)]) (kk : ∀ (z : AS) (H : Heap) (locs : List Loc), iC D qC cC AC z H → iM D qM cM AM z H → va_S (fun a : Nat => s.heap.size ≤ a) s.heap H locs → W p l e room_1 s m #[Value.ref b] below meth c H locs 57 18427 Q (F0 m 618 ls [])) (hC : iC D qC cC AC z H) (hM : iM D qM cM AM z H) (hS : va_S (fun a : Nat => s.heap.size ≤ a) s.heap H locs) : W p l e room_1 s m #[Value.ref b] below meth c H locs 57 18427 Q (F0 m 417 ls []) := by
  obtain ⟨hx, hb, hr, hml, hown, hts0, hX, hbl, hlocks, hgv⟩ := C0
  have hts : ∀ w ∈ wsL_law, w.before #[Value.ref b] s = true := fun w h => hts0 w (wsL_law_in w h)
  have hbA : ¬ (fun a : Nat => s.heap.size ≤ a) b := Nat.not_le.mpr hbl
  refine lv_aload_n hx hb dL_law_417 rfl (lv_at hl 2 rfl) ?_
  refine lv_aload_n hx hb dL_law_418 rfl (lv_at hl 3 rfl) ?_
  refine lv_iload_n hx hb dL_law_419 rfl (lv_at hl 0 rfl) ?_
  refine lv_iconst (v := (1 : Int32)) hx hb dL_law_420 (by decide) ?_
  refine lv_iadd hx hb dL_law_421 ?_
  rw [show nI i + (1 : Int32) = nI (i + 1) from by rw [show (1 : Int32) = nI 1 from rfl, nI_add]]
  refine va_sld hx hb hX hbl hbA hS (pk_in (i + 1) L (by omega)) dL_law_422 ?_
  refine lv_aload_n hx hb dL_law_423 rfl (lv_at hl 3 rfl) ?_
  refine lv_iload_n hx hb dL_law_424 rfl (lv_at hl 0 rfl) ?_
  refine lv_iconst (v := (2 : Int32)) hx hb dL_law_425 (by decide) ?_
  refine lv_iadd hx hb dL_law_426 ?_
  rw [show nI i + (2 : Int32) = nI (i + 2) from by rw [show (2 : Int32) = nI 2 from rfl, nI_add]]
  refine va_sld hx hb hX hbl hbA hS (pk_in (i + 2) L (by omega)) dL_law_427 ?_
  obtain ⟨Fc_unkept, Fc_tablesRead, Pg_letters, Pg_size, Pg_fault, Pg_rows, Pg_inRow, Pg_width, Fl_entries, Fl_states, Fl_columns, Fl_moves, Fl_stables, Fl_amiss, Fl_normal, Pt_lessers, Pt_greaters, Pt_size, Lc_signals, Lc_kept, Lc_keptFrom, Lc_candidates, Lc_size, Sc_signals, Sc_codes, Sc_size, Ai_codes, Ai_bits, Cu_seen, Cu_inThrees, Cu_all, Lo_asked, Lo_ones, Lo_sum, Lo_wideSize, Lo_sumSize, Lo_flickers, Lo_ready, Wa_at, Wa_turns, Wa_changes, hJ, hP, hD⟩ := id hC
  refine l_wi (va_runV (As := [.int (xs (nI (i + 1)).toNatClampNeg), .int (xs (nI (i + 2)).toNatClampNeg)]) (rest := []) ⟨hx, hb, hml, hown, hts⟩ (c_X9_logic l (n_logic hJ)) (kwV 2 hts (inr27 _ (List.mem_of_getElem? (i := 6) rfl)) (inr27 _ (List.mem_of_getElem? (i := 3) rfl)) (inr27 _ (List.mem_of_getElem? (i := 4) rfl)) (inr27 _ (List.mem_of_getElem? (i := 5) rfl)) (inr1 _ (List.mem_of_getElem? (i := 2) rfl)) (by decide +kernel) rfl rfl ⟨Nat.le_of_ble_eq_true rfl, Nat.le_of_ble_eq_true rfl⟩) (preX9w hKC hN hP hD) rfl rfl hl.1 rfl (lv_room (Nat.le_of_ble_eq_true rfl)) dL_law_428 ⟨Nat.le_of_ble_eq_true rfl, Nat.le_of_ble_eq_true rfl⟩) hS hAC (fun rC t H1 locs1 ht hw hk hS => ?_)
  obtain ⟨Cu_seen_, Cu_all_, Lo_asked_, Lo_ones_, Lo_sum_, Lo_wideSize_, Lo_sumSize_, Lo_flickers_, Lo_ready_, hw, hP⟩ := hw
  rw [ht] at hP
  obtain ⟨hwC, hw⟩ := hw
  have hM : iM D qM cM AM z H1 := hM.stay (B := AC) hdis hk
  have hC : iC D qC cC AC z H1 := ⟨Fc_unkept, Fc_tablesRead, Pg_letters, Pg_size, Pg_fault, Pg_rows, Pg_inRow, Pg_width, Fl_entries, Fl_states, Fl_columns, Fl_moves, Fl_stables, Fl_amiss, Fl_normal, Pt_lessers, Pt_greaters, Pt_size, Lc_signals, Lc_kept, Lc_keptFrom, Lc_candidates, Lc_size, Sc_signals, Sc_codes, Sc_size, Ai_codes, Ai_bits, Cu_seen_, Cu_inThrees, Cu_all_, Lo_asked_, Lo_ones_, Lo_sum_, Lo_wideSize_, Lo_sumSize_, Lo_flickers_, Lo_ready_, Wa_at, Wa_turns, Wa_changes, hw, hP, dC hD⟩
  generalize H1 = H at hC hM hS ⊢
  generalize locs1 = locs at hS ⊢
  refine lv_pop hx hb dL_law_431 rfl ?_
  refine lv_aload_n hx hb dL_law_432 rfl (lv_at hl 1 rfl) ?_
  refine lv_aload_n hx hb dL_law_433 rfl (lv_at hl 3 rfl) ?_
  refine lv_iload_n hx hb dL_law_434 rfl (lv_at hl 0 rfl) ?_
  refine lv_iconst (v := (1 : Int32)) hx hb dL_law_435 (by decide) ?_
  refine lv_iadd hx hb dL_law_436 ?_
  rw [show nI i + (1 : Int32) = nI (i + 1) from by rw [show (1 : Int32) = nI 1 from rfl, nI_add]]
  refine va_sld hx hb hX hbl hbA hS (pk_in (i + 1) L (by omega)) dL_law_437 ?_
  refine lv_aload_n hx hb dL_law_438 rfl (lv_at hl 3 rfl) ?_
  refine lv_iload_n hx hb dL_law_439 rfl (lv_at hl 0 rfl) ?_
  refine lv_iconst (v := (2 : Int32)) hx hb dL_law_440 (by decide) ?_
  refine lv_iadd hx hb dL_law_441 ?_
  rw [show nI i + (2 : Int32) = nI (i + 2) from by rw [show (2 : Int32) = nI 2 from rfl, nI_add]]
  refine va_sld hx hb hX hbl hbA hS (pk_in (i + 2) L (by omega)) dL_law_442 ?_
  obtain ⟨i_pageLength, a_page, i_states, i_columns, a_entries, i_signals, a_signalAt, i_walksAt, i_turned, i_changed, i_read, i_newRows, i_newEntries, i_newColumns, i_greatest, a_newAt, i_partings, a_lowSet, a_highSet, i_leastMany, a_leastAt, a_tried, a_keptLow, a_keptHigh, i_laid, a_wants, i_wide, a_wideAsked, a_wideOnes, i_sum, i_flickers, a_sumAt, j_h, hJ, hP, hD⟩ := id hM
  refine l_wi (va_runV (As := [.int (xs (nI (i + 1)).toNatClampNeg), .int (xs (nI (i + 2)).toNatClampNeg)]) (rest := []) ⟨hx, hb, hml, hown, hts⟩ (c_X10_logic l (m_logic hJ)) (kwV 2 hts (inr29 _ (List.mem_of_getElem? (i := 17) rfl)) (inr29 _ (List.mem_of_getElem? (i := 14) rfl)) (inr29 _ (List.mem_of_getElem? (i := 15) rfl)) (inr29 _ (List.mem_of_getElem? (i := 16) rfl)) (inr1 _ (List.mem_of_getElem? (i := 5) rfl)) (by decide +kernel) rfl rfl ⟨Nat.le_of_ble_eq_true rfl, Nat.le_of_ble_eq_true rfl⟩) (preMw hKM hP hD) rfl rfl hl.1 rfl (lv_room (Nat.le_of_ble_eq_true rfl)) dL_law_443 ⟨Nat.le_of_ble_eq_true rfl, Nat.le_of_ble_eq_true rfl⟩) hS hAM (fun rM t H1 locs1 ht hw hk hS => ?_)
  obtain ⟨i_laid_, a_wants_, i_wide_, a_wideAsked_, a_wideOnes_, i_sum_, i_flickers_, a_sumAt_, hw, hP⟩ := hw
  rw [ht] at hP
  obtain ⟨hwM, hw⟩ := hw
  have hC : iC D qC cC AC z H1 := hC.stay (B := AM) (fun a h1 h2 => hdis a h2 h1) hk
  have hM : iM D qM cM AM z H1 := ⟨i_pageLength, a_page, i_states, i_columns, a_entries, i_signals, a_signalAt, i_walksAt, i_turned, i_changed, i_read, i_newRows, i_newEntries, i_newColumns, i_greatest, a_newAt, i_partings, a_lowSet, a_highSet, i_leastMany, a_leastAt, a_tried, a_keptLow, a_keptHigh, i_laid_, a_wants_, i_wide_, a_wideAsked_, a_wideOnes_, i_sum_, i_flickers_, a_sumAt_, j_h, hw, hP, dM hD⟩
  generalize H1 = H at hM hC hS ⊢
  generalize locs1 = locs at hS ⊢
  refine lv_pop hx hb dL_law_446 rfl ?_
  refine lv_goto (tgt := 618) hx hb dL_law_447 (by decide) ?_
  exact kk _ _ _ hC hM hS
set_option maxHeartbeats 4000000 in
set_option maxRecDepth 100000 in
theorem law_14 (C0 : lw_At p s m meth c b L xs) (hN : nwC s) (hKC : va_K D vwCl (tyC cC) s) (hKM : va_K D vwCl (tyM cM) s) (hdis : ∀ a, AC a → ¬ AM a) (hAC : ∀ a, AC a → s.heap.size ≤ a) (hAM : ∀ a, AM a → s.heap.size ≤ a) (hi : i + 4 ≤ L) (hL : L ≤ 2048) (hl : lv_has ls 4 [(3, .int (nI i)), (2, .ref (qM 0)), (1, .ref (qC 0)), (0, .ref b)]) (kk : ∀ (z : AS) (H : Heap) (locs : List Loc), iC D qC cC AC z H → iM D qM cM AM z H → va_S (fun a : Nat => s.heap.size ≤ a) s.heap H locs → W p l e room_1 s m #[Value.ref b] below meth c H locs 57 18427 Q (F0 m 618 ls [])) (hC : iC D qC cC AC z H) (hM : iM D qM cM AM z H) (hS : va_S (fun a : Nat => s.heap.size ≤ a) s.heap H locs) : W p l e room_1 s m #[Value.ref b] below meth c H locs 57 18427 Q (F0 m 450 ls []) := by
  obtain ⟨hx, hb, hr, hml, hown, hts0, hX, hbl, hlocks, hgv⟩ := C0
  have hts : ∀ w ∈ wsL_law, w.before #[Value.ref b] s = true := fun w h => hts0 w (wsL_law_in w h)
  have hbA : ¬ (fun a : Nat => s.heap.size ≤ a) b := Nat.not_le.mpr hbl
  refine lv_aload_n hx hb dL_law_450 rfl (lv_at hl 2 rfl) ?_
  refine lv_aload_n hx hb dL_law_451 rfl (lv_at hl 3 rfl) ?_
  refine lv_iload_n hx hb dL_law_452 rfl (lv_at hl 0 rfl) ?_
  refine lv_iconst (v := (1 : Int32)) hx hb dL_law_453 (by decide) ?_
  refine lv_iadd hx hb dL_law_454 ?_
  rw [show nI i + (1 : Int32) = nI (i + 1) from by rw [show (1 : Int32) = nI 1 from rfl, nI_add]]
  refine va_sld hx hb hX hbl hbA hS (pk_in (i + 1) L (by omega)) dL_law_455 ?_
  refine lv_aload_n hx hb dL_law_456 rfl (lv_at hl 3 rfl) ?_
  refine lv_iload_n hx hb dL_law_457 rfl (lv_at hl 0 rfl) ?_
  refine lv_iconst (v := (2 : Int32)) hx hb dL_law_458 (by decide) ?_
  refine lv_iadd hx hb dL_law_459 ?_
  rw [show nI i + (2 : Int32) = nI (i + 2) from by rw [show (2 : Int32) = nI 2 from rfl, nI_add]]
  refine va_sld hx hb hX hbl hbA hS (pk_in (i + 2) L (by omega)) dL_law_460 ?_
  refine lv_aload_n hx hb dL_law_461 rfl (lv_at hl 3 rfl) ?_
  refine lv_iload_n hx hb dL_law_462 rfl (lv_at hl 0 rfl) ?_
  refine lv_iconst (v := (3 : Int32)) hx hb dL_law_463 (by decide) ?_
  refine lv_iadd hx hb dL_law_464 ?_
  rw [show nI i + (3 : Int32) = nI (i + 3) from by rw [show (3 : Int32) = nI 3 from rfl, nI_add]]
  refine va_sld hx hb hX hbl hbA hS (pk_in (i + 3) L (by omega)) dL_law_465 ?_
  obtain ⟨Fc_unkept, Fc_tablesRead, Pg_letters, Pg_size, Pg_fault, Pg_rows, Pg_inRow, Pg_width, Fl_entries, Fl_states, Fl_columns, Fl_moves, Fl_stables, Fl_amiss, Fl_normal, Pt_lessers, Pt_greaters, Pt_size, Lc_signals, Lc_kept, Lc_keptFrom, Lc_candidates, Lc_size, Sc_signals, Sc_codes, Sc_size, Ai_codes, Ai_bits, Cu_seen, Cu_inThrees, Cu_all, Lo_asked, Lo_ones, Lo_sum, Lo_wideSize, Lo_sumSize, Lo_flickers, Lo_ready, Wa_at, Wa_turns, Wa_changes, hJ, hP, hD⟩ := id hC
  refine l_wi (va_runV (As := [.int (xs (nI (i + 1)).toNatClampNeg), .int (xs (nI (i + 2)).toNatClampNeg), .int (xs (nI (i + 3)).toNatClampNeg)]) (rest := []) ⟨hx, hb, hml, hown, hts⟩ (c_X9_product l (n_product hJ)) (kwV 3 hts (inr31 _ (List.mem_of_getElem? (i := 23) rfl)) (inr31 _ (List.mem_of_getElem? (i := 20) rfl)) (inr31 _ (List.mem_of_getElem? (i := 21) rfl)) (inr31 _ (List.mem_of_getElem? (i := 22) rfl)) (inr1 _ (List.mem_of_getElem? (i := 2) rfl)) (by decide +kernel) rfl rfl ⟨Nat.le_of_ble_eq_true rfl, Nat.le_of_ble_eq_true rfl⟩) (preX9w hKC hN hP hD) rfl rfl hl.1 rfl (lv_room (Nat.le_of_ble_eq_true rfl)) dL_law_466 ⟨Nat.le_of_ble_eq_true rfl, Nat.le_of_ble_eq_true rfl⟩) hS hAC (fun rC t H1 locs1 ht hw hk hS => ?_)
  obtain ⟨Cu_seen_, Cu_all_, Lo_asked_, Lo_ones_, Lo_sum_, Lo_wideSize_, Lo_sumSize_, Lo_flickers_, Lo_ready_, hw, hP⟩ := hw
  rw [ht] at hP
  obtain ⟨hwC, hw⟩ := hw
  have hM : iM D qM cM AM z H1 := hM.stay (B := AC) hdis hk
  have hC : iC D qC cC AC z H1 := ⟨Fc_unkept, Fc_tablesRead, Pg_letters, Pg_size, Pg_fault, Pg_rows, Pg_inRow, Pg_width, Fl_entries, Fl_states, Fl_columns, Fl_moves, Fl_stables, Fl_amiss, Fl_normal, Pt_lessers, Pt_greaters, Pt_size, Lc_signals, Lc_kept, Lc_keptFrom, Lc_candidates, Lc_size, Sc_signals, Sc_codes, Sc_size, Ai_codes, Ai_bits, Cu_seen_, Cu_inThrees, Cu_all_, Lo_asked_, Lo_ones_, Lo_sum_, Lo_wideSize_, Lo_sumSize_, Lo_flickers_, Lo_ready_, Wa_at, Wa_turns, Wa_changes, hw, hP, dC hD⟩
  generalize H1 = H at hC hM hS ⊢
  generalize locs1 = locs at hS ⊢
  refine lv_pop hx hb dL_law_469 rfl ?_
  refine lv_aload_n hx hb dL_law_470 rfl (lv_at hl 1 rfl) ?_
  refine lv_aload_n hx hb dL_law_471 rfl (lv_at hl 3 rfl) ?_
  refine lv_iload_n hx hb dL_law_472 rfl (lv_at hl 0 rfl) ?_
  refine lv_iconst (v := (1 : Int32)) hx hb dL_law_473 (by decide) ?_
  refine lv_iadd hx hb dL_law_474 ?_
  rw [show nI i + (1 : Int32) = nI (i + 1) from by rw [show (1 : Int32) = nI 1 from rfl, nI_add]]
  refine va_sld hx hb hX hbl hbA hS (pk_in (i + 1) L (by omega)) dL_law_475 ?_
  refine lv_aload_n hx hb dL_law_476 rfl (lv_at hl 3 rfl) ?_
  refine lv_iload_n hx hb dL_law_477 rfl (lv_at hl 0 rfl) ?_
  refine lv_iconst (v := (2 : Int32)) hx hb dL_law_478 (by decide) ?_
  refine lv_iadd hx hb dL_law_479 ?_
  rw [show nI i + (2 : Int32) = nI (i + 2) from by rw [show (2 : Int32) = nI 2 from rfl, nI_add]]
  refine va_sld hx hb hX hbl hbA hS (pk_in (i + 2) L (by omega)) dL_law_480 ?_
  refine lv_aload_n hx hb dL_law_481 rfl (lv_at hl 3 rfl) ?_
  refine lv_iload_n hx hb dL_law_482 rfl (lv_at hl 0 rfl) ?_
  refine lv_iconst (v := (3 : Int32)) hx hb dL_law_483 (by decide) ?_
  refine lv_iadd hx hb dL_law_484 ?_
  rw [show nI i + (3 : Int32) = nI (i + 3) from by rw [show (3 : Int32) = nI 3 from rfl, nI_add]]
  refine va_sld hx hb hX hbl hbA hS (pk_in (i + 3) L (by omega)) dL_law_485 ?_
  obtain ⟨i_pageLength, a_page, i_states, i_columns, a_entries, i_signals, a_signalAt, i_walksAt, i_turned, i_changed, i_read, i_newRows, i_newEntries, i_newColumns, i_greatest, a_newAt, i_partings, a_lowSet, a_highSet, i_leastMany, a_leastAt, a_tried, a_keptLow, a_keptHigh, i_laid, a_wants, i_wide, a_wideAsked, a_wideOnes, i_sum, i_flickers, a_sumAt, j_h, hJ, hP, hD⟩ := id hM
  refine l_wi (va_runV (As := [.int (xs (nI (i + 1)).toNatClampNeg), .int (xs (nI (i + 2)).toNatClampNeg), .int (xs (nI (i + 3)).toNatClampNeg)]) (rest := []) ⟨hx, hb, hml, hown, hts⟩ (c_X10_product l (m_product hJ)) (kwV 3 hts (inr32 _ (List.mem_of_getElem? (i := 11) rfl)) (inr32 _ (List.mem_of_getElem? (i := 8) rfl)) (inr32 _ (List.mem_of_getElem? (i := 9) rfl)) (inr32 _ (List.mem_of_getElem? (i := 10) rfl)) (inr1 _ (List.mem_of_getElem? (i := 5) rfl)) (by decide +kernel) rfl rfl ⟨Nat.le_of_ble_eq_true rfl, Nat.le_of_ble_eq_true rfl⟩) (preMw hKM hP hD) rfl rfl hl.1 rfl (lv_room (Nat.le_of_ble_eq_true rfl)) dL_law_486 ⟨Nat.le_of_ble_eq_true rfl, Nat.le_of_ble_eq_true rfl⟩) hS hAM (fun rM t H1 locs1 ht hw hk hS => ?_)
  obtain ⟨i_laid_, a_wants_, i_wide_, a_wideAsked_, a_wideOnes_, i_sum_, i_flickers_, a_sumAt_, hw, hP⟩ := hw
  rw [ht] at hP
  obtain ⟨hwM, hw⟩ := hw
  have hC : iC D qC cC AC z H1 := hC.stay (B := AM) (fun a h1 h2 => hdis a h2 h1) hk
  have hM : iM D qM cM AM z H1 := ⟨i_pageLength, a_page, i_states, i_columns, a_entries, i_signals, a_signalAt, i_walksAt, i_turned, i_changed, i_read, i_newRows, i_newEntries, i_newColumns, i_greatest, a_newAt, i_partings, a_lowSet, a_highSet, i_leastMany, a_leastAt, a_tried, a_keptLow, a_keptHigh, i_laid_, a_wants_, i_wide_, a_wideAsked_, a_wideOnes_, i_sum_, i_flickers_, a_sumAt_, j_h, hw, hP, dM hD⟩
  generalize H1 = H at hM hC hS ⊢
  generalize locs1 = locs at hS ⊢
  refine lv_pop hx hb dL_law_489 rfl ?_
  refine lv_goto (tgt := 618) hx hb dL_law_490 (by decide) ?_
  exact kk _ _ _ hC hM hS
set_option maxHeartbeats 4000000 in
set_option maxRecDepth 100000 in
theorem law_15 (C0 : lw_At p s m meth c b L xs) (hN : nwC s) (hKC : va_K D vwCl (tyC cC) s) (hKM : va_K D vwCl (tyM cM) s) (hdis : ∀ a, AC a → ¬ AM a) (hAC : ∀ a, AC a → s.heap.size ≤ a) (hAM : ∀ a, AM a → s.heap.size ≤ a) (hi : i + 4 ≤ L) (hL : L ≤ 2048) (hl : lv_has ls 4 [(3, .int (nI i)), (2, .ref (qM 0)), (1, .ref (qC 0)), (0, .ref b)]) (kk : ∀ (z : AS) (H : Heap) (locs : List Loc), iC D qC cC AC z H → iM D qM cM AM z H → va_S (fun a : Nat => s.heap.size ≤ a) s.heap H locs → W p l e room_1 s m #[Value.ref b] below meth c H locs 57 18427 Q (F0 m 618 ls [])) (hC : iC D qC cC AC z H) (hM : iM D qM cM AM z H) (hS : va_S (fun a : Nat => s.heap.size ≤ a) s.heap H locs) : W p l e room_1 s m #[Value.ref b] below meth c H locs 57 18427 Q (F0 m 493 ls []) := by
  obtain ⟨hx, hb, hr, hml, hown, hts0, hX, hbl, hlocks, hgv⟩ := C0
  have hts : ∀ w ∈ wsL_law, w.before #[Value.ref b] s = true := fun w h => hts0 w (wsL_law_in w h)
  have hbA : ¬ (fun a : Nat => s.heap.size ≤ a) b := Nat.not_le.mpr hbl
  refine lv_aload_n hx hb dL_law_493 rfl (lv_at hl 2 rfl) ?_
  refine lv_aload_n hx hb dL_law_494 rfl (lv_at hl 3 rfl) ?_
  refine lv_iload_n hx hb dL_law_495 rfl (lv_at hl 0 rfl) ?_
  refine lv_iconst (v := (1 : Int32)) hx hb dL_law_496 (by decide) ?_
  refine lv_iadd hx hb dL_law_497 ?_
  rw [show nI i + (1 : Int32) = nI (i + 1) from by rw [show (1 : Int32) = nI 1 from rfl, nI_add]]
  refine va_sld hx hb hX hbl hbA hS (pk_in (i + 1) L (by omega)) dL_law_498 ?_
  refine lv_aload_n hx hb dL_law_499 rfl (lv_at hl 3 rfl) ?_
  refine lv_iload_n hx hb dL_law_500 rfl (lv_at hl 0 rfl) ?_
  refine lv_iconst (v := (2 : Int32)) hx hb dL_law_501 (by decide) ?_
  refine lv_iadd hx hb dL_law_502 ?_
  rw [show nI i + (2 : Int32) = nI (i + 2) from by rw [show (2 : Int32) = nI 2 from rfl, nI_add]]
  refine va_sld hx hb hX hbl hbA hS (pk_in (i + 2) L (by omega)) dL_law_503 ?_
  refine lv_aload_n hx hb dL_law_504 rfl (lv_at hl 3 rfl) ?_
  refine lv_iload_n hx hb dL_law_505 rfl (lv_at hl 0 rfl) ?_
  refine lv_iconst (v := (3 : Int32)) hx hb dL_law_506 (by decide) ?_
  refine lv_iadd hx hb dL_law_507 ?_
  rw [show nI i + (3 : Int32) = nI (i + 3) from by rw [show (3 : Int32) = nI 3 from rfl, nI_add]]
  refine va_sld hx hb hX hbl hbA hS (pk_in (i + 3) L (by omega)) dL_law_508 ?_
  obtain ⟨Fc_unkept, Fc_tablesRead, Pg_letters, Pg_size, Pg_fault, Pg_rows, Pg_inRow, Pg_width, Fl_entries, Fl_states, Fl_columns, Fl_moves, Fl_stables, Fl_amiss, Fl_normal, Pt_lessers, Pt_greaters, Pt_size, Lc_signals, Lc_kept, Lc_keptFrom, Lc_candidates, Lc_size, Sc_signals, Sc_codes, Sc_size, Ai_codes, Ai_bits, Cu_seen, Cu_inThrees, Cu_all, Lo_asked, Lo_ones, Lo_sum, Lo_wideSize, Lo_sumSize, Lo_flickers, Lo_ready, Wa_at, Wa_turns, Wa_changes, hJ, hP, hD⟩ := id hC
  refine l_wi (va_runV (As := [.int (xs (nI (i + 1)).toNatClampNeg), .int (xs (nI (i + 2)).toNatClampNeg), .int (xs (nI (i + 3)).toNatClampNeg)]) (rest := []) ⟨hx, hb, hml, hown, hts⟩ (c_X9_wide l (n_wide hJ)) (kwV 3 hts (inr32 _ (List.mem_of_getElem? (i := 15) rfl)) (inr32 _ (List.mem_of_getElem? (i := 12) rfl)) (inr32 _ (List.mem_of_getElem? (i := 13) rfl)) (inr32 _ (List.mem_of_getElem? (i := 14) rfl)) (inr1 _ (List.mem_of_getElem? (i := 2) rfl)) (by decide +kernel) rfl rfl ⟨Nat.le_of_ble_eq_true rfl, Nat.le_of_ble_eq_true rfl⟩) (preX9w hKC hN hP hD) rfl rfl hl.1 rfl (lv_room (Nat.le_of_ble_eq_true rfl)) dL_law_509 ⟨Nat.le_of_ble_eq_true rfl, Nat.le_of_ble_eq_true rfl⟩) hS hAC (fun rC t H1 locs1 ht hw hk hS => ?_)
  obtain ⟨Cu_seen_, Cu_all_, Lo_asked_, Lo_ones_, Lo_sum_, Lo_wideSize_, Lo_sumSize_, Lo_flickers_, Lo_ready_, hw, hP⟩ := hw
  rw [ht] at hP
  obtain ⟨hwC, hw⟩ := hw
  have hM : iM D qM cM AM z H1 := hM.stay (B := AC) hdis hk
  have hC : iC D qC cC AC z H1 := ⟨Fc_unkept, Fc_tablesRead, Pg_letters, Pg_size, Pg_fault, Pg_rows, Pg_inRow, Pg_width, Fl_entries, Fl_states, Fl_columns, Fl_moves, Fl_stables, Fl_amiss, Fl_normal, Pt_lessers, Pt_greaters, Pt_size, Lc_signals, Lc_kept, Lc_keptFrom, Lc_candidates, Lc_size, Sc_signals, Sc_codes, Sc_size, Ai_codes, Ai_bits, Cu_seen_, Cu_inThrees, Cu_all_, Lo_asked_, Lo_ones_, Lo_sum_, Lo_wideSize_, Lo_sumSize_, Lo_flickers_, Lo_ready_, Wa_at, Wa_turns, Wa_changes, hw, hP, dC hD⟩
  generalize H1 = H at hC hM hS ⊢
  generalize locs1 = locs at hS ⊢
  refine lv_aload_n hx hb dL_law_512 rfl (lv_at hl 1 rfl) ?_
  refine lv_aload_n hx hb dL_law_513 rfl (lv_at hl 3 rfl) ?_
  refine lv_iload_n hx hb dL_law_514 rfl (lv_at hl 0 rfl) ?_
  refine lv_iconst (v := (1 : Int32)) hx hb dL_law_515 (by decide) ?_
  refine lv_iadd hx hb dL_law_516 ?_
  rw [show nI i + (1 : Int32) = nI (i + 1) from by rw [show (1 : Int32) = nI 1 from rfl, nI_add]]
  refine va_sld hx hb hX hbl hbA hS (pk_in (i + 1) L (by omega)) dL_law_517 ?_
  refine lv_aload_n hx hb dL_law_518 rfl (lv_at hl 3 rfl) ?_
  refine lv_iload_n hx hb dL_law_519 rfl (lv_at hl 0 rfl) ?_
  refine lv_iconst (v := (2 : Int32)) hx hb dL_law_520 (by decide) ?_
  refine lv_iadd hx hb dL_law_521 ?_
  rw [show nI i + (2 : Int32) = nI (i + 2) from by rw [show (2 : Int32) = nI 2 from rfl, nI_add]]
  refine va_sld hx hb hX hbl hbA hS (pk_in (i + 2) L (by omega)) dL_law_522 ?_
  refine lv_aload_n hx hb dL_law_523 rfl (lv_at hl 3 rfl) ?_
  refine lv_iload_n hx hb dL_law_524 rfl (lv_at hl 0 rfl) ?_
  refine lv_iconst (v := (3 : Int32)) hx hb dL_law_525 (by decide) ?_
  refine lv_iadd hx hb dL_law_526 ?_
  rw [show nI i + (3 : Int32) = nI (i + 3) from by rw [show (3 : Int32) = nI 3 from rfl, nI_add]]
  refine va_sld hx hb hX hbl hbA hS (pk_in (i + 3) L (by omega)) dL_law_527 ?_
  obtain ⟨i_pageLength, a_page, i_states, i_columns, a_entries, i_signals, a_signalAt, i_walksAt, i_turned, i_changed, i_read, i_newRows, i_newEntries, i_newColumns, i_greatest, a_newAt, i_partings, a_lowSet, a_highSet, i_leastMany, a_leastAt, a_tried, a_keptLow, a_keptHigh, i_laid, a_wants, i_wide, a_wideAsked, a_wideOnes, i_sum, i_flickers, a_sumAt, j_h, hJ, hP, hD⟩ := id hM
  refine l_wi (va_runV (As := [.int (xs (nI (i + 1)).toNatClampNeg), .int (xs (nI (i + 2)).toNatClampNeg), .int (xs (nI (i + 3)).toNatClampNeg)]) (rest := [.int rC]) ⟨hx, hb, hml, hown, hts⟩ (c_X10_wide l (m_wide hJ)) (kwV 3 hts (inr32 _ (List.mem_of_getElem? (i := 20) rfl)) (inr32 _ (List.mem_of_getElem? (i := 17) rfl)) (inr32 _ (List.mem_of_getElem? (i := 18) rfl)) (inr32 _ (List.mem_of_getElem? (i := 19) rfl)) (inr1 _ (List.mem_of_getElem? (i := 5) rfl)) (by decide +kernel) rfl rfl ⟨Nat.le_of_ble_eq_true rfl, Nat.le_of_ble_eq_true rfl⟩) (preMw hKM hP hD) rfl rfl hl.1 rfl (lv_room (Nat.le_of_ble_eq_true rfl)) dL_law_528 ⟨Nat.le_of_ble_eq_true rfl, Nat.le_of_ble_eq_true rfl⟩) hS hAM (fun rM t H1 locs1 ht hw hk hS => ?_)
  obtain ⟨i_laid_, a_wants_, i_wide_, a_wideAsked_, a_wideOnes_, i_sum_, i_flickers_, a_sumAt_, hw, hP⟩ := hw
  rw [ht] at hP
  obtain ⟨hwM, hw⟩ := hw
  have hC : iC D qC cC AC z H1 := hC.stay (B := AM) (fun a h1 h2 => hdis a h2 h1) hk
  have hM : iM D qM cM AM z H1 := ⟨i_pageLength, a_page, i_states, i_columns, a_entries, i_signals, a_signalAt, i_walksAt, i_turned, i_changed, i_read, i_newRows, i_newEntries, i_newColumns, i_greatest, a_newAt, i_partings, a_lowSet, a_highSet, i_leastMany, a_leastAt, a_tried, a_keptLow, a_keptHigh, i_laid_, a_wants_, i_wide_, a_wideAsked_, a_wideOnes_, i_sum_, i_flickers_, a_sumAt_, j_h, hw, hP, dM hD⟩
  generalize H1 = H at hM hC hS ⊢
  generalize locs1 = locs at hS ⊢
  refine lv_icmp_eq (tgt := 618) hx hb dL_law_531 (by decide) (fun _ => kk _ _ _ hC hM hS) (fun c_1 => absurd (hwC.trans hwM.symm) c_1)
set_option maxHeartbeats 4000000 in
set_option maxRecDepth 100000 in
theorem law_16 (C0 : lw_At p s m meth c b L xs) (hN : nwC s) (hKC : va_K D vwCl (tyC cC) s) (hKM : va_K D vwCl (tyM cM) s) (hdis : ∀ a, AC a → ¬ AM a) (hAC : ∀ a, AC a → s.heap.size ≤ a) (hAM : ∀ a, AM a → s.heap.size ≤ a) (hi : i + 4 ≤ L) (hL : L ≤ 2048) (hl : lv_has ls 4 [(3, .int (nI i)), (2, .ref (qM 0)), (1, .ref (qC 0)), (0, .ref b)]) (kk : ∀ (z : AS) (H : Heap) (locs : List Loc), iC D qC cC AC z H → iM D qM cM AM z H → va_S (fun a : Nat => s.heap.size ≤ a) s.heap H locs → W p l e room_1 s m #[Value.ref b] below meth c H locs 57 18427 Q (F0 m 618 ls [])) (hC : iC D qC cC AC z H) (hM : iM D qM cM AM z H) (hS : va_S (fun a : Nat => s.heap.size ≤ a) s.heap H locs) : W p l e room_1 s m #[Value.ref b] below meth c H locs 57 18427 Q (F0 m 536 ls []) := by
  obtain ⟨hx, hb, hr, hml, hown, hts0, hX, hbl, hlocks, hgv⟩ := C0
  have hts : ∀ w ∈ wsL_law, w.before #[Value.ref b] s = true := fun w h => hts0 w (wsL_law_in w h)
  have hbA : ¬ (fun a : Nat => s.heap.size ≤ a) b := Nat.not_le.mpr hbl
  refine lv_aload_n hx hb dL_law_536 rfl (lv_at hl 2 rfl) ?_
  refine lv_aload_n hx hb dL_law_537 rfl (lv_at hl 3 rfl) ?_
  refine lv_iload_n hx hb dL_law_538 rfl (lv_at hl 0 rfl) ?_
  refine lv_iconst (v := (1 : Int32)) hx hb dL_law_539 (by decide) ?_
  refine lv_iadd hx hb dL_law_540 ?_
  rw [show nI i + (1 : Int32) = nI (i + 1) from by rw [show (1 : Int32) = nI 1 from rfl, nI_add]]
  refine va_sld hx hb hX hbl hbA hS (pk_in (i + 1) L (by omega)) dL_law_541 ?_
  obtain ⟨Fc_unkept, Fc_tablesRead, Pg_letters, Pg_size, Pg_fault, Pg_rows, Pg_inRow, Pg_width, Fl_entries, Fl_states, Fl_columns, Fl_moves, Fl_stables, Fl_amiss, Fl_normal, Pt_lessers, Pt_greaters, Pt_size, Lc_signals, Lc_kept, Lc_keptFrom, Lc_candidates, Lc_size, Sc_signals, Sc_codes, Sc_size, Ai_codes, Ai_bits, Cu_seen, Cu_inThrees, Cu_all, Lo_asked, Lo_ones, Lo_sum, Lo_wideSize, Lo_sumSize, Lo_flickers, Lo_ready, Wa_at, Wa_turns, Wa_changes, hJ, hP, hD⟩ := id hC
  refine l_wi (va_runV (As := [.int (xs (nI (i + 1)).toNatClampNeg)]) (rest := []) ⟨hx, hb, hml, hown, hts⟩ (c_X9_walk l (n_walk hJ)) (kwV 1 hts (inr33 _ (List.mem_of_getElem? (i := 0) rfl)) (inr32 _ (List.mem_of_getElem? (i := 21) rfl)) (inr32 _ (List.mem_of_getElem? (i := 22) rfl)) (inr32 _ (List.mem_of_getElem? (i := 23) rfl)) (inr1 _ (List.mem_of_getElem? (i := 2) rfl)) (by decide +kernel) rfl rfl ⟨Nat.le_of_ble_eq_true rfl, Nat.le_of_ble_eq_true rfl⟩) (preX9w hKC hN hP hD) rfl rfl hl.1 rfl (lv_room (Nat.le_of_ble_eq_true rfl)) dL_law_542 ⟨Nat.le_of_ble_eq_true rfl, Nat.le_of_ble_eq_true rfl⟩) hS hAC (fun rC t H1 locs1 ht hw hk hS => ?_)
  obtain ⟨Wa_at_, Wa_turns_, Wa_changes_, hw, hP⟩ := hw
  rw [ht] at hP
  obtain ⟨zC, hRC, hw⟩ := hw
  have hM : iM D qM cM AM z H1 := hM.stay (B := AC) hdis hk
  have hC : iC D qC cC AC zC H1 := ⟨Fc_unkept, Fc_tablesRead, Pg_letters, Pg_size, Pg_fault, Pg_rows, Pg_inRow, Pg_width, Fl_entries, Fl_states, Fl_columns, Fl_moves, Fl_stables, Fl_amiss, Fl_normal, Pt_lessers, Pt_greaters, Pt_size, Lc_signals, Lc_kept, Lc_keptFrom, Lc_candidates, Lc_size, Sc_signals, Sc_codes, Sc_size, Ai_codes, Ai_bits, Cu_seen, Cu_inThrees, Cu_all, Lo_asked, Lo_ones, Lo_sum, Lo_wideSize, Lo_sumSize, Lo_flickers, Lo_ready, Wa_at_, Wa_turns_, Wa_changes_, hw, hP, dC hD⟩
  generalize H1 = H at hC hM hS ⊢
  generalize locs1 = locs at hS ⊢
  refine lv_pop hx hb dL_law_545 rfl ?_
  refine lv_aload_n hx hb dL_law_546 rfl (lv_at hl 1 rfl) ?_
  refine lv_aload_n hx hb dL_law_547 rfl (lv_at hl 3 rfl) ?_
  refine lv_iload_n hx hb dL_law_548 rfl (lv_at hl 0 rfl) ?_
  refine lv_iconst (v := (1 : Int32)) hx hb dL_law_549 (by decide) ?_
  refine lv_iadd hx hb dL_law_550 ?_
  rw [show nI i + (1 : Int32) = nI (i + 1) from by rw [show (1 : Int32) = nI 1 from rfl, nI_add]]
  refine va_sld hx hb hX hbl hbA hS (pk_in (i + 1) L (by omega)) dL_law_551 ?_
  obtain ⟨i_pageLength, a_page, i_states, i_columns, a_entries, i_signals, a_signalAt, i_walksAt, i_turned, i_changed, i_read, i_newRows, i_newEntries, i_newColumns, i_greatest, a_newAt, i_partings, a_lowSet, a_highSet, i_leastMany, a_leastAt, a_tried, a_keptLow, a_keptHigh, i_laid, a_wants, i_wide, a_wideAsked, a_wideOnes, i_sum, i_flickers, a_sumAt, j_h, hJ, hP, hD⟩ := id hM
  refine l_wi (va_runV (As := [.int (xs (nI (i + 1)).toNatClampNeg)]) (rest := []) ⟨hx, hb, hml, hown, hts⟩ (c_X10_walk l (m_walk hJ)) (kwV 1 hts (inr33 _ (List.mem_of_getElem? (i := 4) rfl)) (inr33 _ (List.mem_of_getElem? (i := 1) rfl)) (inr33 _ (List.mem_of_getElem? (i := 2) rfl)) (inr33 _ (List.mem_of_getElem? (i := 3) rfl)) (inr1 _ (List.mem_of_getElem? (i := 5) rfl)) (by decide +kernel) rfl rfl ⟨Nat.le_of_ble_eq_true rfl, Nat.le_of_ble_eq_true rfl⟩) (preMw hKM hP hD) rfl rfl hl.1 rfl (lv_room (Nat.le_of_ble_eq_true rfl)) dL_law_552 ⟨Nat.le_of_ble_eq_true rfl, Nat.le_of_ble_eq_true rfl⟩) hS hAM (fun rM t H1 locs1 ht hw hk hS => ?_)
  obtain ⟨i_walksAt_, i_turned_, i_changed_, hw, hP⟩ := hw
  rw [ht] at hP
  obtain ⟨zM, hRM, hw⟩ := hw
  have hC : iC D qC cC AC zC H1 := hC.stay (B := AM) (fun a h1 h2 => hdis a h2 h1) hk
  have hM : iM D qM cM AM zM H1 := ⟨i_pageLength, a_page, i_states, i_columns, a_entries, i_signals, a_signalAt, i_walksAt_, i_turned_, i_changed_, i_read, i_newRows, i_newEntries, i_newColumns, i_greatest, a_newAt, i_partings, a_lowSet, a_highSet, i_leastMany, a_leastAt, a_tried, a_keptLow, a_keptHigh, i_laid, a_wants, i_wide, a_wideAsked, a_wideOnes, i_sum, i_flickers, a_sumAt, j_h, hw, hP, dM hD⟩
  obtain ⟨eA, eZ⟩ := WALR_eq hRC hRM
  rw [← eZ] at hM
  generalize H1 = H at hM hC hS ⊢
  generalize locs1 = locs at hS ⊢
  refine lv_pop hx hb dL_law_555 rfl ?_
  refine lv_goto (tgt := 618) hx hb dL_law_556 (by decide) ?_
  exact kk _ _ _ hC hM hS
set_option maxHeartbeats 4000000 in
set_option maxRecDepth 100000 in
theorem law_17 (C0 : lw_At p s m meth c b L xs) (hN : nwC s) (hKC : va_K D vwCl (tyC cC) s) (hKM : va_K D vwCl (tyM cM) s) (hdis : ∀ a, AC a → ¬ AM a) (hAC : ∀ a, AC a → s.heap.size ≤ a) (hAM : ∀ a, AM a → s.heap.size ≤ a) (hi : i + 4 ≤ L) (hL : L ≤ 2048) (hl : lv_has ls 4 [(3, .int (nI i)), (2, .ref (qM 0)), (1, .ref (qC 0)), (0, .ref b)]) (kk : ∀ (z : AS) (H : Heap) (locs : List Loc), iC D qC cC AC z H → iM D qM cM AM z H → va_S (fun a : Nat => s.heap.size ≤ a) s.heap H locs → W p l e room_1 s m #[Value.ref b] below meth c H locs 57 18427 Q (F0 m 618 ls [])) (hC : iC D qC cC AC z H) (hM : iM D qM cM AM z H) (hS : va_S (fun a : Nat => s.heap.size ≤ a) s.heap H locs) : W p l e room_1 s m #[Value.ref b] below meth c H locs 57 18427 Q (F0 m 559 ls []) := by
  obtain ⟨hx, hb, hr, hml, hown, hts0, hX, hbl, hlocks, hgv⟩ := C0
  have hts : ∀ w ∈ wsL_law, w.before #[Value.ref b] s = true := fun w h => hts0 w (wsL_law_in w h)
  have hbA : ¬ (fun a : Nat => s.heap.size ≤ a) b := Nat.not_le.mpr hbl
  refine lv_aload_n hx hb dL_law_559 rfl (lv_at hl 2 rfl) ?_
  refine lv_aload_n hx hb dL_law_560 rfl (lv_at hl 3 rfl) ?_
  refine lv_iload_n hx hb dL_law_561 rfl (lv_at hl 0 rfl) ?_
  refine lv_iconst (v := (1 : Int32)) hx hb dL_law_562 (by decide) ?_
  refine lv_iadd hx hb dL_law_563 ?_
  rw [show nI i + (1 : Int32) = nI (i + 1) from by rw [show (1 : Int32) = nI 1 from rfl, nI_add]]
  refine va_sld hx hb hX hbl hbA hS (pk_in (i + 1) L (by omega)) dL_law_564 ?_
  obtain ⟨Fc_unkept, Fc_tablesRead, Pg_letters, Pg_size, Pg_fault, Pg_rows, Pg_inRow, Pg_width, Fl_entries, Fl_states, Fl_columns, Fl_moves, Fl_stables, Fl_amiss, Fl_normal, Pt_lessers, Pt_greaters, Pt_size, Lc_signals, Lc_kept, Lc_keptFrom, Lc_candidates, Lc_size, Sc_signals, Sc_codes, Sc_size, Ai_codes, Ai_bits, Cu_seen, Cu_inThrees, Cu_all, Lo_asked, Lo_ones, Lo_sum, Lo_wideSize, Lo_sumSize, Lo_flickers, Lo_ready, Wa_at, Wa_turns, Wa_changes, hJ, hP, hD⟩ := id hC
  have hWK := hJ.2.1.2.2.2.2.2.2.2.2
  refine l_wi (va_runV (As := [.int (xs (nI (i + 1)).toNatClampNeg)]) (rest := []) ⟨hx, hb, hml, hown, hts⟩ (c_X9_turn l (n_turn hJ)) (kwV 1 hts (inr33 _ (List.mem_of_getElem? (i := 8) rfl)) (inr33 _ (List.mem_of_getElem? (i := 5) rfl)) (inr33 _ (List.mem_of_getElem? (i := 6) rfl)) (inr33 _ (List.mem_of_getElem? (i := 7) rfl)) (inr1 _ (List.mem_of_getElem? (i := 2) rfl)) (by decide +kernel) rfl rfl ⟨Nat.le_of_ble_eq_true rfl, Nat.le_of_ble_eq_true rfl⟩) (preX9w hKC hN hP hD) rfl rfl hl.1 rfl (lv_room (Nat.le_of_ble_eq_true rfl)) dL_law_565 ⟨Nat.le_of_ble_eq_true rfl, Nat.le_of_ble_eq_true rfl⟩) hS hAC (fun rC t H1 locs1 ht hw hk hS => ?_)
  obtain ⟨Wa_at_, Wa_turns_, Wa_changes_, hw, hP⟩ := hw
  rw [ht] at hP
  obtain ⟨zC, hRC, hw⟩ := hw
  have hM : iM D qM cM AM z H1 := hM.stay (B := AC) hdis hk
  have hC : iC D qC cC AC zC H1 := ⟨Fc_unkept, Fc_tablesRead, Pg_letters, Pg_size, Pg_fault, Pg_rows, Pg_inRow, Pg_width, Fl_entries, Fl_states, Fl_columns, Fl_moves, Fl_stables, Fl_amiss, Fl_normal, Pt_lessers, Pt_greaters, Pt_size, Lc_signals, Lc_kept, Lc_keptFrom, Lc_candidates, Lc_size, Sc_signals, Sc_codes, Sc_size, Ai_codes, Ai_bits, Cu_seen, Cu_inThrees, Cu_all, Lo_asked, Lo_ones, Lo_sum, Lo_wideSize, Lo_sumSize, Lo_flickers, Lo_ready, Wa_at_, Wa_turns_, Wa_changes_, hw, hP, dC hD⟩
  generalize H1 = H at hC hM hS ⊢
  generalize locs1 = locs at hS ⊢
  refine lv_pop hx hb dL_law_568 rfl ?_
  refine lv_aload_n hx hb dL_law_569 rfl (lv_at hl 1 rfl) ?_
  refine lv_aload_n hx hb dL_law_570 rfl (lv_at hl 3 rfl) ?_
  refine lv_iload_n hx hb dL_law_571 rfl (lv_at hl 0 rfl) ?_
  refine lv_iconst (v := (1 : Int32)) hx hb dL_law_572 (by decide) ?_
  refine lv_iadd hx hb dL_law_573 ?_
  rw [show nI i + (1 : Int32) = nI (i + 1) from by rw [show (1 : Int32) = nI 1 from rfl, nI_add]]
  refine va_sld hx hb hX hbl hbA hS (pk_in (i + 1) L (by omega)) dL_law_574 ?_
  obtain ⟨i_pageLength, a_page, i_states, i_columns, a_entries, i_signals, a_signalAt, i_walksAt, i_turned, i_changed, i_read, i_newRows, i_newEntries, i_newColumns, i_greatest, a_newAt, i_partings, a_lowSet, a_highSet, i_leastMany, a_leastAt, a_tried, a_keptLow, a_keptHigh, i_laid, a_wants, i_wide, a_wideAsked, a_wideOnes, i_sum, i_flickers, a_sumAt, j_h, hJ, hP, hD⟩ := id hM
  refine l_wi (va_runV (As := [.int (xs (nI (i + 1)).toNatClampNeg)]) (rest := []) ⟨hx, hb, hml, hown, hts⟩ (c_X10_turn l (m_turn hJ)) (kwV 1 hts (inr33 _ (List.mem_of_getElem? (i := 17) rfl)) (inr33 _ (List.mem_of_getElem? (i := 14) rfl)) (inr33 _ (List.mem_of_getElem? (i := 15) rfl)) (inr33 _ (List.mem_of_getElem? (i := 16) rfl)) (inr1 _ (List.mem_of_getElem? (i := 5) rfl)) (by decide +kernel) rfl rfl ⟨Nat.le_of_ble_eq_true rfl, Nat.le_of_ble_eq_true rfl⟩) (preMw hKM hP hD) rfl rfl hl.1 rfl (lv_room (Nat.le_of_ble_eq_true rfl)) dL_law_575 ⟨Nat.le_of_ble_eq_true rfl, Nat.le_of_ble_eq_true rfl⟩) hS hAM (fun rM t H1 locs1 ht hw hk hS => ?_)
  obtain ⟨i_walksAt_, i_turned_, i_changed_, hw, hP⟩ := hw
  rw [ht] at hP
  obtain ⟨zM, hRM, hw⟩ := hw
  have hC : iC D qC cC AC zC H1 := hC.stay (B := AM) (fun a h1 h2 => hdis a h2 h1) hk
  have hM : iM D qM cM AM zM H1 := ⟨i_pageLength, a_page, i_states, i_columns, a_entries, i_signals, a_signalAt, i_walksAt_, i_turned_, i_changed_, i_read, i_newRows, i_newEntries, i_newColumns, i_greatest, a_newAt, i_partings, a_lowSet, a_highSet, i_leastMany, a_leastAt, a_tried, a_keptLow, a_keptHigh, i_laid, a_wants, i_wide, a_wideAsked, a_wideOnes, i_sum, i_flickers, a_sumAt, j_h, hw, hP, dM hD⟩
  obtain ⟨eA, eZ⟩ := TURR_eq hWK hRC hRM
  rw [← eZ] at hM
  generalize H1 = H at hM hC hS ⊢
  generalize locs1 = locs at hS ⊢
  refine lv_pop hx hb dL_law_578 rfl ?_
  refine lv_goto (tgt := 618) hx hb dL_law_579 (by decide) ?_
  exact kk _ _ _ hC hM hS
set_option maxHeartbeats 4000000 in
set_option maxRecDepth 100000 in
theorem law_18 (C0 : lw_At p s m meth c b L xs) (hN : nwC s) (hKC : va_K D vwCl (tyC cC) s) (hKM : va_K D vwCl (tyM cM) s) (hdis : ∀ a, AC a → ¬ AM a) (hAC : ∀ a, AC a → s.heap.size ≤ a) (hAM : ∀ a, AM a → s.heap.size ≤ a) (hi : i + 4 ≤ L) (hL : L ≤ 2048) (hl : lv_has ls 4 [(3, .int (nI i)), (2, .ref (qM 0)), (1, .ref (qC 0)), (0, .ref b)]) (kk : ∀ (z : AS) (H : Heap) (locs : List Loc), iC D qC cC AC z H → iM D qM cM AM z H → va_S (fun a : Nat => s.heap.size ≤ a) s.heap H locs → W p l e room_1 s m #[Value.ref b] below meth c H locs 57 18427 Q (F0 m 618 ls [])) (hC : iC D qC cC AC z H) (hM : iM D qM cM AM z H) (hS : va_S (fun a : Nat => s.heap.size ≤ a) s.heap H locs) : W p l e room_1 s m #[Value.ref b] below meth c H locs 57 18427 Q (F0 m 582 ls []) := by
  obtain ⟨hx, hb, hr, hml, hown, hts0, hX, hbl, hlocks, hgv⟩ := C0
  have hts : ∀ w ∈ wsL_law, w.before #[Value.ref b] s = true := fun w h => hts0 w (wsL_law_in w h)
  have hbA : ¬ (fun a : Nat => s.heap.size ≤ a) b := Nat.not_le.mpr hbl
  refine lv_aload_n hx hb dL_law_582 rfl (lv_at hl 2 rfl) ?_
  refine lv_aload_n hx hb dL_law_583 rfl (lv_at hl 3 rfl) ?_
  refine lv_iload_n hx hb dL_law_584 rfl (lv_at hl 0 rfl) ?_
  refine lv_iconst (v := (1 : Int32)) hx hb dL_law_585 (by decide) ?_
  refine lv_iadd hx hb dL_law_586 ?_
  rw [show nI i + (1 : Int32) = nI (i + 1) from by rw [show (1 : Int32) = nI 1 from rfl, nI_add]]
  refine va_sld hx hb hX hbl hbA hS (pk_in (i + 1) L (by omega)) dL_law_587 ?_
  obtain ⟨Fc_unkept, Fc_tablesRead, Pg_letters, Pg_size, Pg_fault, Pg_rows, Pg_inRow, Pg_width, Fl_entries, Fl_states, Fl_columns, Fl_moves, Fl_stables, Fl_amiss, Fl_normal, Pt_lessers, Pt_greaters, Pt_size, Lc_signals, Lc_kept, Lc_keptFrom, Lc_candidates, Lc_size, Sc_signals, Sc_codes, Sc_size, Ai_codes, Ai_bits, Cu_seen, Cu_inThrees, Cu_all, Lo_asked, Lo_ones, Lo_sum, Lo_wideSize, Lo_sumSize, Lo_flickers, Lo_ready, Wa_at, Wa_turns, Wa_changes, hJ, hP, hD⟩ := id hC
  refine ro_i (va_runV (As := [.int (xs (nI (i + 1)).toNatClampNeg)]) (rest := []) ⟨hx, hb, hml, hown, hts⟩ (c_X9_count l (n_count hJ)) (kwV 1 hts (inr33 _ (List.mem_of_getElem? (i := 21) rfl)) (inr33 _ (List.mem_of_getElem? (i := 18) rfl)) (inr33 _ (List.mem_of_getElem? (i := 19) rfl)) (inr33 _ (List.mem_of_getElem? (i := 20) rfl)) (inr1 _ (List.mem_of_getElem? (i := 2) rfl)) (by decide +kernel) rfl rfl ⟨Nat.le_of_ble_eq_true rfl, Nat.le_of_ble_eq_true rfl⟩) (preX9 hKC hN hP) rfl rfl hl.1 rfl (lv_room (Nat.le_of_ble_eq_true rfl)) dL_law_588 ⟨Nat.le_of_ble_eq_true rfl, Nat.le_of_ble_eq_true rfl⟩) (fun rC hwC => ?_)
  refine lv_pop hx hb dL_law_591 rfl ?_
  refine lv_aload_n hx hb dL_law_592 rfl (lv_at hl 1 rfl) ?_
  refine lv_aload_n hx hb dL_law_593 rfl (lv_at hl 3 rfl) ?_
  refine lv_iload_n hx hb dL_law_594 rfl (lv_at hl 0 rfl) ?_
  refine lv_iconst (v := (1 : Int32)) hx hb dL_law_595 (by decide) ?_
  refine lv_iadd hx hb dL_law_596 ?_
  rw [show nI i + (1 : Int32) = nI (i + 1) from by rw [show (1 : Int32) = nI 1 from rfl, nI_add]]
  refine va_sld hx hb hX hbl hbA hS (pk_in (i + 1) L (by omega)) dL_law_597 ?_
  obtain ⟨i_pageLength, a_page, i_states, i_columns, a_entries, i_signals, a_signalAt, i_walksAt, i_turned, i_changed, i_read, i_newRows, i_newEntries, i_newColumns, i_greatest, a_newAt, i_partings, a_lowSet, a_highSet, i_leastMany, a_leastAt, a_tried, a_keptLow, a_keptHigh, i_laid, a_wants, i_wide, a_wideAsked, a_wideOnes, i_sum, i_flickers, a_sumAt, j_h, hJ, hP, hD⟩ := id hM
  refine ro_i (va_runV (As := [.int (xs (nI (i + 1)).toNatClampNeg)]) (rest := []) ⟨hx, hb, hml, hown, hts⟩ (c_X10_count l (m_count hJ)) (kwV 1 hts (inr34 _ (List.mem_of_getElem? (i := 1) rfl)) (inr33 _ (List.mem_of_getElem? (i := 22) rfl)) (inr33 _ (List.mem_of_getElem? (i := 23) rfl)) (inr34 _ (List.mem_of_getElem? (i := 0) rfl)) (inr1 _ (List.mem_of_getElem? (i := 5) rfl)) (by decide +kernel) rfl rfl ⟨Nat.le_of_ble_eq_true rfl, Nat.le_of_ble_eq_true rfl⟩) (preM hKM hP) rfl rfl hl.1 rfl (lv_room (Nat.le_of_ble_eq_true rfl)) dL_law_598 ⟨Nat.le_of_ble_eq_true rfl, Nat.le_of_ble_eq_true rfl⟩) (fun rM hwM => ?_)
  refine lv_pop hx hb dL_law_601 rfl ?_
  refine lv_goto (tgt := 618) hx hb dL_law_602 (by decide) ?_
  exact kk _ _ _ hC hM hS
set_option maxHeartbeats 4000000 in
set_option maxRecDepth 100000 in
theorem law_19 (C0 : lw_At p s m meth c b L xs) (hN : nwC s) (hKC : va_K D vwCl (tyC cC) s) (hKM : va_K D vwCl (tyM cM) s) (hdis : ∀ a, AC a → ¬ AM a) (hAC : ∀ a, AC a → s.heap.size ≤ a) (hAM : ∀ a, AM a → s.heap.size ≤ a) (hi : i + 4 ≤ L) (hL : L ≤ 2048) (hl : lv_has ls 4 [(3, .int (nI i)), (2, .ref (qM 0)), (1, .ref (qC 0)), (0, .ref b)]) (kk : ∀ (z : AS) (H : Heap) (locs : List Loc), iC D qC cC AC z H → iM D qM cM AM z H → va_S (fun a : Nat => s.heap.size ≤ a) s.heap H locs → W p l e room_1 s m #[Value.ref b] below meth c H locs 57 18427 Q (F0 m 618 ls [])) (hC : iC D qC cC AC z H) (hM : iM D qM cM AM z H) (hS : va_S (fun a : Nat => s.heap.size ≤ a) s.heap H locs) : W p l e room_1 s m #[Value.ref b] below meth c H locs 57 18427 Q (F0 m 605 ls []) := by
  obtain ⟨hx, hb, hr, hml, hown, hts0, hX, hbl, hlocks, hgv⟩ := C0
  have hts : ∀ w ∈ wsL_law, w.before #[Value.ref b] s = true := fun w h => hts0 w (wsL_law_in w h)
  have hbA : ¬ (fun a : Nat => s.heap.size ≤ a) b := Nat.not_le.mpr hbl
  refine lv_aload_n hx hb dL_law_605 rfl (lv_at hl 2 rfl) ?_
  obtain ⟨Fc_unkept, Fc_tablesRead, Pg_letters, Pg_size, Pg_fault, Pg_rows, Pg_inRow, Pg_width, Fl_entries, Fl_states, Fl_columns, Fl_moves, Fl_stables, Fl_amiss, Fl_normal, Pt_lessers, Pt_greaters, Pt_size, Lc_signals, Lc_kept, Lc_keptFrom, Lc_candidates, Lc_size, Sc_signals, Sc_codes, Sc_size, Ai_codes, Ai_bits, Cu_seen, Cu_inThrees, Cu_all, Lo_asked, Lo_ones, Lo_sum, Lo_wideSize, Lo_sumSize, Lo_flickers, Lo_ready, Wa_at, Wa_turns, Wa_changes, hJ, hP, hD⟩ := id hC
  refine l_wl (va_runV (As := []) (rest := []) ⟨hx, hb, hml, hown, hts⟩ (c_X9_digest l (n_digest hJ)) (kwV 0 hts (inr34 _ (List.mem_of_getElem? (i := 9) rfl)) (inr34 _ (List.mem_of_getElem? (i := 6) rfl)) (inr34 _ (List.mem_of_getElem? (i := 7) rfl)) (inr34 _ (List.mem_of_getElem? (i := 8) rfl)) (inr1 _ (List.mem_of_getElem? (i := 2) rfl)) (by decide +kernel) rfl rfl ⟨Nat.le_of_ble_eq_true rfl, Nat.le_of_ble_eq_true rfl⟩) (preX9w hKC hN hP hD) rfl rfl hl.1 rfl (lv_room (Nat.le_of_ble_eq_true rfl)) dL_law_606 ⟨Nat.le_of_ble_eq_true rfl, Nat.le_of_ble_eq_true rfl⟩) hS hAC (fun rC t H1 locs1 ht hw hk hS => ?_)
  obtain ⟨Cu_seen_, Cu_all_, Lo_asked_, Lo_ones_, Lo_sum_, Lo_wideSize_, Lo_sumSize_, Lo_flickers_, Lo_ready_, hw, hP⟩ := hw
  rw [ht] at hP
  have hM : iM D qM cM AM z H1 := hM.stay (B := AC) hdis hk
  have hC : iC D qC cC AC z H1 := ⟨Fc_unkept, Fc_tablesRead, Pg_letters, Pg_size, Pg_fault, Pg_rows, Pg_inRow, Pg_width, Fl_entries, Fl_states, Fl_columns, Fl_moves, Fl_stables, Fl_amiss, Fl_normal, Pt_lessers, Pt_greaters, Pt_size, Lc_signals, Lc_kept, Lc_keptFrom, Lc_candidates, Lc_size, Sc_signals, Sc_codes, Sc_size, Ai_codes, Ai_bits, Cu_seen_, Cu_inThrees, Cu_all_, Lo_asked_, Lo_ones_, Lo_sum_, Lo_wideSize_, Lo_sumSize_, Lo_flickers_, Lo_ready_, Wa_at, Wa_turns, Wa_changes, hw, hP, dC hD⟩
  generalize H1 = H at hC hM hS ⊢
  generalize locs1 = locs at hS ⊢
  refine lv_pop2_2 hx hb dL_law_609 rfl ?_
  refine lv_aload_n hx hb dL_law_610 rfl (lv_at hl 1 rfl) ?_
  obtain ⟨i_pageLength, a_page, i_states, i_columns, a_entries, i_signals, a_signalAt, i_walksAt, i_turned, i_changed, i_read, i_newRows, i_newEntries, i_newColumns, i_greatest, a_newAt, i_partings, a_lowSet, a_highSet, i_leastMany, a_leastAt, a_tried, a_keptLow, a_keptHigh, i_laid, a_wants, i_wide, a_wideAsked, a_wideOnes, i_sum, i_flickers, a_sumAt, j_h, hJ, hP, hD⟩ := id hM
  refine l_wl (va_runV (As := []) (rest := []) ⟨hx, hb, hml, hown, hts⟩ (c_X10_digest l (m_digest hJ)) (kwV 0 hts (inr35 _ (List.mem_of_getElem? (i := 12) rfl)) (inr35 _ (List.mem_of_getElem? (i := 9) rfl)) (inr35 _ (List.mem_of_getElem? (i := 10) rfl)) (inr35 _ (List.mem_of_getElem? (i := 11) rfl)) (inr1 _ (List.mem_of_getElem? (i := 5) rfl)) (by decide +kernel) rfl rfl ⟨Nat.le_of_ble_eq_true rfl, Nat.le_of_ble_eq_true rfl⟩) (preMw hKM hP hD) rfl rfl hl.1 rfl (lv_room (Nat.le_of_ble_eq_true rfl)) dL_law_611 ⟨Nat.le_of_ble_eq_true rfl, Nat.le_of_ble_eq_true rfl⟩) hS hAM (fun rM t H1 locs1 ht hw hk hS => ?_)
  obtain ⟨i_laid_, a_wants_, i_wide_, a_wideAsked_, a_wideOnes_, i_sum_, i_flickers_, a_sumAt_, j_h_, hw, hP⟩ := hw
  rw [ht] at hP
  have hC : iC D qC cC AC z H1 := hC.stay (B := AM) (fun a h1 h2 => hdis a h2 h1) hk
  have hM : iM D qM cM AM z H1 := ⟨i_pageLength, a_page, i_states, i_columns, a_entries, i_signals, a_signalAt, i_walksAt, i_turned, i_changed, i_read, i_newRows, i_newEntries, i_newColumns, i_greatest, a_newAt, i_partings, a_lowSet, a_highSet, i_leastMany, a_leastAt, a_tried, a_keptLow, a_keptHigh, i_laid_, a_wants_, i_wide_, a_wideAsked_, a_wideOnes_, i_sum_, i_flickers_, a_sumAt_, j_h_, hw, hP, dM hD⟩
  generalize H1 = H at hM hC hS ⊢
  generalize locs1 = locs at hS ⊢
  refine lv_pop2_2 hx hb dL_law_614 rfl ?_
  refine lv_goto (tgt := 618) hx hb dL_law_615 (by decide) ?_
  exact kk _ _ _ hC hM hS
end CASES
