def bI (n : Nat) (x : Int32) : Prop := ∃ k, k ≤ n ∧ x = nI k
/-- the page -/
def jP (v : Nat → Nat) (pl : Nat) (sz : Int32) (lt : Nat → Int32) : Prop := pl ≤ 40 ∧ sz = nI pl ∧ ∀ i, i < pl → lt i = nI (v i) ∧ v i < 128
/-- the class -/
def jC (v : Nat → Nat) (pl : Nat) (lt : Nat → Int32) (sz st co pz lz gz bz : Int32) (it : Nat → Int32) (sm : Nat → Nat → Int32) (wd ss : Nat → Int32) : Prop := jP v pl sz lt ∧ bI 6 st ∧ bI 4 co ∧ bI 75 pz ∧ bI 5 lz ∧ bI 5 gz ∧ bI 7 bz ∧ (∀ k, k < 128 → it k = nI (t3 k)) ∧ loK sm wd ss
/-- the reference -/
def jM (v : Nat → Nat) (pl : Nat) (sz : Int32) (pg : Nat → Int32) (st co : Int32) (en : Nat → Int32) (g wa pn lm wd sm : Int32) (sa : Nat → Int32) : Prop := jP v pl sz pg ∧ (∃ s c, st = nI s ∧ co = nI c ∧ tabM s c en ∧ wkM s wa) ∧ bI 5 g ∧ bI 75 pn ∧ lmM lm ∧ ∃ w k, wd = nI w ∧ sm = nI k ∧ smM w k sa ∧ k ≤ 576
/-- a letter comes onto the page, or not -/
def LET (v : Nat → Nat) (pl : Nat) (x : Int32) (v1 : Nat → Nat) (pl1 : Nat) : Prop := (¬ (pl < 40 ∧ ∃ w, 32 ≤ w ∧ w ≤ 126 ∧ x = nI w) → v1 = v ∧ pl1 = pl) ∧ ∀ w, pl < 40 → 32 ≤ w → w ≤ 126 → x = nI w → v1 = (fun i => if i = pl then w else v i) ∧ pl1 = pl + 1
theorem LET_ex (v : Nat → Nat) (pl : Nat) (x : Int32) : ∃ v1 pl1, LET v pl x v1 pl1 := by
  by_cases h : pl < 40 ∧ ∃ w, 32 ≤ w ∧ w ≤ 126 ∧ x = nI w
  · obtain ⟨h0, w, h1, h2, e⟩ := id h
    refine ⟨fun i => if i = pl then w else v i, pl + 1, fun q => absurd h q, fun w' _ h3 h4 e' => ?_⟩
    have : w' = w := by
      have q := congrArg Int32.toInt (e'.symm.trans e)
      rw [nI_toInt (show w' < 2 ^ 31 by omega), nI_toInt (show w < 2 ^ 31 by omega)] at q
      omega
    subst this
    exact ⟨rfl, rfl⟩
  · exact ⟨v, pl, fun _ => ⟨rfl, rfl⟩, fun w h0 h1 h2 e => absurd ⟨h0, w, h1, h2, e⟩ h⟩
/-- the page is read, or not -/
def TAB (v : Nat → Nat) (pl pl1 : Nat) : Prop := (tabOK v pl → pl1 = 0) ∧ (¬ tabOK v pl → pl1 = pl)
theorem TAB_ex (v : Nat → Nat) (pl : Nat) : ∃ pl1, TAB v pl pl1 := by
  by_cases h : tabOK v pl
  · exact ⟨0, fun _ => rfl, fun q => absurd h q⟩
  · exact ⟨pl, fun q => absurd q h, fun _ => rfl⟩
theorem TAB_eq {v : Nat → Nat} {pl a b : Nat} (h : TAB v pl a) (h1 : tabOK v pl → b = 0) (h2 : ¬ tabOK v pl → b = pl) : b = a := by
  by_cases q : tabOK v pl
  · rw [h1 q, h.1 q]
  · rw [h2 q, h.2 q]
theorem jP.sub {v : Nat → Nat} {pl pl1 : Nat} {lt : Nat → Int32} {x : Int32} (h : jP v pl x lt) (h1 : pl1 ≤ pl) : jP v pl1 (nI pl1) lt := ⟨Nat.le_trans h1 h.1, rfl, fun i hi => h.2.2 i (by omega)⟩
theorem TAB_le {v : Nat → Nat} {pl a : Nat} (h : TAB v pl a) : a ≤ pl := by
  by_cases q : tabOK v pl
  · rw [h.1 q]; exact Nat.zero_le _
  · rw [h.2 q]; exact Nat.le_refl _
theorem jP.push {v : Nat → Nat} {pl w : Nat} {lt : Nat → Int32} {x y : Int32} (h : jP v pl y lt) (h0 : pl < 40) (hw : w ≤ 126) (e : x = nI w) : jP (fun i => if i = pl then w else v i) (pl + 1) (nI (pl + 1)) (upd lt pl x) := ⟨by omega, rfl, fun i hi => by
  by_cases ei : i = pl
  · subst ei
    rw [pk_us]
    dsimp only
    rw [if_pos rfl, e]
    exact ⟨rfl, by omega⟩
  · rw [pk_un ei]
    dsimp only
    rw [if_neg ei]
    exact h.2.2 i (by omega)⟩
section STEPS
variable {v v1 : Nat → Nat} {pl pl1 : Nat} {x1 x2 x3 : Int32}
variable {Fc_unkept : Int32} {Fc_tablesRead : Int32} {Pg_letters : Nat → Int32} {Pg_size : Int32} {Pg_fault : Int32} {Pg_rows : Int32} {Pg_inRow : Int32} {Pg_width : Int32} {Fl_entries : Nat → Int32} {Fl_states : Int32} {Fl_columns : Int32} {Fl_moves : Int32} {Fl_stables : Int32} {Fl_amiss : Int32} {Fl_normal : Int32} {Pt_lessers : Nat → Int32} {Pt_greaters : Nat → Int32} {Pt_size : Int32} {Lc_signals : Nat → Int32} {Lc_kept : Nat → Int64} {Lc_keptFrom : Nat → Int64} {Lc_candidates : Int32} {Lc_size : Int32} {Sc_signals : Nat → Int32} {Sc_codes : Nat → Int32} {Sc_size : Int32} {Ai_codes : Nat → Int32} {Ai_bits : Int32} {Cu_seen : Nat → Int32} {Cu_inThrees : Nat → Int32} {Cu_all : Int32} {Lo_asked : Nat → Nat → Int32} {Lo_ones : Nat → Nat → Int32} {Lo_sum : Nat → Nat → Int32} {Lo_wideSize : Nat → Int32} {Lo_sumSize : Nat → Int32} {Lo_flickers : Nat → Int32} {Lo_ready : Nat → Int32} {Wa_at : Int32} {Wa_turns : Int32} {Wa_changes : Int32}
variable {i_pageLength : Int32} {a_page : Nat → Int32} {i_states : Int32} {i_columns : Int32} {a_entries : Nat → Int32} {i_signals : Int32} {a_signalAt : Nat → Int32} {i_walksAt : Int32} {i_turned : Int32} {i_changed : Int32} {i_read : Int32} {i_newRows : Int32} {i_newEntries : Int32} {i_newColumns : Int32} {i_greatest : Int32} {a_newAt : Nat → Int32} {i_partings : Int32} {a_lowSet : Nat → Int32} {a_highSet : Nat → Int32} {i_leastMany : Int32} {a_leastAt : Nat → Int32} {a_tried : Nat → Int32} {a_keptLow : Nat → Int64} {a_keptHigh : Nat → Int64} {i_laid : Int32} {a_wants : Nat → Int32} {i_wide : Int32} {a_wideAsked : Nat → Int32} {a_wideOnes : Nat → Int32} {i_sum : Int32} {i_flickers : Int32} {a_sumAt : Nat → Int32} {j_h : Int64}
theorem n_letter (hE : LET v pl x1 v1 pl1) (h : jC v pl Pg_letters Pg_size Fl_states Fl_columns Pt_size Lc_size Sc_size Ai_bits Cu_inThrees Lo_sum Lo_wideSize Lo_sumSize) : wp_X9_letter (fun r Pg_letters_ Pg_size_ => jC v1 pl1 Pg_letters_ Pg_size_ Fl_states Fl_columns Pt_size Lc_size Sc_size Ai_bits Cu_inThrees Lo_sum Lo_wideSize Lo_sumSize) Pg_letters Pg_size x1 := by
  obtain ⟨hJ, ⟨st, hs, rfl⟩, ⟨co, hc, rfl⟩, ⟨pn, hp, rfl⟩, ⟨lz, hz, rfl⟩, ⟨g, hg, rfl⟩, ⟨b, hb, rfl⟩, h3, hL⟩ := h
  obtain ⟨hl, rfl, hv⟩ := id hJ
  exact f_letter hl (fun h0 r => by obtain ⟨rfl, rfl⟩ := hE.1 h0; exact ⟨hJ, ⟨_, hs, rfl⟩, ⟨_, hc, rfl⟩, ⟨_, hp, rfl⟩, ⟨_, hz, rfl⟩, ⟨_, hg, rfl⟩, ⟨_, hb, rfl⟩, h3, hL⟩) (fun w h1 h2 h4 e => by obtain ⟨rfl, rfl⟩ := hE.2 w h1 h2 h4 e; exact ⟨hJ.push h1 h4 e, ⟨_, hs, rfl⟩, ⟨_, hc, rfl⟩, ⟨_, hp, rfl⟩, ⟨_, hz, rfl⟩, ⟨_, hg, rfl⟩, ⟨_, hb, rfl⟩, h3, hL⟩)
theorem n_blank (h : jC v pl Pg_letters Pg_size Fl_states Fl_columns Pt_size Lc_size Sc_size Ai_bits Cu_inThrees Lo_sum Lo_wideSize Lo_sumSize) : wp_X9_blank (fun r Pg_size_ => (r = nI pl) ∧ jC v 0 Pg_letters Pg_size_ Fl_states Fl_columns Pt_size Lc_size Sc_size Ai_bits Cu_inThrees Lo_sum Lo_wideSize Lo_sumSize) Pg_size := by
  obtain ⟨hJ, ⟨st, hs, rfl⟩, ⟨co, hc, rfl⟩, ⟨pn, hp, rfl⟩, ⟨lz, hz, rfl⟩, ⟨g, hg, rfl⟩, ⟨b, hb, rfl⟩, h3, hL⟩ := h
  obtain ⟨hl, rfl, hv⟩ := id hJ
  exact ⟨rfl, hJ.sub (Nat.zero_le _), ⟨_, hs, rfl⟩, ⟨_, hc, rfl⟩, ⟨_, hp, rfl⟩, ⟨_, hz, rfl⟩, ⟨_, hg, rfl⟩, ⟨_, hb, rfl⟩, h3, hL⟩
theorem n_fault (h : jC v pl Pg_letters Pg_size Fl_states Fl_columns Pt_size Lc_size Sc_size Ai_bits Cu_inThrees Lo_sum Lo_wideSize Lo_sumSize) : wp_X9_fault (fun r Pg_fault_ Pg_rows_ Pg_inRow_ Pg_width_ => (∃ f a b c, r = nI f ∧ FR v pl f a b c) ∧ jC v pl Pg_letters Pg_size Fl_states Fl_columns Pt_size Lc_size Sc_size Ai_bits Cu_inThrees Lo_sum Lo_wideSize Lo_sumSize) Pg_letters Pg_size Pg_fault Pg_rows Pg_inRow Pg_width := by
  obtain ⟨hJ, ⟨st, hs, rfl⟩, ⟨co, hc, rfl⟩, ⟨pn, hp, rfl⟩, ⟨lz, hz, rfl⟩, ⟨g, hg, rfl⟩, ⟨b, hb, rfl⟩, h3, hL⟩ := h
  obtain ⟨hl, rfl, hv⟩ := id hJ
  exact f_fault hl hv (fun f r e c hF => ⟨⟨f, r, e, c, rfl, hF⟩, hJ, ⟨_, hs, rfl⟩, ⟨_, hc, rfl⟩, ⟨_, hp, rfl⟩, ⟨_, hz, rfl⟩, ⟨_, hg, rfl⟩, ⟨_, hb, rfl⟩, h3, hL⟩)
theorem n_table (hE : TAB v pl pl1) (h : jC v pl Pg_letters Pg_size Fl_states Fl_columns Pt_size Lc_size Sc_size Ai_bits Cu_inThrees Lo_sum Lo_wideSize Lo_sumSize) : wp_X9_table (fun r Fc_unkept_ Fc_tablesRead_ Pg_size_ Pg_fault_ Pg_rows_ Pg_inRow_ Pg_width_ Fl_entries_ Fl_states_ Fl_columns_ Fl_moves_ Fl_stables_ Fl_amiss_ Fl_normal_ Pt_lessers_ Pt_greaters_ Pt_size_ Lc_signals_ Lc_kept_ Lc_keptFrom_ Lc_candidates_ Lc_size_ Sc_signals_ Sc_codes_ Sc_size_ Ai_codes_ Ai_bits_ Lo_ready_ Wa_at_ Wa_turns_ Wa_changes_ => jC v pl1 Pg_letters Pg_size_ Fl_states_ Fl_columns_ Pt_size_ Lc_size_ Sc_size_ Ai_bits_ Cu_inThrees Lo_sum Lo_wideSize Lo_sumSize) Fc_unkept Fc_tablesRead Pg_letters Pg_size Pg_fault Pg_rows Pg_inRow Pg_width Fl_entries Fl_states Fl_columns Fl_moves Fl_stables Fl_amiss Fl_normal Pt_lessers Pt_greaters Pt_size Lc_signals Lc_kept Lc_keptFrom Lc_candidates Lc_size Sc_signals Sc_codes Sc_size Ai_codes Ai_bits Lo_ready Wa_at Wa_turns Wa_changes := by
  obtain ⟨hJ, ⟨st, hs, rfl⟩, ⟨co, hc, rfl⟩, ⟨pn, hp, rfl⟩, ⟨lz, hz, rfl⟩, ⟨g, hg, rfl⟩, ⟨b, hb, rfl⟩, h3, hL⟩ := h
  obtain ⟨hl, rfl, hv⟩ := id hJ
  exact f_table hl hv hs hc hp hz hg hb (fun r u tr pl' fa ro ir wi en st co mo sb am nm lo hi pn ls kp kf ca lz sg cd g ac b rd wa tu ch q1 q2 hs hc hp hz hg hb => by rw [TAB_eq hE q1 q2]; exact ⟨hJ.sub (TAB_le hE), ⟨_, hs, rfl⟩, ⟨_, hc, rfl⟩, ⟨_, hp, rfl⟩, ⟨_, hz, rfl⟩, ⟨_, hg, rfl⟩, ⟨_, hb, rfl⟩, h3, hL⟩)
theorem n_entry (h : jC v pl Pg_letters Pg_size Fl_states Fl_columns Pt_size Lc_size Sc_size Ai_bits Cu_inThrees Lo_sum Lo_wideSize Lo_sumSize) : wp_X9_entry (fun r => True) Fl_entries Fl_states Fl_columns x1 x2 := by
  obtain ⟨hJ, ⟨st, hs, rfl⟩, ⟨co, hc, rfl⟩, ⟨pn, hp, rfl⟩, ⟨lz, hz, rfl⟩, ⟨g, hg, rfl⟩, ⟨b, hb, rfl⟩, h3, hL⟩ := h
  obtain ⟨hl, rfl, hv⟩ := id hJ
  exact f_entry hs hc (fun _ => trivial)
theorem n_about (h : jC v pl Pg_letters Pg_size Fl_states Fl_columns Pt_size Lc_size Sc_size Ai_bits Cu_inThrees Lo_sum Lo_wideSize Lo_sumSize) : wp_X9_about (fun r => True) Fl_states Fl_moves Fl_stables Fl_amiss Fl_normal Pt_size x1 := by
  obtain ⟨hJ, ⟨st, hs, rfl⟩, ⟨co, hc, rfl⟩, ⟨pn, hp, rfl⟩, ⟨lz, hz, rfl⟩, ⟨g, hg, rfl⟩, ⟨b, hb, rfl⟩, h3, hL⟩ := h
  obtain ⟨hl, rfl, hv⟩ := id hJ
  exact f_about (fun _ => trivial)
theorem n_parting (h : jC v pl Pg_letters Pg_size Fl_states Fl_columns Pt_size Lc_size Sc_size Ai_bits Cu_inThrees Lo_sum Lo_wideSize Lo_sumSize) : wp_X9_parting (fun r => True) Fl_normal Pt_lessers Pt_greaters Pt_size Sc_signals Sc_size x1 x2 := by
  obtain ⟨hJ, ⟨st, hs, rfl⟩, ⟨co, hc, rfl⟩, ⟨pn, hp, rfl⟩, ⟨lz, hz, rfl⟩, ⟨g, hg, rfl⟩, ⟨b, hb, rfl⟩, h3, hL⟩ := h
  obtain ⟨hl, rfl, hv⟩ := id hJ
  exact f_parting hp hg (fun _ => trivial)
theorem n_least (h : jC v pl Pg_letters Pg_size Fl_states Fl_columns Pt_size Lc_size Sc_size Ai_bits Cu_inThrees Lo_sum Lo_wideSize Lo_sumSize) : wp_X9_least (fun r => True) Fl_normal Lc_signals Lc_size x1 := by
  obtain ⟨hJ, ⟨st, hs, rfl⟩, ⟨co, hc, rfl⟩, ⟨pn, hp, rfl⟩, ⟨lz, hz, rfl⟩, ⟨g, hg, rfl⟩, ⟨b, hb, rfl⟩, h3, hL⟩ := h
  obtain ⟨hl, rfl, hv⟩ := id hJ
  exact f_least hz (fun _ => trivial)
theorem n_code (h : jC v pl Pg_letters Pg_size Fl_states Fl_columns Pt_size Lc_size Sc_size Ai_bits Cu_inThrees Lo_sum Lo_wideSize Lo_sumSize) : wp_X9_code (fun r => True) Fl_states Fl_normal Sc_codes x1 := by
  obtain ⟨hJ, ⟨st, hs, rfl⟩, ⟨co, hc, rfl⟩, ⟨pn, hp, rfl⟩, ⟨lz, hz, rfl⟩, ⟨g, hg, rfl⟩, ⟨b, hb, rfl⟩, h3, hL⟩ := h
  obtain ⟨hl, rfl, hv⟩ := id hJ
  exact f_code hs (fun _ => trivial)
theorem n_coded (h : jC v pl Pg_letters Pg_size Fl_states Fl_columns Pt_size Lc_size Sc_size Ai_bits Cu_inThrees Lo_sum Lo_wideSize Lo_sumSize) : wp_X9_coded (fun r => True) Fc_unkept Fl_entries Fl_states Fl_columns Fl_normal Sc_codes Sc_size x1 := by
  obtain ⟨hJ, ⟨st, hs, rfl⟩, ⟨co, hc, rfl⟩, ⟨pn, hp, rfl⟩, ⟨lz, hz, rfl⟩, ⟨g, hg, rfl⟩, ⟨b, hb, rfl⟩, h3, hL⟩ := h
  obtain ⟨hl, rfl, hv⟩ := id hJ
  exact f_coded hs hc (fun _ => trivial)
theorem n_wanted (h : jC v pl Pg_letters Pg_size Fl_states Fl_columns Pt_size Lc_size Sc_size Ai_bits Cu_inThrees Lo_sum Lo_wideSize Lo_sumSize) : wp_X9_wanted (fun r => True) Fc_unkept Fl_normal Sc_size Ai_codes Ai_bits x1 x2 := by
  obtain ⟨hJ, ⟨st, hs, rfl⟩, ⟨co, hc, rfl⟩, ⟨pn, hp, rfl⟩, ⟨lz, hz, rfl⟩, ⟨g, hg, rfl⟩, ⟨b, hb, rfl⟩, h3, hL⟩ := h
  obtain ⟨hl, rfl, hv⟩ := id hJ
  exact f_wanted hb (fun _ => trivial)
theorem n_count (h : jC v pl Pg_letters Pg_size Fl_states Fl_columns Pt_size Lc_size Sc_size Ai_bits Cu_inThrees Lo_sum Lo_wideSize Lo_sumSize) : wp_X9_count (fun r => True) Fc_tablesRead Pg_size Fl_states Fl_columns Wa_at Wa_turns Wa_changes x1 := by
  obtain ⟨hJ, ⟨st, hs, rfl⟩, ⟨co, hc, rfl⟩, ⟨pn, hp, rfl⟩, ⟨lz, hz, rfl⟩, ⟨g, hg, rfl⟩, ⟨b, hb, rfl⟩, h3, hL⟩ := h
  obtain ⟨hl, rfl, hv⟩ := id hJ
  exact f_count (fun _ => trivial)
theorem n_put (h : jC v pl Pg_letters Pg_size Fl_states Fl_columns Pt_size Lc_size Sc_size Ai_bits Cu_inThrees Lo_sum Lo_wideSize Lo_sumSize) : wp_X9_put (fun r Fc_unkept_ Sc_signals_ Sc_codes_ Sc_size_ Ai_codes_ Ai_bits_ Lo_ready_ => jC v pl Pg_letters Pg_size Fl_states Fl_columns Pt_size Lc_size Sc_size_ Ai_bits_ Cu_inThrees Lo_sum Lo_wideSize Lo_sumSize) Fc_unkept Fl_entries Fl_states Fl_columns Fl_normal Pt_lessers Pt_greaters Pt_size Sc_signals Sc_codes Sc_size Ai_codes Ai_bits Lo_ready x1 := by
  obtain ⟨hJ, ⟨st, hs, rfl⟩, ⟨co, hc, rfl⟩, ⟨pn, hp, rfl⟩, ⟨lz, hz, rfl⟩, ⟨g, hg, rfl⟩, ⟨b, hb, rfl⟩, h3, hL⟩ := h
  obtain ⟨hl, rfl, hv⟩ := id hJ
  exact f_put hs hc hp hg hb (fun r u sg cd g ac b rd hg hb => ⟨hJ, ⟨_, hs, rfl⟩, ⟨_, hc, rfl⟩, ⟨_, hp, rfl⟩, ⟨_, hz, rfl⟩, ⟨_, hg, rfl⟩, ⟨_, hb, rfl⟩, h3, hL⟩)
theorem n_clear (h : jC v pl Pg_letters Pg_size Fl_states Fl_columns Pt_size Lc_size Sc_size Ai_bits Cu_inThrees Lo_sum Lo_wideSize Lo_sumSize) : wp_X9_clear (fun r Fc_unkept_ Sc_codes_ Sc_size_ Ai_codes_ Ai_bits_ Lo_ready_ => jC v pl Pg_letters Pg_size Fl_states Fl_columns Pt_size Lc_size Sc_size_ Ai_bits_ Cu_inThrees Lo_sum Lo_wideSize Lo_sumSize) Fc_unkept Fl_entries Fl_states Fl_columns Fl_normal Pt_lessers Pt_greaters Pt_size Sc_signals Sc_codes Sc_size Ai_codes Ai_bits Lo_ready := by
  obtain ⟨hJ, ⟨st, hs, rfl⟩, ⟨co, hc, rfl⟩, ⟨pn, hp, rfl⟩, ⟨lz, hz, rfl⟩, ⟨g, hg, rfl⟩, ⟨b, hb, rfl⟩, h3, hL⟩ := h
  obtain ⟨hl, rfl, hv⟩ := id hJ
  exact f_clear hs hc hp hg hb (fun r u cd g ac b rd hg hb => ⟨hJ, ⟨_, hs, rfl⟩, ⟨_, hc, rfl⟩, ⟨_, hp, rfl⟩, ⟨_, hz, rfl⟩, ⟨_, hg, rfl⟩, ⟨_, hb, rfl⟩, h3, hL⟩)
theorem n_logic (h : jC v pl Pg_letters Pg_size Fl_states Fl_columns Pt_size Lc_size Sc_size Ai_bits Cu_inThrees Lo_sum Lo_wideSize Lo_sumSize) : wp_X9_logic (fun r Cu_seen_ Cu_all_ Lo_asked_ Lo_ones_ Lo_sum_ Lo_wideSize_ Lo_sumSize_ Lo_flickers_ Lo_ready_ => jC v pl Pg_letters Pg_size Fl_states Fl_columns Pt_size Lc_size Sc_size Ai_bits Cu_inThrees Lo_sum_ Lo_wideSize_ Lo_sumSize_) Fc_unkept Fl_normal Sc_size Ai_codes Ai_bits Cu_seen Cu_inThrees Cu_all Lo_asked Lo_ones Lo_sum Lo_wideSize Lo_sumSize Lo_flickers Lo_ready x1 x2 := by
  obtain ⟨hJ, ⟨st, hs, rfl⟩, ⟨co, hc, rfl⟩, ⟨pn, hp, rfl⟩, ⟨lz, hz, rfl⟩, ⟨g, hg, rfl⟩, ⟨b, hb, rfl⟩, h3, hL⟩ := h
  obtain ⟨hl, rfl, hv⟩ := id hJ
  exact f_logic hb h3 hL (fun r se al as on sm wd sz fl rd hL => ⟨hJ, ⟨_, hs, rfl⟩, ⟨_, hc, rfl⟩, ⟨_, hp, rfl⟩, ⟨_, hz, rfl⟩, ⟨_, hg, rfl⟩, ⟨_, hb, rfl⟩, h3, hL⟩)
theorem n_product (h : jC v pl Pg_letters Pg_size Fl_states Fl_columns Pt_size Lc_size Sc_size Ai_bits Cu_inThrees Lo_sum Lo_wideSize Lo_sumSize) : wp_X9_product (fun r Cu_seen_ Cu_all_ Lo_asked_ Lo_ones_ Lo_sum_ Lo_wideSize_ Lo_sumSize_ Lo_flickers_ Lo_ready_ => jC v pl Pg_letters Pg_size Fl_states Fl_columns Pt_size Lc_size Sc_size Ai_bits Cu_inThrees Lo_sum_ Lo_wideSize_ Lo_sumSize_) Fc_unkept Fl_normal Sc_size Ai_codes Ai_bits Cu_seen Cu_inThrees Cu_all Lo_asked Lo_ones Lo_sum Lo_wideSize Lo_sumSize Lo_flickers Lo_ready x1 x2 x3 := by
  obtain ⟨hJ, ⟨st, hs, rfl⟩, ⟨co, hc, rfl⟩, ⟨pn, hp, rfl⟩, ⟨lz, hz, rfl⟩, ⟨g, hg, rfl⟩, ⟨b, hb, rfl⟩, h3, hL⟩ := h
  obtain ⟨hl, rfl, hv⟩ := id hJ
  exact f_product hb h3 hL (fun r se al as on sm wd sz fl rd hL => ⟨hJ, ⟨_, hs, rfl⟩, ⟨_, hc, rfl⟩, ⟨_, hp, rfl⟩, ⟨_, hz, rfl⟩, ⟨_, hg, rfl⟩, ⟨_, hb, rfl⟩, h3, hL⟩)
theorem n_wide (h : jC v pl Pg_letters Pg_size Fl_states Fl_columns Pt_size Lc_size Sc_size Ai_bits Cu_inThrees Lo_sum Lo_wideSize Lo_sumSize) : wp_X9_wide (fun r Cu_seen_ Cu_all_ Lo_asked_ Lo_ones_ Lo_sum_ Lo_wideSize_ Lo_sumSize_ Lo_flickers_ Lo_ready_ => jC v pl Pg_letters Pg_size Fl_states Fl_columns Pt_size Lc_size Sc_size Ai_bits Cu_inThrees Lo_sum_ Lo_wideSize_ Lo_sumSize_) Fc_unkept Fl_normal Sc_size Ai_codes Ai_bits Cu_seen Cu_inThrees Cu_all Lo_asked Lo_ones Lo_sum Lo_wideSize Lo_sumSize Lo_flickers Lo_ready x1 x2 x3 := by
  obtain ⟨hJ, ⟨st, hs, rfl⟩, ⟨co, hc, rfl⟩, ⟨pn, hp, rfl⟩, ⟨lz, hz, rfl⟩, ⟨g, hg, rfl⟩, ⟨b, hb, rfl⟩, h3, hL⟩ := h
  obtain ⟨hl, rfl, hv⟩ := id hJ
  exact f_wide hb h3 hL (fun r se al as on sm wd sz fl rd hL => ⟨hJ, ⟨_, hs, rfl⟩, ⟨_, hc, rfl⟩, ⟨_, hp, rfl⟩, ⟨_, hz, rfl⟩, ⟨_, hg, rfl⟩, ⟨_, hb, rfl⟩, h3, hL⟩)
theorem n_walk (h : jC v pl Pg_letters Pg_size Fl_states Fl_columns Pt_size Lc_size Sc_size Ai_bits Cu_inThrees Lo_sum Lo_wideSize Lo_sumSize) : wp_X9_walk (fun r Wa_at_ Wa_turns_ Wa_changes_ => jC v pl Pg_letters Pg_size Fl_states Fl_columns Pt_size Lc_size Sc_size Ai_bits Cu_inThrees Lo_sum Lo_wideSize Lo_sumSize) Fl_states Wa_at Wa_turns Wa_changes x1 := by
  obtain ⟨hJ, ⟨st, hs, rfl⟩, ⟨co, hc, rfl⟩, ⟨pn, hp, rfl⟩, ⟨lz, hz, rfl⟩, ⟨g, hg, rfl⟩, ⟨b, hb, rfl⟩, h3, hL⟩ := h
  obtain ⟨hl, rfl, hv⟩ := id hJ
  exact f_walk hs (fun _ _ _ _ => ⟨hJ, ⟨_, hs, rfl⟩, ⟨_, hc, rfl⟩, ⟨_, hp, rfl⟩, ⟨_, hz, rfl⟩, ⟨_, hg, rfl⟩, ⟨_, hb, rfl⟩, h3, hL⟩)
theorem n_turn (h : jC v pl Pg_letters Pg_size Fl_states Fl_columns Pt_size Lc_size Sc_size Ai_bits Cu_inThrees Lo_sum Lo_wideSize Lo_sumSize) : wp_X9_turn (fun r Wa_at_ Wa_turns_ Wa_changes_ => jC v pl Pg_letters Pg_size Fl_states Fl_columns Pt_size Lc_size Sc_size Ai_bits Cu_inThrees Lo_sum Lo_wideSize Lo_sumSize) Fl_entries Fl_states Fl_columns Sc_codes Wa_at Wa_turns Wa_changes x1 := by
  obtain ⟨hJ, ⟨st, hs, rfl⟩, ⟨co, hc, rfl⟩, ⟨pn, hp, rfl⟩, ⟨lz, hz, rfl⟩, ⟨g, hg, rfl⟩, ⟨b, hb, rfl⟩, h3, hL⟩ := h
  obtain ⟨hl, rfl, hv⟩ := id hJ
  exact f_turn hs hc (fun _ _ _ _ => ⟨hJ, ⟨_, hs, rfl⟩, ⟨_, hc, rfl⟩, ⟨_, hp, rfl⟩, ⟨_, hz, rfl⟩, ⟨_, hg, rfl⟩, ⟨_, hb, rfl⟩, h3, hL⟩)
theorem n_digest (h : jC v pl Pg_letters Pg_size Fl_states Fl_columns Pt_size Lc_size Sc_size Ai_bits Cu_inThrees Lo_sum Lo_wideSize Lo_sumSize) : wp_X9_digest (fun r Cu_seen_ Cu_all_ Lo_asked_ Lo_ones_ Lo_sum_ Lo_wideSize_ Lo_sumSize_ Lo_flickers_ Lo_ready_ => jC v pl Pg_letters Pg_size Fl_states Fl_columns Pt_size Lc_size Sc_size Ai_bits Cu_inThrees Lo_sum_ Lo_wideSize_ Lo_sumSize_) Fc_unkept Fc_tablesRead Pg_letters Pg_size Fl_entries Fl_states Fl_columns Fl_moves Fl_stables Fl_amiss Fl_normal Pt_lessers Pt_greaters Pt_size Lc_signals Lc_size Sc_signals Sc_codes Sc_size Ai_codes Ai_bits Cu_seen Cu_inThrees Cu_all Lo_asked Lo_ones Lo_sum Lo_wideSize Lo_sumSize Lo_flickers Lo_ready Wa_at Wa_turns Wa_changes := by
  obtain ⟨hJ, ⟨st, hs, rfl⟩, ⟨co, hc, rfl⟩, ⟨pn, hp, rfl⟩, ⟨lz, hz, rfl⟩, ⟨g, hg, rfl⟩, ⟨b, hb, rfl⟩, h3, hL⟩ := h
  obtain ⟨hl, rfl, hv⟩ := id hJ
  exact f_digest hl hs hc hp hz hg hb h3 hL (fun r se al as on sm wd sz fl rd hL => ⟨hJ, ⟨_, hs, rfl⟩, ⟨_, hc, rfl⟩, ⟨_, hp, rfl⟩, ⟨_, hz, rfl⟩, ⟨_, hg, rfl⟩, ⟨_, hb, rfl⟩, h3, hL⟩)
theorem m_letter (hE : LET v pl x1 v1 pl1) (h : jM v pl i_pageLength a_page i_states i_columns a_entries i_signals i_walksAt i_partings i_leastMany i_wide i_sum a_sumAt) : wp_X10_letter (fun r i_pageLength_ a_page_ => jM v1 pl1 i_pageLength_ a_page_ i_states i_columns a_entries i_signals i_walksAt i_partings i_leastMany i_wide i_sum a_sumAt) i_pageLength a_page x1 := by
  obtain ⟨hJ, ⟨st, co, rfl, rfl, hT, hw⟩, ⟨g, hg, rfl⟩, ⟨pn, hp, rfl⟩, hm, ⟨wd, sm, rfl, rfl, hs, hk⟩⟩ := h
  obtain ⟨hl, rfl, hv⟩ := id hJ
  exact s_letter hl (fun h0 r => by obtain ⟨rfl, rfl⟩ := hE.1 h0; exact ⟨hJ, ⟨st, co, rfl, rfl, hT, hw⟩, ⟨_, hg, rfl⟩, ⟨_, hp, rfl⟩, hm, ⟨_, _, rfl, rfl, hs, hk⟩⟩) (fun w h1 h2 h4 e => by obtain ⟨rfl, rfl⟩ := hE.2 w h1 h2 h4 e; exact ⟨hJ.push h1 h4 e, ⟨st, co, rfl, rfl, hT, hw⟩, ⟨_, hg, rfl⟩, ⟨_, hp, rfl⟩, hm, ⟨_, _, rfl, rfl, hs, hk⟩⟩)
theorem m_blank (h : jM v pl i_pageLength a_page i_states i_columns a_entries i_signals i_walksAt i_partings i_leastMany i_wide i_sum a_sumAt) : wp_X10_blank (fun r i_pageLength_ => (r = nI pl) ∧ jM v 0 i_pageLength_ a_page i_states i_columns a_entries i_signals i_walksAt i_partings i_leastMany i_wide i_sum a_sumAt) i_pageLength := by
  obtain ⟨hJ, ⟨st, co, rfl, rfl, hT, hw⟩, ⟨g, hg, rfl⟩, ⟨pn, hp, rfl⟩, hm, ⟨wd, sm, rfl, rfl, hs, hk⟩⟩ := h
  obtain ⟨hl, rfl, hv⟩ := id hJ
  exact ⟨rfl, hJ.sub (Nat.zero_le _), ⟨st, co, rfl, rfl, hT, hw⟩, ⟨_, hg, rfl⟩, ⟨_, hp, rfl⟩, hm, ⟨_, _, rfl, rfl, hs, hk⟩⟩
theorem m_fault (h : jM v pl i_pageLength a_page i_states i_columns a_entries i_signals i_walksAt i_partings i_leastMany i_wide i_sum a_sumAt) : wp_X10_fault (fun r i_newRows_ i_newEntries_ i_newColumns_ i_greatest_ a_newAt_ => (∃ f a b c, r = nI f ∧ FR v pl f a b c) ∧ jM v pl i_pageLength a_page i_states i_columns a_entries i_signals i_walksAt i_partings i_leastMany i_wide i_sum a_sumAt) i_pageLength a_page i_newRows i_newEntries i_newColumns i_greatest a_newAt := by
  obtain ⟨hJ, ⟨st, co, rfl, rfl, hT, hw⟩, ⟨g, hg, rfl⟩, ⟨pn, hp, rfl⟩, hm, ⟨wd, sm, rfl, rfl, hs, hk⟩⟩ := h
  obtain ⟨hl, rfl, hv⟩ := id hJ
  exact s_readPage hl hv (fun f r e c na hF _ _ _ => ⟨⟨f, r, e, c, rfl, hF⟩, hJ, ⟨st, co, rfl, rfl, hT, hw⟩, ⟨_, hg, rfl⟩, ⟨_, hp, rfl⟩, hm, ⟨_, _, rfl, rfl, hs, hk⟩⟩)
theorem m_table (hE : TAB v pl pl1) (h : jM v pl i_pageLength a_page i_states i_columns a_entries i_signals i_walksAt i_partings i_leastMany i_wide i_sum a_sumAt) : wp_X10_table (fun r i_pageLength_ i_states_ i_columns_ a_entries_ i_signals_ a_signalAt_ i_walksAt_ i_turned_ i_changed_ i_read_ i_newRows_ i_newEntries_ i_newColumns_ i_greatest_ a_newAt_ i_partings_ a_lowSet_ a_highSet_ i_leastMany_ a_leastAt_ a_tried_ a_keptLow_ a_keptHigh_ i_laid_ => jM v pl1 i_pageLength_ a_page i_states_ i_columns_ a_entries_ i_signals_ i_walksAt_ i_partings_ i_leastMany_ i_wide i_sum a_sumAt) i_pageLength a_page i_states i_columns a_entries i_signals a_signalAt i_walksAt i_turned i_changed i_read i_newRows i_newEntries i_newColumns i_greatest a_newAt i_partings a_lowSet a_highSet i_leastMany a_leastAt a_tried a_keptLow a_keptHigh i_laid := by
  obtain ⟨hJ, ⟨st, co, rfl, rfl, hT, hw⟩, ⟨g, hg, rfl⟩, ⟨pn, hp, rfl⟩, hm, ⟨wd, sm, rfl, rfl, hs, hk⟩⟩ := h
  obtain ⟨hl, rfl, hv⟩ := id hJ
  exact s_table hl hv hT hg hw hp hm (fun r pl' st co en g sg wa tu ch rd nr ne nc gr na pn lo hi lm la tr kl kh ld q1 q2 hT hg hw hp hm => by rw [TAB_eq hE q1 q2]; exact ⟨hJ.sub (TAB_le hE), ⟨st, co, rfl, rfl, hT, hw⟩, ⟨_, hg, rfl⟩, ⟨_, hp, rfl⟩, hm, ⟨_, _, rfl, rfl, hs, hk⟩⟩)
theorem m_entry (h : jM v pl i_pageLength a_page i_states i_columns a_entries i_signals i_walksAt i_partings i_leastMany i_wide i_sum a_sumAt) : wp_X10_entry (fun r => True) i_states i_columns a_entries x1 x2 := by
  obtain ⟨hJ, ⟨st, co, rfl, rfl, hT, hw⟩, ⟨g, hg, rfl⟩, ⟨pn, hp, rfl⟩, hm, ⟨wd, sm, rfl, rfl, hs, hk⟩⟩ := h
  obtain ⟨hl, rfl, hv⟩ := id hJ
  exact s_entry hT (fun _ => trivial)
theorem m_about (h : jM v pl i_pageLength a_page i_states i_columns a_entries i_signals i_walksAt i_partings i_leastMany i_wide i_sum a_sumAt) : wp_X10_about (fun r => True) i_states i_columns a_entries i_partings x1 := by
  obtain ⟨hJ, ⟨st, co, rfl, rfl, hT, hw⟩, ⟨g, hg, rfl⟩, ⟨pn, hp, rfl⟩, hm, ⟨wd, sm, rfl, rfl, hs, hk⟩⟩ := h
  obtain ⟨hl, rfl, hv⟩ := id hJ
  exact s_about hT (fun _ => trivial)
theorem m_parting (h : jM v pl i_pageLength a_page i_states i_columns a_entries i_signals i_walksAt i_partings i_leastMany i_wide i_sum a_sumAt) : wp_X10_parting (fun r => True) i_states i_columns a_entries i_signals a_signalAt i_partings a_lowSet a_highSet x1 x2 := by
  obtain ⟨hJ, ⟨st, co, rfl, rfl, hT, hw⟩, ⟨g, hg, rfl⟩, ⟨pn, hp, rfl⟩, hm, ⟨wd, sm, rfl, rfl, hs, hk⟩⟩ := h
  obtain ⟨hl, rfl, hv⟩ := id hJ
  exact s_parting hT hg hp (fun _ => trivial)
theorem m_least (h : jM v pl i_pageLength a_page i_states i_columns a_entries i_signals i_walksAt i_partings i_leastMany i_wide i_sum a_sumAt) : wp_X10_least (fun r => True) i_states i_columns a_entries i_leastMany a_leastAt x1 := by
  obtain ⟨hJ, ⟨st, co, rfl, rfl, hT, hw⟩, ⟨g, hg, rfl⟩, ⟨pn, hp, rfl⟩, hm, ⟨wd, sm, rfl, rfl, hs, hk⟩⟩ := h
  obtain ⟨hl, rfl, hv⟩ := id hJ
  exact s_least hT hm (fun _ => trivial)
theorem m_code (h : jM v pl i_pageLength a_page i_states i_columns a_entries i_signals i_walksAt i_partings i_leastMany i_wide i_sum a_sumAt) : wp_X10_code (fun r => True) i_states i_columns a_entries i_signals a_signalAt x1 := by
  obtain ⟨hJ, ⟨st, co, rfl, rfl, hT, hw⟩, ⟨g, hg, rfl⟩, ⟨pn, hp, rfl⟩, hm, ⟨wd, sm, rfl, rfl, hs, hk⟩⟩ := h
  obtain ⟨hl, rfl, hv⟩ := id hJ
  exact s_code hT hg (fun _ => trivial)
theorem m_coded (h : jM v pl i_pageLength a_page i_states i_columns a_entries i_signals i_walksAt i_partings i_leastMany i_wide i_sum a_sumAt) : wp_X10_coded (fun r => True) i_states i_columns a_entries i_signals a_signalAt i_partings a_lowSet a_highSet x1 := by
  obtain ⟨hJ, ⟨st, co, rfl, rfl, hT, hw⟩, ⟨g, hg, rfl⟩, ⟨pn, hp, rfl⟩, hm, ⟨wd, sm, rfl, rfl, hs, hk⟩⟩ := h
  obtain ⟨hl, rfl, hv⟩ := id hJ
  exact s_coded hT hg hp (fun _ => trivial)
theorem m_wanted (h : jM v pl i_pageLength a_page i_states i_columns a_entries i_signals i_walksAt i_partings i_leastMany i_wide i_sum a_sumAt) : wp_X10_wanted (fun r => True) i_states i_columns a_entries i_signals a_signalAt i_partings a_lowSet a_highSet x1 x2 := by
  obtain ⟨hJ, ⟨st, co, rfl, rfl, hT, hw⟩, ⟨g, hg, rfl⟩, ⟨pn, hp, rfl⟩, hm, ⟨wd, sm, rfl, rfl, hs, hk⟩⟩ := h
  obtain ⟨hl, rfl, hv⟩ := id hJ
  exact s_wanted hT hg hp (fun _ => trivial)
theorem m_count (h : jM v pl i_pageLength a_page i_states i_columns a_entries i_signals i_walksAt i_partings i_leastMany i_wide i_sum a_sumAt) : wp_X10_count (fun r => True) i_pageLength i_states i_columns i_walksAt i_turned i_changed i_read x1 := by
  obtain ⟨hJ, ⟨st, co, rfl, rfl, hT, hw⟩, ⟨g, hg, rfl⟩, ⟨pn, hp, rfl⟩, hm, ⟨wd, sm, rfl, rfl, hs, hk⟩⟩ := h
  obtain ⟨hl, rfl, hv⟩ := id hJ
  exact s_howMany (fun _ => trivial)
theorem m_put (h : jM v pl i_pageLength a_page i_states i_columns a_entries i_signals i_walksAt i_partings i_leastMany i_wide i_sum a_sumAt) : wp_X10_put (fun r i_signals_ a_signalAt_ i_laid_ => jM v pl i_pageLength a_page i_states i_columns a_entries i_signals_ i_walksAt i_partings i_leastMany i_wide i_sum a_sumAt) i_states i_columns a_entries i_signals a_signalAt i_laid x1 := by
  obtain ⟨hJ, ⟨st, co, rfl, rfl, hT, hw⟩, ⟨g, hg, rfl⟩, ⟨pn, hp, rfl⟩, hm, ⟨wd, sm, rfl, rfl, hs, hk⟩⟩ := h
  obtain ⟨hl, rfl, hv⟩ := id hJ
  exact s_put hT hg (fun r g sg ld hg => ⟨hJ, ⟨st, co, rfl, rfl, hT, hw⟩, ⟨_, hg, rfl⟩, ⟨_, hp, rfl⟩, hm, ⟨_, _, rfl, rfl, hs, hk⟩⟩)
theorem m_clear (h : jM v pl i_pageLength a_page i_states i_columns a_entries i_signals i_walksAt i_partings i_leastMany i_wide i_sum a_sumAt) : wp_X10_clear (fun r i_signals_ i_laid_ => jM v pl i_pageLength a_page i_states i_columns a_entries i_signals_ i_walksAt i_partings i_leastMany i_wide i_sum a_sumAt) i_states i_columns a_entries i_signals i_laid := by
  obtain ⟨hJ, ⟨st, co, rfl, rfl, hT, hw⟩, ⟨g, hg, rfl⟩, ⟨pn, hp, rfl⟩, hm, ⟨wd, sm, rfl, rfl, hs, hk⟩⟩ := h
  obtain ⟨hl, rfl, hv⟩ := id hJ
  exact s_clear hT hg (fun r g ld hg => ⟨hJ, ⟨st, co, rfl, rfl, hT, hw⟩, ⟨_, hg, rfl⟩, ⟨_, hp, rfl⟩, hm, ⟨_, _, rfl, rfl, hs, hk⟩⟩)
theorem m_logic (h : jM v pl i_pageLength a_page i_states i_columns a_entries i_signals i_walksAt i_partings i_leastMany i_wide i_sum a_sumAt) : wp_X10_logic (fun r i_laid_ a_wants_ i_wide_ a_wideAsked_ a_wideOnes_ i_sum_ i_flickers_ a_sumAt_ => jM v pl i_pageLength a_page i_states i_columns a_entries i_signals i_walksAt i_partings i_leastMany i_wide_ i_sum_ a_sumAt_) i_states i_columns a_entries i_signals a_signalAt i_partings a_lowSet a_highSet i_laid a_wants i_wide a_wideAsked a_wideOnes i_sum i_flickers a_sumAt x1 x2 := by
  obtain ⟨hJ, ⟨st, co, rfl, rfl, hT, hw⟩, ⟨g, hg, rfl⟩, ⟨pn, hp, rfl⟩, hm, ⟨wd, sm, rfl, rfl, hs, hk⟩⟩ := h
  obtain ⟨hl, rfl, hv⟩ := id hJ
  exact s_logic hT hg hp hs hk (fun r ld w wd wA wO sm fl sa hs hk => ⟨hJ, ⟨st, co, rfl, rfl, hT, hw⟩, ⟨_, hg, rfl⟩, ⟨_, hp, rfl⟩, hm, ⟨_, _, rfl, rfl, hs, hk⟩⟩)
theorem m_product (h : jM v pl i_pageLength a_page i_states i_columns a_entries i_signals i_walksAt i_partings i_leastMany i_wide i_sum a_sumAt) : wp_X10_product (fun r i_laid_ a_wants_ i_wide_ a_wideAsked_ a_wideOnes_ i_sum_ i_flickers_ a_sumAt_ => jM v pl i_pageLength a_page i_states i_columns a_entries i_signals i_walksAt i_partings i_leastMany i_wide_ i_sum_ a_sumAt_) i_states i_columns a_entries i_signals a_signalAt i_partings a_lowSet a_highSet i_laid a_wants i_wide a_wideAsked a_wideOnes i_sum i_flickers a_sumAt x1 x2 x3 := by
  obtain ⟨hJ, ⟨st, co, rfl, rfl, hT, hw⟩, ⟨g, hg, rfl⟩, ⟨pn, hp, rfl⟩, hm, ⟨wd, sm, rfl, rfl, hs, hk⟩⟩ := h
  obtain ⟨hl, rfl, hv⟩ := id hJ
  exact s_product hT hg hp hs hk (fun r ld w wd wA wO sm fl sa hs hk => ⟨hJ, ⟨st, co, rfl, rfl, hT, hw⟩, ⟨_, hg, rfl⟩, ⟨_, hp, rfl⟩, hm, ⟨_, _, rfl, rfl, hs, hk⟩⟩)
theorem m_wide (h : jM v pl i_pageLength a_page i_states i_columns a_entries i_signals i_walksAt i_partings i_leastMany i_wide i_sum a_sumAt) : wp_X10_wide (fun r i_laid_ a_wants_ i_wide_ a_wideAsked_ a_wideOnes_ i_sum_ i_flickers_ a_sumAt_ => jM v pl i_pageLength a_page i_states i_columns a_entries i_signals i_walksAt i_partings i_leastMany i_wide_ i_sum_ a_sumAt_) i_states i_columns a_entries i_signals a_signalAt i_partings a_lowSet a_highSet i_laid a_wants i_wide a_wideAsked a_wideOnes i_sum i_flickers a_sumAt x1 x2 x3 := by
  obtain ⟨hJ, ⟨st, co, rfl, rfl, hT, hw⟩, ⟨g, hg, rfl⟩, ⟨pn, hp, rfl⟩, hm, ⟨wd, sm, rfl, rfl, hs, hk⟩⟩ := h
  obtain ⟨hl, rfl, hv⟩ := id hJ
  exact s_wide hT hg hp hs hk (fun r ld w wd wA wO sm fl sa hs hk => ⟨hJ, ⟨st, co, rfl, rfl, hT, hw⟩, ⟨_, hg, rfl⟩, ⟨_, hp, rfl⟩, hm, ⟨_, _, rfl, rfl, hs, hk⟩⟩)
theorem m_walk (h : jM v pl i_pageLength a_page i_states i_columns a_entries i_signals i_walksAt i_partings i_leastMany i_wide i_sum a_sumAt) : wp_X10_walk (fun r i_walksAt_ i_turned_ i_changed_ => jM v pl i_pageLength a_page i_states i_columns a_entries i_signals i_walksAt_ i_partings i_leastMany i_wide i_sum a_sumAt) i_states i_walksAt i_turned i_changed x1 := by
  obtain ⟨hJ, ⟨st, co, rfl, rfl, hT, hw⟩, ⟨g, hg, rfl⟩, ⟨pn, hp, rfl⟩, hm, ⟨wd, sm, rfl, rfl, hs, hk⟩⟩ := h
  obtain ⟨hl, rfl, hv⟩ := id hJ
  exact s_walk hT.1 hw (fun _ _ _ _ hw => ⟨hJ, ⟨st, co, rfl, rfl, hT, hw⟩, ⟨_, hg, rfl⟩, ⟨_, hp, rfl⟩, hm, ⟨_, _, rfl, rfl, hs, hk⟩⟩)
theorem m_turn (h : jM v pl i_pageLength a_page i_states i_columns a_entries i_signals i_walksAt i_partings i_leastMany i_wide i_sum a_sumAt) : wp_X10_turn (fun r i_walksAt_ i_turned_ i_changed_ => jM v pl i_pageLength a_page i_states i_columns a_entries i_signals i_walksAt_ i_partings i_leastMany i_wide i_sum a_sumAt) i_states i_columns a_entries i_signals a_signalAt i_walksAt i_turned i_changed x1 := by
  obtain ⟨hJ, ⟨st, co, rfl, rfl, hT, hw⟩, ⟨g, hg, rfl⟩, ⟨pn, hp, rfl⟩, hm, ⟨wd, sm, rfl, rfl, hs, hk⟩⟩ := h
  obtain ⟨hl, rfl, hv⟩ := id hJ
  exact s_turn hT hg hw (fun _ _ _ _ hw => ⟨hJ, ⟨st, co, rfl, rfl, hT, hw⟩, ⟨_, hg, rfl⟩, ⟨_, hp, rfl⟩, hm, ⟨_, _, rfl, rfl, hs, hk⟩⟩)
theorem m_digest (h : jM v pl i_pageLength a_page i_states i_columns a_entries i_signals i_walksAt i_partings i_leastMany i_wide i_sum a_sumAt) : wp_X10_digest (fun r i_laid_ a_wants_ i_wide_ a_wideAsked_ a_wideOnes_ i_sum_ i_flickers_ a_sumAt_ j_h_ => jM v pl i_pageLength a_page i_states i_columns a_entries i_signals i_walksAt i_partings i_leastMany i_wide_ i_sum_ a_sumAt_) i_pageLength a_page i_states i_columns a_entries i_signals a_signalAt i_walksAt i_turned i_changed i_read i_partings a_lowSet a_highSet i_leastMany a_leastAt i_laid a_wants i_wide a_wideAsked a_wideOnes i_sum i_flickers a_sumAt j_h := by
  obtain ⟨hJ, ⟨st, co, rfl, rfl, hT, hw⟩, ⟨g, hg, rfl⟩, ⟨pn, hp, rfl⟩, hm, ⟨wd, sm, rfl, rfl, hs, hk⟩⟩ := h
  obtain ⟨hl, rfl, hv⟩ := id hJ
  exact s_digest hl hT hg hp hm hs hk (fun r ld w wd wA wO sm fl sa h hs hk => ⟨hJ, ⟨st, co, rfl, rfl, hT, hw⟩, ⟨_, hg, rfl⟩, ⟨_, hp, rfl⟩, hm, ⟨_, _, rfl, rfl, hs, hk⟩⟩)
end STEPS
