/-! the class -/
theorem ix_in {x : Int32} {n N : Nat} (h0 : ¬ x < 0) (h : ¬ nI n ≤ x) (hn : n ≤ N) (hN : N < 2 ^ 31) : ∃ j, j < n ∧ x = nI j ∧ vp_in x N := by
  obtain ⟨j, hj, rfl⟩ := nI_of h0
  rw [nI_leI (by omega) hj] at h
  exact ⟨j, by omega, rfl, pk_in j N (by omega)⟩
theorem chr_id {w : Nat} (h : w < 65536) : (((nI w).toUInt32 % 65536).toInt32) = nI w := by
  rw [pk_char, pk_tn (by omega), Nat.mod_eq_of_lt h]
theorem q_append {post : Int32 → (Nat → Int32) → Int32 → Prop} {lt : Nat → Int32} {pl w : Nat} (hl : pl ≤ 40) (hw : w < 128) (H0 : ¬ pl < 40 → post 0 lt (nI pl)) (H1 : pl < 40 → post 1 (upd lt pl (nI w)) (nI (pl + 1))) : wp_X5_append post lt (nI pl) (nI w) := by
  unfold wp_X5_append
  rw [pk_vc, chr_id (by omega), nI_clamp (show pl < 2 ^ 31 by omega)]
  refine pk_lt pl 40 (fun h => ⟨pk_in pl 40 h, fun a ha f hf => ?_⟩) (fun h => H0 (by omega))
  rw [ha, hf, nI_p1]
  exact H1 h
theorem q_stateOf {post : Int32 → Prop} {v : Nat} (hv : v < 65536) (H : post (stv v)) : wp_X5_stateOf post (nI v) := by
  unfold wp_X5_stateOf
  have e : stv v = if 97 ≤ v ∧ v ≤ 102 then nI (v - 97) else -1 := by
    unfold stv gI lv1
    by_cases h : 97 ≤ v ∧ v ≤ 102
    · simp only [if_pos h]
      rw [if_neg (by omega)]
      congr 1
    · simp only [if_neg h]
      rfl
  rw [e] at H
  refine pk_lt v 97 (fun h => ?_) (fun h => pk_le 103 v (fun h2 => ?_) (fun h2 => ?_))
  · rw [if_neg (by omega)] at H; exact H
  · rw [if_neg (by omega)] at H; exact H
  · rw [if_pos (by omega)] at H
    rw [show (97 : Int32) = nI 97 from rfl, pk_sub (by omega)]
    exact H
theorem q_stateOfA {post : Int32 → Prop} {x : Int32} (H : ∀ r, post r) : wp_X5_stateOf post x := ⟨fun _ => H _, fun _ => ⟨fun _ => H _, fun _ => H _⟩⟩
theorem q_fits {post : Int32 → Int32 → Int32 → Int32 → Prop} {v r e c : Nat} (hv : v < 128) (hI : pinv r e c) (H0 : tk v r e c = none → post 0 (nI (r + 1)) (nI e) (nI c)) (H1 : ∀ r' e' c', tk v r e c = some (r', e', c') → post 1 (nI (r' + 1)) (nI e') (nI c')) : wp_X5_fits post (nI (r + 1)) (nI e) (nI c) (nI v) := by
  obtain ⟨h1, h2, h3, h4, h5⟩ := hI
  have A : v = 59 → ∀ w : Int32, (w = 0 ∧ ¬ (if c = 0 then 1 < e else e = c)) ∨ (w = 1 ∧ (if c = 0 then 1 < e else e = c)) → j_X5_endsRow_40 (fun (r_8 : Int32) (yrows_8 : Int32) (yinRow_8 : Int32) (ywidth_8 : Int32) => (narrow .boolean (.int r_8) = .int r_8 ∧ post r_8 yrows_8 yinRow_8 ywidth_8)) (nI (r + 1)) (nI e) (nI c) w := by
    intro h59 w hw
    rcases hw with ⟨rfl, e2⟩ | ⟨rfl, e2⟩
    · refine ⟨fun _ => ⟨bz0, H0 ?_⟩, fun q => absurd rfl q⟩
      unfold tk; rw [if_pos h59, if_neg (fun q => e2 q.1)]
    · refine ⟨fun q => absurd q (by decide), fun _ => pk_lt (r + 1) 6 (fun h f hf => ⟨bz1, ?_⟩) (fun h => ⟨bz0, H0 ?_⟩)⟩
      · rw [hf, nI_p1]
        exact H1 (r + 1) 0 e (by unfold tk; rw [if_pos h59, if_pos ⟨e2, by omega⟩])
      · unfold tk; rw [if_pos h59, if_neg (fun q => absurd q.2 (by omega))]
  have B : v ≠ 59 → (v = 45 ∨ (97 ≤ v ∧ v ≤ 102)) → j_X5_fits_27 post (nI (r + 1)) (nI e) (nI c) := by
    intro h59 hl
    have C : ∀ m, m = (if c = 0 then 4 else c) → j_X5_fits_47 post (nI (r + 1)) (nI e) (nI c) (nI m) (nI e) := by
      intro m hm
      have m4 : m ≤ 4 := by rw [hm]; split <;> omega
      refine pk_lt e m (fun h f hf => ?_) (fun h => H0 ?_)
      · rw [hf, nI_p1]
        exact H1 r (e + 1) c (by unfold tk; rw [if_neg h59, if_pos ⟨hl, by omega⟩])
      · unfold tk; rw [if_neg h59, if_neg (fun q => absurd q.2 (by omega))]
    exact pk_eq (r + 1) 1 (fun h => C 4 (by rw [if_pos (h4.mpr (by omega))])) (fun h => C c (by rw [if_neg (fun q => by have := h4.mp q; omega)]))
  refine pk_eq v 59 (fun h59 => ?_) (fun h59 => pk_eq v 45 (fun h => B h59 (Or.inl h)) (fun h45 => q_stateOf (by omega) ?_))
  · refine pk_eq (r + 1) 1 (fun h => pk_lt e 2 (fun h2 => A h59 0 (Or.inl ⟨rfl, ?_⟩)) (fun h2 => A h59 1 (Or.inr ⟨rfl, ?_⟩))) (fun h => pk_eq e c (fun h2 => A h59 1 (Or.inr ⟨rfl, ?_⟩)) (fun h2 => A h59 0 (Or.inl ⟨rfl, ?_⟩)))
    · rw [if_pos (h4.mpr (by omega))]; omega
    · rw [if_pos (h4.mpr (by omega))]; omega
    · rw [if_neg (fun q => by have := h4.mp q; omega)]; exact h2
    · rw [if_neg (fun q => by have := h4.mp q; omega)]; exact h2
  · by_cases hl : 97 ≤ v ∧ v ≤ 102
    · exact ⟨fun q => by
        unfold stv gI lv1 at q
        simp only [if_pos hl] at q
        rw [if_neg (by omega)] at q
        exact absurd q (m1_ne (by omega)), fun _ => B h59 (Or.inr hl)⟩
    · refine ⟨fun _ => H0 ?_, fun q => absurd ?_ q⟩
      · unfold tk; rw [if_neg h59, if_neg (fun q => by rcases q.1 with q | q; exact h45 q; exact hl q)]
      · unfold stv gI lv1
        simp only [if_neg hl]
        rfl
theorem q_scan {post : Int32 → Int32 → Int32 → Int32 → Prop} {lt : Nat → Int32} {v : Nat → Nat} {len : Nat} {a b c d : Int32} (hl : len ≤ 40) (hv : ∀ i, i < len → lt i = nI (v i) ∧ v i < 128) (H : ∀ f r e c, FR v len f r e c → pinv r e c → f = r * (c + 1) + e → post (nI f) (nI (r + 1)) (nI e) (nI c)) : wp_X5_scan post lt (nI len) a b c d := by
  have key : ∀ n i r e c, i ≤ len → len - i < n → pr v i = some (r, e, c) → pinv r e c → i = r * (c + 1) + e → w_X5_scan_20 (fun a b c d => post a b c d) lt (nI len) n (nI i) (nI (r + 1)) (nI e) (nI c) := by
    intro n
    induction n with
    | zero => intro i r e c h1 h2; omega
    | succ n ih =>
      intro i r e c h1 h2 h3 h4 h6
      refine pk_le len i (fun hle => H i r e c ⟨h1, h3, fun q => absurd q (by omega)⟩ h4 h6) (fun hlt => ⟨pk_in i 40 (by omega), ?_⟩)
      obtain ⟨ev, hv2⟩ := hv i hlt
      rw [nI_clamp (show i < 2 ^ 31 by omega), ev]
      refine q_fits hv2 h4 (fun hn => ⟨fun _ => H i r e c ⟨h1, h3, fun _ => by rw [pr, h3]; exact hn⟩ h4 h6, fun q => absurd rfl q⟩) (fun r' e' c' hs => ⟨fun q => absurd q (by decide), fun _ z hz => ?_⟩)
      rw [hz, nI_p1 i]
      have hz2 := (rd_tk (na := fun k => stv (v ((k / 4) * (c + 1) + k % 4))) h4 h6 (fun s k hsk => by
        have hk4 : k < 4 ∨ k = 4 := by obtain ⟨q1, q2, q3, q4, q5⟩ := h4; omega
        obtain ⟨q1, q2, q3, q4, q5⟩ := h4
        have : k < 4 := by
          rcases hsk with q | q
          · omega
          · by_cases hc : c = 0
            · omega
            · have := q5 hc; omega
        show stv (v ((4 * s + k) / 4 * (c + 1) + (4 * s + k) % 4)) = _
        rw [show (4 * s + k) / 4 = s by omega, show (4 * s + k) % 4 = k by omega]) hs).1
      exact ih (i + 1) r' e' c' (by omega) (by omega) (by rw [pr, h3]; exact hs) (tk_inv h4 hs) hz2
  exact ⟨len + 1, key (len + 1) 0 0 0 0 (by omega) (by omega) rfl ⟨by omega, by omega, by omega, by omega, fun q => absurd rfl q⟩ rfl⟩
theorem gmx_of {v : Nat → Nat} {n m : Nat} (h : ∀ i, i < n → lv1 (v i) ≤ m) : gmx v n ≤ m := by
  induction n with
  | zero => exact Nat.zero_le _
  | succ n ih =>
    rw [gmx]
    have := ih (fun i hi => h i (by omega))
    have := h n (by omega)
    unfold mx
    split <;> omega
theorem gI_lt {g r : Nat} (hg : g < 2 ^ 30) (hr : r < 2 ^ 30) : gI g < nI (r + 1) ↔ g ≤ r + 1 := by
  have m1 : (-1 : Int32).toInt = -1 := by decide
  rw [Int32.lt_iff_toInt_lt, nI_toInt (by omega)]
  unfold gI
  by_cases h : g = 0
  · rw [if_pos h, m1]; omega
  · rw [if_neg h, nI_toInt (by omega)]; omega
theorem q_isTable {post : Int32 → Prop} {lt : Nat → Int32} {v : Nat → Nat} {len f r e c : Nat} (hl : len ≤ 40) (hv : ∀ i, i < len → lt i = nI (v i) ∧ v i < 128) (hF : FR v len f r e c) (hI : pinv r e c) (H1 : f = len → e = c → 0 < r → gmx v len ≤ r + 1 → tabOK v len → post 1) (H0 : ¬ tabOK v len → post 0) : wp_X5_isTable post lt (nI len) (nI f) (nI (r + 1)) (nI e) (nI c) := by
  have i1 := hI.1
  have i2 := hI.2.1
  have i3 := hI.2.2.1
  have f1 := hF.1
  refine pk_lt f len (fun h => H0 ?_) (fun h => pk_lt (r + 1) 2 (fun h2 => H0 ?_) (fun h2 => pk_eq e c (fun ec => ?_) (fun h3 => H0 ?_)))
  · rintro ⟨r', c', hF', _, _⟩
    have := FR_eq hF hF'
    omega
  · rintro ⟨r', c', hF', _, _⟩
    have := FR_eq hF hF'
    omega
  · have fl : f = len := by omega
    subst fl
    subst ec
    have key : ∀ n i, i ≤ f → f - i < n → (∀ j, j < i → lv1 (v j) ≤ r + 1) → w_X5_isTable_34 post (post 1) lt (nI f) (nI (r + 1)) n (nI i) := by
      intro n
      induction n with
      | zero => intro i h1 h2; omega
      | succ n ih =>
        intro i h1 h2 h3
        refine pk_le f i (fun hle => ?_) (fun hlt => ⟨pk_in i 40 (by omega), ?_⟩)
        · have hg := gmx_of (v := v) (n := f) (m := r + 1) (fun j hj => h3 j (by omega))
          exact H1 rfl rfl (by omega) hg ⟨r, e, hF, by omega, hg⟩
        · obtain ⟨ev, hv2⟩ := hv i hlt
          rw [nI_clamp (show i < 2 ^ 31 by omega), ev]
          refine q_stateOf (by omega) ?_
          have l6 := lv1_lt (v i)
          unfold stv
          rw [gI_lt (by omega) (by omega)]
          refine ⟨fun h4 z hz => ?_, fun h4 => H0 ?_⟩
          · rw [hz, nI_p1 i]
            refine ih (i + 1) (by omega) (by omega) (fun j hj => ?_)
            by_cases ej : j = i
            · rw [ej]; exact h4
            · exact h3 j (by omega)
          · rintro ⟨r', c', hF', _, hg⟩
            have := FR_eq hF hF'
            have := lv1_gmx (v := v) hlt
            omega
    exact ⟨f + 1, key (f + 1) 0 (by omega) (by omega) (fun j hj => absurd hj (by omega))⟩
  · rintro ⟨r', c', hF', _, _⟩
    have := FR_eq hF hF'
    omega
theorem q_at {post : Int32 → Prop} {lt : Nat → Int32} {pl : Nat} {x : Int32} (hl : pl ≤ 40) (H : ∀ r, post r) : wp_X5_at post lt (nI pl) x := by
  refine ⟨fun _ => H _, fun a => ⟨fun _ => H _, fun b => ?_⟩⟩
  obtain ⟨j, _, _, hv⟩ := ix_in a b hl (by decide)
  exact ⟨hv, H _⟩
theorem q_stateAt {post : Int32 → Prop} {lt : Nat → Int32} {pl : Nat} {w x y : Int32} (hl : pl ≤ 40) (H : ∀ r, post r) : wp_X5_stateAt post lt (nI pl) w x y := q_at hl (fun _ => q_stateOfA (fun _ => H _))
theorem q_hasState {post : Int32 → Prop} {st : Nat} {x : Int32} (hs : st ≤ 6) (H0 : post 0) (H1 : ∀ j, j < st → x = nI j → post 1) : wp_X2_hasState post (nI st) x := by
  refine ⟨fun _ => H0, fun a => ⟨fun _ => H0, fun b => ?_⟩⟩
  obtain ⟨j, hj, e, _⟩ := ix_in a b (Nat.le_refl _) (by omega)
  exact H1 j hj e
theorem q_hasColumn {post : Int32 → Prop} {co : Nat} {x : Int32} (hs : co ≤ 4) (H0 : post 0) (H1 : ∀ j, j < co → x = nI j → post 1) : wp_X2_hasColumn post (nI co) x := by
  refine ⟨fun _ => H0, fun a => ⟨fun _ => H0, fun b => ?_⟩⟩
  obtain ⟨j, hj, e, _⟩ := ix_in a b (Nat.le_refl _) (by omega)
  exact H1 j hj e
theorem q_next {post : Int32 → Prop} {en : Nat → Int32} {st co : Nat} {x y : Int32} (hs : st ≤ 6) (hc : co ≤ 4) (H : ∀ r, post r) : wp_X2_next post en (nI st) (nI co) x y := by
  refine q_hasState hs ⟨fun _ => H _, fun q => absurd rfl q⟩ (fun j hj e => ⟨fun _ => H _, fun _ => q_hasColumn hc ⟨fun _ => H _, fun q => absurd rfl q⟩ (fun k hk e2 => ⟨fun _ => H _, fun _ => ?_⟩)⟩)
  rw [e, e2, nI4]
  exact ⟨pk_in (4 * j + k) 24 (by omega), H _⟩
theorem q_inspectEntry {post : Int32 → Int32 → Int32 → Prop} {en : Nat → Int32} {st co : Nat} {a b c x y : Int32} (hs : st ≤ 6) (hc : co ≤ 4) (H : ∀ a b c, post a b c) : wp_X2_inspectEntry post en (nI st) (nI co) a b c x y := by
  have J : ∀ a b c x y z, j_X2_inspectEntry_38 post en (nI st) (nI co) a b c x y z := fun a b c x y z => ⟨fun _ => q_next hs hc (fun _ => ⟨fun _ => H _ _ _, fun _ _ _ => H _ _ _⟩), fun _ => H _ _ _⟩
  exact q_next hs hc (fun _ => ⟨fun _ => H _ _ _, fun _ _ _ => ⟨fun _ _ _ => J _ _ _ _ _ _, fun _ => J _ _ _ _ _ _⟩⟩)
theorem q_inspect {post : Int32 → Int32 → Int32 → Int32 → Prop} {en : Nat → Int32} {st co : Nat} {a b c d : Int32} (hs : st ≤ 6) (hc : co ≤ 4) (H : ∀ a b c d, d = 0 ∨ d = 1 → post a b c d) : wp_X2_inspect post en (nI st) (nI co) a b c d := by
  have k1 : ∀ (KE : Int32 → Int32 → Int32 → Prop) (s : Int32), (∀ a b c, KE a b c) → ∀ n i a b c, i ≤ co → co - i < n → w_X2_inspect_27 KE en (nI st) (nI co) s n (nI i) a b c := by
    intro KE s hK n
    induction n with
    | zero => intro i a b c h1 h2; omega
    | succ n ih =>
      intro i a b c h1 h2
      exact pk_le co i (fun _ => hK _ _ _) (fun hlt => q_inspectEntry hs hc (fun a b c z hz => by rw [hz, nI_p1 i]; exact ih (i + 1) a b c (by omega) (by omega)))
  have k2 : ∀ n i a b c, i ≤ st → st - i < n → w_X2_inspect_17 (fun (ymoves_7 : Int32) (ystables_7 : Int32) (yamiss_7 : Int32) => ((yamiss_7 = ((-1) : Int32) → post ymoves_7 ystables_7 yamiss_7 (1 : Int32)) ∧ (¬ yamiss_7 = ((-1) : Int32) → post ymoves_7 ystables_7 yamiss_7 (0 : Int32)))) en (nI st) (nI co) n (nI i) a b c := by
    intro n
    induction n with
    | zero => intro i a b c h1 h2; omega
    | succ n ih =>
      intro i a b c h1 h2
      exact pk_le st i (fun _ => ⟨fun _ => H _ _ _ _ (Or.inr rfl), fun _ => H _ _ _ _ (Or.inl rfl)⟩) (fun hlt => ⟨5, k1 _ _ (fun a b c z hz => by rw [hz, nI_p1 i]; exact ih (i + 1) a b c (by omega) (by omega)) 5 0 _ _ _ (by omega) (by omega)⟩)
  exact ⟨7, k2 7 0 _ _ _ (by omega) (by omega)⟩
theorem q_read {post : (Nat → Int32) → Int32 → Int32 → Int32 → Int32 → Int32 → Int32 → Prop} {lt en : Nat → Int32} {pl st co : Nat} {a b c d e f : Int32} (hl : pl ≤ 40) (hs : st ≤ 6) (hc : co ≤ 4) (H : ∀ en' c d e f, f = 0 ∨ f = 1 → post en' (nI st) (nI co) c d e f) : wp_X2_read post lt (nI pl) (nI st) (nI co) en a b c d e f := by
  have k1 : ∀ (KE : (Nat → Int32) → Prop) (s : Nat), s < st → (∀ a, KE a) → ∀ n i en, i ≤ co → co - i < n → w_X2_read_28 KE lt (nI pl) (nI co) (nI co) (nI s) n (nI i) en := by
    intro KE s hs2 hK n
    induction n with
    | zero => intro i en h1 h2; omega
    | succ n ih =>
      intro i en h1 h2
      refine pk_le co i (fun _ => hK _) (fun hlt => q_stateAt hl (fun r => ?_))
      rw [nI4]
      exact ⟨pk_in (4 * s + i) 24 (by omega), fun a _ z hz => by rw [hz, nI_p1 i]; exact ih (i + 1) a (by omega) (by omega)⟩
  have k2 : ∀ (KE : (Nat → Int32) → Prop), (∀ a, KE a) → ∀ n i en, i ≤ st → st - i < n → w_X2_read_18 KE lt (nI pl) (nI co) (nI st) (nI co) n (nI i) en := by
    intro KE hK n
    induction n with
    | zero => intro i en h1 h2; omega
    | succ n ih =>
      intro i en h1 h2
      exact pk_le st i (fun _ => hK _) (fun hlt => ⟨5, k1 _ i hlt (fun a z hz => by rw [hz, nI_p1 i]; exact ih (i + 1) a (by omega) (by omega)) 5 0 _ (by omega) (by omega)⟩)
  exact ⟨7, k2 _ (fun en' => q_inspect hs hc (fun a b c d h => H _ _ _ _ _ h)) 7 0 _ (by omega) (by omega)⟩
theorem q_isInside {post : Int32 → Prop} {a b c d : Int32} (H : ∀ r, post r) : wp_X6_isInside post a b c d :=
  ⟨fun _ => ⟨fun _ => H _, fun _ => ⟨fun _ => ⟨fun _ => H _, fun _ => H _⟩, fun _ => H _⟩⟩, fun _ => ⟨fun _ => ⟨fun _ => H _, fun _ => H _⟩, fun _ => H _⟩⟩
theorem q_lesser {post : Int32 → Prop} {lo : Nat → Int32} {pn : Nat} {x : Int32} (hp : pn ≤ 75) (H : ∀ r, post r) : wp_X6_lesser post lo (nI pn) x := by
  refine ⟨fun _ => H _, fun a => ⟨fun _ => H _, fun b => ?_⟩⟩
  obtain ⟨j, _, _, hv⟩ := ix_in a b hp (by decide)
  exact ⟨hv, H _⟩
theorem q_greater {post : Int32 → Prop} {lo : Nat → Int32} {pn : Nat} {x : Int32} (hp : pn ≤ 75) (H : ∀ r, post r) : wp_X6_greater post lo (nI pn) x := by
  refine ⟨fun _ => H _, fun a => ⟨fun _ => H _, fun b => ?_⟩⟩
  obtain ⟨j, _, _, hv⟩ := ix_in a b hp (by decide)
  exact ⟨hv, H _⟩
theorem q_isKeptBy {post : Int32 → Prop} {lo hi : Nat → Int32} {pn : Nat} {x y : Int32} (hp : pn ≤ 75) (H : ∀ r, post r) : wp_X6_isKeptBy post lo hi (nI pn) x y := by
  have E : ∀ x3 x4 : Int32, ((x4 = 0 → (wp_X6_lesser (fun (r : Int32) => ((x3 = r → post (1 : Int32)) ∧ (¬ x3 = r → post (0 : Int32)))) lo (nI pn) x)) ∧ (¬ x4 = 0 → post (0 : Int32))) := fun x3 x4 => ⟨fun _ => q_lesser hp (fun _ => ⟨fun _ => H _, fun _ => H _⟩), fun _ => H _⟩
  exact q_lesser hp (fun _ x3 _ => q_greater hp (fun _ x4 _ => ⟨fun _ => q_greater hp (fun _ => ⟨fun _ => H _, fun _ => E _ _⟩), fun _ => E _ _⟩))
theorem q_dropInside {post : (Nat → Int32) → (Nat → Int32) → Int32 → Prop} {lo hi : Nat → Int32} {pn : Nat} {x1 x2 : Int32} (hp : pn ≤ 75) (H : ∀ l h k, k ≤ pn → post l h (nI k)) : wp_X6_dropInside post lo hi (nI pn) x1 x2 := by
  have key : ∀ n k i l h, k ≤ i → i ≤ pn → pn - i < n → w_X6_dropInside_5 (fun a b c => post b c a) (nI pn) x1 x2 n (nI k) (nI i) l h := by
    intro n
    induction n with
    | zero => intro k i l h h1 h2 h3; omega
    | succ n ih =>
      intro k i l h h1 h2 h3
      refine pk_le pn i (fun _ => H _ _ _ (by omega)) (fun hlt => ?_)
      have hi : vp_in (nI i) 75 := pk_in i 75 (by omega)
      have hk : vp_in (nI k) 75 := pk_in k 75 (by omega)
      refine ⟨hi, hi, q_isInside (fun r => ⟨fun _ => ⟨hi, hk, fun l2 _ => ⟨hi, hk, fun h2 _ x5 e5 x6 e6 => ?_⟩⟩, fun _ x6 e6 => ?_⟩)⟩
      · rw [e5, e6, nI_p1, nI_p1]
        exact ih (k + 1) (i + 1) l2 h2 (by omega) (by omega) (by omega)
      · rw [e6, nI_p1]
        exact ih k (i + 1) l h (by omega) (by omega) (by omega)
  exact ⟨pn + 1, key (pn + 1) 0 0 lo hi (by omega) (by omega) (by omega)⟩
theorem q_isBehind {post : Int32 → Prop} {lo hi : Nat → Int32} {k : Nat} {x2 x3 : Int32} (hk : k < 75) (H : ∀ r, post r) : wp_X6_isBehind post lo hi (nI k) x2 x3 := by
  have hv : vp_in (nI k) 75 := pk_in k 75 hk
  exact ⟨hv, fun _ => H _, fun _ => ⟨hv, fun _ => ⟨hv, fun _ => H _, fun _ => H _⟩, fun _ => H _⟩⟩
theorem q_insert {post : (Nat → Int32) → (Nat → Int32) → Int32 → Prop} {lo hi : Nat → Int32} {pn : Nat} {x1 x2 : Int32} (hp : pn ≤ 75) (H : ∀ l h k, k ≤ 75 → post l h (nI k)) : wp_X6_insert post lo hi (nI pn) x1 x2 := by
  refine pk_lt pn 75 (fun hlt => ⟨pn + 1, ?_⟩) (fun _ => H _ _ _ hp)
  have key : ∀ n i l h, i ≤ pn → i < n → w_X6_insert_15 (fun (x3_10 : Int32) (ylessers_10 : Nat → Int32) (ygreaters_10 : Nat → Int32) => (j_X6_insert_65 post ylessers_10 ygreaters_10 (nI pn) x1 x2 x3_10)) x1 x2 n (nI i) l h := by
    intro n
    induction n with
    | zero => intro i l h h1 h2; omega
    | succ n ih =>
      intro i l h h1 h2
      have fin : ∀ i l h, i ≤ pn → j_X6_insert_65 post l h (nI pn) x1 x2 (nI i) := by
        intro i l h hi
        have hv : vp_in (nI i) 75 := pk_in i 75 (by omega)
        refine ⟨hv, fun a _ => ⟨hv, fun b _ f hf => ?_⟩⟩
        rw [hf, nI_p1]
        exact H _ _ _ (by omega)
      refine pk_le i 0 (fun _ => fin i _ _ h1) (fun hlt => ?_)
      obtain ⟨j, rfl⟩ : ∃ j, i = j + 1 := ⟨i - 1, by omega⟩
      rw [nI_pred]
      have hj : vp_in (nI j) 75 := pk_in j 75 (by omega)
      have hj1 : vp_in (nI (j + 1)) 75 := pk_in (j + 1) 75 (by omega)
      refine q_isBehind (by omega) (fun r => ⟨fun _ => fin _ _ _ h1, fun _ => ⟨hj, hj1, fun a _ => ⟨hj, hj1, fun b _ z hz => ?_⟩⟩⟩)
      rw [hz, pk_m1]
      exact ih j a b (by omega) (by omega)
  exact key (pn + 1) pn lo hi (by omega) (by omega)
theorem q_offer {post : (Nat → Int32) → (Nat → Int32) → Int32 → Prop} {lo hi : Nat → Int32} {pn : Nat} {x1 x2 : Int32} (hp : pn ≤ 75) (H : ∀ l h k, k ≤ 75 → post l h (nI k)) : wp_X6_offer post lo hi (nI pn) x1 x2 := by
  intro a ha b hb
  clear ha hb
  have key : ∀ (KE : Prop), KE → ∀ n i, i ≤ pn → pn - i < n → w_X6_offer_16 post KE lo hi (nI pn) a b n (nI i) := by
    intro KE hK n
    induction n with
    | zero => intro i h1 h2; omega
    | succ n ih =>
      intro i h1 h2
      have hi : i < pn → vp_in (nI i) 75 := fun h => pk_in i 75 (by omega)
      exact pk_le pn i (fun _ => hK) (fun hlt => ⟨hi hlt, hi hlt, q_isInside (fun _ => ⟨fun _ z hz => by rw [hz, nI_p1 i]; exact ih (i + 1) (by omega) (by omega), fun _ => H _ _ _ hp⟩)⟩)
  refine ⟨pn + 1, key _ ?_ (pn + 1) 0 (by omega) (by omega)⟩
  refine q_dropInside hp (fun l h k hk => ?_)
  refine q_insert (pn := k) (by omega) (fun l h k hk => ?_)
  exact H l h k hk
theorem q_offerMoves {post : (Nat → Int32) → (Nat → Int32) → Int32 → Prop} {en lo hi : Nat → Int32} {st co pn : Nat} {x y z : Int32} (hs : st ≤ 6) (hc : co ≤ 4) (hp : pn ≤ 75) (H : ∀ l h k, k ≤ 75 → post l h (nI k)) : wp_X6_offerMoves post en (nI st) (nI co) lo hi (nI pn) x y z :=
  q_next hs hc (fun _ => q_next hs hc (fun _ => ⟨fun _ => H _ _ _ hp, fun _ => ⟨fun _ => H _ _ _ hp, fun _ => ⟨fun _ => H _ _ _ hp, fun _ => q_offer hp (fun l h k hk => H l h k hk)⟩⟩⟩))
theorem q_gather {post : (Nat → Int32) → (Nat → Int32) → Int32 → Prop} {en lo hi : Nat → Int32} {st co : Nat} {pa : Int32} (hs : st ≤ 6) (hc : co ≤ 4) (H : ∀ l h k, k ≤ 75 → post l h (nI k)) : wp_X6_gather post en (nI st) (nI co) lo hi pa := by
  have k3 : ∀ (KE : (Nat → Int32) → (Nat → Int32) → Int32 → Prop) (r s : Int32), (∀ l h k, k ≤ 75 → KE l h (nI k)) → ∀ n i l h k, i ≤ co → co - i < n → k ≤ 75 → w_X6_gather_39 KE en (nI st) (nI co) r s n (nI i) l h (nI k) := by
    intro KE r s hK n
    induction n with
    | zero => intro i l h k h1 h2; omega
    | succ n ih =>
      intro i l h k h1 h2 h3
      exact pk_le co i (fun _ => hK _ _ _ h3) (fun hlt => q_offerMoves hs hc h3 (fun l h k hk z hz => by rw [hz, nI_p1 i]; exact ih (i + 1) l h k (by omega) (by omega) hk))
  have k2 : ∀ (KE : (Nat → Int32) → (Nat → Int32) → Int32 → Prop) (r : Int32), (∀ l h k, k ≤ 75 → KE l h (nI k)) → ∀ n i l h k, i ≤ st → st - i < n → k ≤ 75 → w_X6_gather_18 KE en (nI st) (nI co) r n (nI i) l h (nI k) := by
    intro KE r hK n
    induction n with
    | zero => intro i l h k h1 h2; omega
    | succ n ih =>
      intro i l h k h1 h2 h3
      exact pk_le st i (fun _ => hK _ _ _ h3) (fun hlt => q_offer h3 (fun l h k hk => ⟨5, k3 _ _ _ (fun l h k hk z hz => by rw [hz, nI_p1 i]; exact ih (i + 1) l h k (by omega) (by omega) hk) 5 0 l h k (by omega) (by omega) hk⟩))
  have k1 : ∀ n i l h k, i ≤ st → st - i < n → k ≤ 75 → w_X6_gather_6 (fun a b c => post a b c) en (nI st) (nI co) n (nI i) l h (nI k) := by
    intro n
    induction n with
    | zero => intro i l h k h1 h2; omega
    | succ n ih =>
      intro i l h k h1 h2 h3
      refine pk_le st i (fun _ => H _ _ _ h3) (fun hlt b hb => ?_)
      rw [hb, nI_p1 i]
      exact ⟨7, k2 _ _ (fun l h k hk z hz => by rw [hz]; exact ih (i + 1) l h k (by omega) (by omega) hk) 7 (i + 1) l h k (by omega) (by omega) h3⟩
  exact ⟨7, k1 7 0 lo hi 0 (by omega) (by omega) (by omega)⟩
