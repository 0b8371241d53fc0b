theorem q_bitCount {post : Int32 → Prop} {x : Int32} (H : ∀ r, post r) : wp_J6_bitCount post x := fun _ _ _ _ _ _ _ _ _ _ => H _
theorem q_prepare {post : (Nat → Int64) → (Nat → Int64) → Int32 → Prop} {lo hi : Nat → Int32} {kp kf : Nat → Int64} {pn : Nat} {ca x1 : Int32} (hp : pn ≤ 75) (H : ∀ a b k, k ≤ 32 → post a b (nI k)) : wp_X3_prepare post lo hi (nI pn) kp kf ca x1 := by
  have k1 : ∀ (KE : Int64 → Prop) (x : Int32), (∀ a, KE a) → ∀ n i a, i ≤ pn → pn - i < n → w_X3_prepare_51 KE lo hi (nI pn) x n a (nI i) := by
    intro KE x hK n
    induction n with
    | zero => intro i a h1 h2; omega
    | succ n ih =>
      intro i a h1 h2
      exact pk_le pn i (fun _ => hK _) (fun hlt => q_isKeptBy hp (fun _ => ⟨fun _ z hz => by rw [hz, nI_p1 i]; exact ih (i + 1) a (by omega) (by omega), fun _ b _ z hz => by rw [hz, nI_p1 i]; exact ih (i + 1) b (by omega) (by omega)⟩))
  have k2 : ∀ (KE : (Nat → Int64) → (Nat → Int64) → Prop), (∀ a b, KE a b) → ∀ n i a b, i ≤ 32 → i < n → w_X3_prepare_41 KE lo hi (nI pn) n (nI i + (-1)) a b := by
    intro KE hK n
    induction n with
    | zero => intro i a b h1 h2; omega
    | succ n ih =>
      intro i a b h1 h2
      cases i with
      | zero =>
        rw [show nI 0 + (-1) = (-1 : Int32) from by decide]
        exact ⟨fun _ => hK _ _, fun q => absurd (by decide) q⟩
      | succ i =>
        rw [pk_m1]
        refine pk_lt i 0 (fun q => absurd q (by omega)) (fun _ => ⟨76, k1 _ _ (fun m => ?_) 76 0 _ (by omega) (by omega)⟩)
        rw [nI_p1]
        exact ⟨pk_in i 32 (by omega), fun a _ => ⟨pk_in (i + 1) 33 (by omega), pk_in i 33 (by omega), fun b _ z hz => by rw [hz]; exact ih i a b (by omega) (by omega)⟩⟩
  have J : ∀ k, k ≤ 32 → j_X3_prepare_21 post lo hi (nI pn) kp kf (nI k) := by
    intro k hk
    refine ⟨pk_in k 33 (by omega), fun a _ z hz => ⟨34, ?_⟩⟩
    rw [hz, show nI k - 1 = nI k + (-1) from by
      cases k with
      | zero => decide
      | succ k => rw [nI_pred, pk_m1]]
    exact k2 _ (fun a b => H a b k hk) 34 k _ _ hk (by omega)
  refine ⟨fun _ => J 0 (by omega), fun h1 => ⟨fun _ => J 0 (by omega), fun h2 => ?_⟩⟩
  have h0 : ¬ x1 < 0 := fun q => h1 (by
    rw [Int32.lt_iff_toInt_lt] at q ⊢
    have e1 : (0 : Int32).toInt = 0 := by decide
    have e2 : (2 : Int32).toInt = 2 := by decide
    omega)
  obtain ⟨j, hj, rfl⟩ := nI_of h0
  rw [show (2 : Int32) = nI 2 from rfl, nI_ltI hj (by omega)] at h1
  rw [show (6 : Int32) = nI 6 from rfl, nI_ltI (by omega) hj] at h2
  rw [show (1 : Int32) = nI 1 from rfl, pk_sub (by omega), show nI 1 = (1 : Int32) from rfl, sh1 (j - 1) (by omega)]
  exact J _ (p2_5 (by omega))
theorem q_fill {sgA : Nat → Int32} {kp kf : Nat → Int64} {ca : Nat} (hc : ca ≤ 32) : ∀ (d : Nat) (post : Int32 → (Nat → Int32) → Prop) (sg : Nat → Int32) (dp : Nat) (x2 x3 : Int32) (x4 : Int64) (fr : Nat), x3 = nI fr → fr ≤ 33 → dp ≤ 5 → 5 - dp < d → (∀ r sg', post r sg') → wp_X3_fill d post sg kp kf (nI ca) (nI dp) x2 x3 x4 := by
  intro d
  induction d with
  | zero => intro post sg dp x2 x3 x4 fr _ _ h1 h2; omega
  | succ d ihd =>
    intro post sg dp x2 x3 x4 fr e3 hfr h1 h2 H
    have L : ∀ (x6 : Int32), dp < 5 → ∀ (KE : (Nat → Int32) → Prop), (∀ a, KE a) → ∀ n i sg, i ≤ 33 → 33 - i < n → w_X3_fill_40 (wp_X3_fill d) post KE kp kf (nI ca) (nI dp) x2 x4 x6 n (nI i) sg := by
      intro x6 hdp KE hK n
      induction n with
      | zero => intro i sg h1 h2; omega
      | succ n ih =>
        intro i sg q1 q2
        refine pk_le ca i (fun _ => hK _) (fun hlt => ⟨pk_in i 33 (by omega), fun _ => ⟨pk_in i 32 (by omega), fun x8 _ => ?_⟩, fun _ => hK _⟩)
        have hr : ∀ sg b, b = nI i + 1 → w_X3_fill_40 (wp_X3_fill d) post KE kp kf (nI ca) (nI dp) x2 x4 x6 n b sg := fun sg b hb => by rw [hb, nI_p1 i]; exact ih (i + 1) sg (by omega) (by omega)
        have J : ∀ v, j_X3_fill_117 (wp_X3_fill d) post (w_X3_fill_40 (wp_X3_fill d) post KE kp kf (nI ca) (nI dp) x2 x4 x6 n) sg kp kf (nI ca) (nI dp) x2 (nI i) x8 v := by
          intro v
          refine ⟨fun _ => hr sg, fun _ => ?_⟩
          rw [nI_p1 dp]
          exact ihd _ _ (dp + 1) _ _ _ (i + 1) (nI_p1 i) (by omega) (by omega) (by omega) (fun r sg' => ⟨fun _ => hr sg', fun _ => ⟨pk_in dp 5 hdp, fun _ _ => H _ _⟩⟩)
        exact ⟨fun _ => ⟨fun _ => J _, fun _ => J _⟩, fun _ => ⟨fun _ => J _, fun _ => J _⟩⟩
    refine ⟨fun _ => ⟨fun _ => H _ _, fun _ => H _ _⟩, fun _ => pk_lt dp 5 (fun h5 => ?_) (fun _ => ⟨fun _ => H _ _, fun _ => H _ _⟩)⟩
    rw [e3]
    exact ⟨fun _ => ⟨34, L 1 h5 _ (fun _ => H _ _) 34 fr sg hfr (by omega)⟩, fun _ => ⟨34, L 0 h5 _ (fun _ => H _ _) 34 fr sg hfr (by omega)⟩⟩
theorem q_find {post : (Nat → Int32) → (Nat → Int64) → (Nat → Int64) → Int32 → Int32 → Prop} {lo hi sg : Nat → Int32} {kp kf : Nat → Int64} {pn : Nat} {ca sz x1 : Int32} (hp : pn ≤ 75) (H : ∀ sg' kp' kf' k z, k ≤ 32 → z ≤ 5 → post sg' kp' kf' (nI k) (nI z)) : wp_X3_find post lo hi (nI pn) sg kp kf ca sz x1 := by
  refine q_prepare hp (fun a b k hk => ⟨pk_in 0 33 (by omega), fun x3 _ => ⟨7, ?_⟩⟩)
  have key : ∀ n i sg z, 1 ≤ i → i ≤ 6 → 6 - i < n → z ≤ 5 → w_X3_find_21 (fun (ysignals_10 : Nat → Int32) (ysize_10 : Int32) => post ysignals_10 a b (nI k) ysize_10) a b (nI k) x3 n (nI i) sg (nI z) := by
    intro n
    induction n with
    | zero => intro i sg z h1 h2; omega
    | succ n ih =>
      intro i sg z h1 h2 h3 h4
      refine pk_lt 5 i (fun _ => H _ _ _ _ _ hk h4) (fun hle => pk_eq z 0 (fun _ => ?_) (fun _ => H _ _ _ _ _ hk h4))
      refine q_fill (sgA := sg) hk 7 _ _ 0 _ _ _ 0 rfl (by omega) (by omega) (by omega) (fun r sg' => ⟨fun _ z2 hz => ?_, fun _ z2 hz => ?_⟩)
      · rw [hz, nI_p1 i]; exact ih (i + 1) sg' z (by omega) (by omega) (by omega) h4
      · rw [hz, nI_p1 i]; exact ih (i + 1) sg' i (by omega) (by omega) (by omega) (by omega)
  exact key 7 1 sg 0 (by omega) (by omega) (by omega) (by omega)
theorem q_cempty {post : (Nat → Int32) → Int32 → Prop} {cd : Nat → Int32} {z : Int32} (H : ∀ a, post a 0) : wp_X7_empty post cd z := by
  have key : ∀ n i a, i ≤ 6 → 6 - i < n → w_X7_empty_7 (fun a => post a 0) n (nI i) a := by
    intro n
    induction n with
    | zero => intro i a h1 h2; omega
    | succ n ih =>
      intro i a h1 h2
      exact pk_le 6 i (fun _ => H _) (fun hlt => ⟨pk_in i 6 hlt, fun a _ z hz => by rw [hz, nI_p1 i]; exact ih (i + 1) a (by omega) (by omega)⟩)
  exact ⟨7, key 7 0 _ (by omega) (by omega)⟩
theorem q_add {post : Int32 → (Nat → Int32) → (Nat → Int32) → Int32 → Prop} {sg cd : Nat → Int32} {g : Nat} {x1 : Int32} (hg : g ≤ 5) (H : ∀ r a b k, k ≤ 5 → post r a b (nI k)) : wp_X7_add post sg cd (nI g) x1 := by
  refine pk_lt g 5 (fun hlt => ⟨pk_in g 5 hlt, fun a _ => ⟨7, ?_⟩⟩) (fun _ => H _ _ _ _ hg)
  have key : ∀ n i b, i ≤ 6 → 6 - i < n → w_X7_add_22 (fun (ycodes_7 : Nat → Int32) => (∀ f_8 : Int32, f_8 = (nI g + (1 : Int32)) → post (1 : Int32) a ycodes_7 f_8)) (nI g) x1 n (nI i) b := by
    intro n
    induction n with
    | zero => intro i b h1 h2; omega
    | succ n ih =>
      intro i b h1 h2
      exact pk_le 6 i (fun _ f hf => by rw [hf, nI_p1 g]; exact H _ _ _ _ (by omega)) (fun hlt => ⟨pk_in i 6 hlt, pk_in i 6 hlt, fun b _ z hz => by rw [hz, nI_p1 i]; exact ih (i + 1) b (by omega) (by omega)⟩)
  exact key 7 0 _ (by omega) (by omega)
theorem q_take {post : (Nat → Int32) → (Nat → Int32) → Int32 → Prop} {ls sg cd : Nat → Int32} {m : Nat} {z : Int32} (hm : m ≤ 5) (H : ∀ a b k, k ≤ 5 → post a b (nI k)) : wp_X7_take post ls (nI m) sg cd z := by
  refine q_cempty (fun a => ⟨6, ?_⟩)
  have key : ∀ n i a b k, i ≤ m → m - i < n → k ≤ 5 → w_X7_take_6 (fun a b c => post a b c) ls (nI m) n (nI i) a b (nI k) := by
    intro n
    induction n with
    | zero => intro i a b k h1 h2; omega
    | succ n ih =>
      intro i a b k h1 h2 h3
      exact pk_le m i (fun _ => H _ _ _ h3) (fun hlt => ⟨pk_in i 5 (by omega), q_add h3 (fun r a b k hk z hz => by rw [hz, nI_p1 i]; exact ih (i + 1) a b k (by omega) (by omega) hk)⟩)
  exact key 6 0 _ _ 0 (by omega) (by omega) (by omega)
theorem q_keepersOf {post : Int32 → Prop} {lo hi sg : Nat → Int32} {pn g : Nat} {x : Int32} (hp : pn ≤ 75) (hg : g ≤ 5) (H : ∀ r, post r) : wp_X7_keepersOf post lo hi (nI pn) sg (nI g) x := by
  have key : ∀ n i a, i ≤ g → g - i < n → w_X7_keepersOf_5 (fun a => post a) lo hi (nI pn) sg (nI g) x n a (nI i) := by
    intro n
    induction n with
    | zero => intro i a h1 h2; omega
    | succ n ih =>
      intro i a h1 h2
      exact pk_le g i (fun _ => H _) (fun hlt => ⟨pk_in i 5 (by omega), q_isKeptBy hp (fun _ => ⟨fun _ z hz => by rw [hz, nI_p1 i]; exact ih (i + 1) a (by omega) (by omega), fun _ b _ z hz => by rw [hz, nI_p1 i]; exact ih (i + 1) b (by omega) (by omega)⟩)⟩)
  exact ⟨6, key 6 0 _ (by omega) (by omega)⟩
theorem q_countUnkept {post : Int32 → Prop} {lo hi sg : Nat → Int32} {pn g : Nat} (hp : pn ≤ 75) (hg : g ≤ 5) (H : ∀ r, post r) : wp_X7_countUnkept post lo hi (nI pn) sg (nI g) := by
  have key : ∀ n i a, i ≤ pn → pn - i < n → w_X7_countUnkept_4 (fun a => post a) lo hi (nI pn) sg (nI g) n a (nI i) := by
    intro n
    induction n with
    | zero => intro i a h1 h2; omega
    | succ n ih =>
      intro i a h1 h2
      exact pk_le pn i (fun _ => H _) (fun hlt => q_keepersOf hp hg (fun _ => ⟨fun _ b _ z hz => by rw [hz, nI_p1 i]; exact ih (i + 1) b (by omega) (by omega), fun _ z hz => by rw [hz, nI_p1 i]; exact ih (i + 1) a (by omega) (by omega)⟩))
  exact ⟨76, key 76 0 _ (by omega) (by omega)⟩
theorem q_ccodeOf {post : Int32 → Prop} {cd : Nat → Int32} {x : Int32} (H : ∀ r, post r) : wp_X7_codeOf post cd x := by
  refine ⟨fun _ => H _, fun a => ⟨fun _ => H _, fun b => ?_⟩⟩
  obtain ⟨j, _, _, hv⟩ := ix_in (n := 6) a b (Nat.le_refl 6) (by decide)
  exact ⟨hv, H _⟩
theorem q_changesBetween {post : Int32 → Prop} {cd : Nat → Int32} {x y : Int32} (H : ∀ r, post r) : wp_X7_changesBetween post cd x y := q_ccodeOf (fun _ => q_ccodeOf (fun _ => q_bitCount (fun _ => H _)))
theorem q_waysMeet {post : Int32 → Prop} {cd : Nat → Int32} {a b c d : Int32} (H : ∀ r, post r) : wp_X7_waysMeet post cd a b c d := q_ccodeOf (fun _ => q_ccodeOf (fun _ => q_ccodeOf (fun _ => q_ccodeOf (fun _ _ _ => q_ccodeOf (fun _ => q_ccodeOf (fun _ => ⟨fun _ => H _, fun _ => H _⟩))))))
theorem q_isWild {post : Int32 → Prop} {en cd : Nat → Int32} {st co : Nat} {x y : Int32} (hs : st ≤ 6) (hc : co ≤ 4) (H : ∀ r, post r) : wp_X7_isWild post en (nI st) (nI co) cd x y := by
  refine q_next hs hc (fun r => ⟨fun _ => H _, fun _ => ⟨7, ?_⟩⟩)
  have key : ∀ n i, i ≤ st → st - i < n → w_X7_isWild_19 post (post 0) en (nI st) (nI co) cd x y r n (nI i) := by
    intro n
    induction n with
    | zero => intro i h1 h2; omega
    | succ n ih =>
      intro i h1 h2
      have hr : i < st → ∀ b, b = nI i + 1 → w_X7_isWild_19 post (post 0) en (nI st) (nI co) cd x y r n b := fun hlt b hb => by rw [hb, nI_p1 i]; exact ih (i + 1) (by omega) (by omega)
      exact pk_le st i (fun _ => H _) (fun hlt => q_next hs hc (fun _ => ⟨fun _ => hr hlt, fun _ => ⟨fun _ => hr hlt, fun _ => q_waysMeet (fun _ => ⟨fun _ => hr hlt, fun _ => H _⟩)⟩⟩))
  exact key 7 0 (by omega) (by omega)
theorem q_countWild {post : Int32 → Prop} {en cd : Nat → Int32} {st co : Nat} (hs : st ≤ 6) (hc : co ≤ 4) (H : ∀ r, post r) : wp_X7_countWild post en (nI st) (nI co) cd := by
  have k1 : ∀ (KE : Int32 → Prop) (s : Int32), (∀ r, KE r) → ∀ n i a, i ≤ co → co - i < n → w_X7_countWild_15 KE en (nI st) (nI co) cd s n a (nI i) := by
    intro KE s hK n
    induction n with
    | zero => intro i a h1 h2; omega
    | succ n ih =>
      intro i a h1 h2
      exact pk_le co i (fun _ => hK _) (fun hlt => q_isWild hs hc (fun _ => ⟨fun _ z hz => by rw [hz, nI_p1 i]; exact ih (i + 1) a (by omega) (by omega), fun _ b _ z hz => by rw [hz, nI_p1 i]; exact ih (i + 1) b (by omega) (by omega)⟩))
  have k2 : ∀ n i a, i ≤ st → st - i < n → w_X7_countWild_4 (fun a => post a) en (nI st) (nI co) cd n a (nI i) := by
    intro n
    induction n with
    | zero => intro i a h1 h2; omega
    | succ n ih =>
      intro i a h1 h2
      exact pk_le st i (fun _ => H _) (fun hlt => ⟨5, k1 _ _ (fun r z hz => by rw [hz, nI_p1 i]; exact ih (i + 1) r (by omega) (by omega)) 5 0 _ (by omega) (by omega)⟩)
  exact ⟨7, k2 7 0 _ (by omega) (by omega)⟩
theorem q_firstWild {post : Int32 → Prop} {en cd : Nat → Int32} {st co : Nat} (hs : st ≤ 6) (hc : co ≤ 4) (H : ∀ r, post r) : wp_X7_firstWild post en (nI st) (nI co) cd := by
  have k1 : ∀ (KE : Prop) (s : Int32), KE → ∀ n i, i ≤ co → co - i < n → w_X7_firstWild_12 post KE en (nI st) (nI co) cd s n (nI i) := by
    intro KE s hK n
    induction n with
    | zero => intro i h1 h2; omega
    | succ n ih =>
      intro i h1 h2
      exact pk_le co i (fun _ => hK) (fun hlt => q_isWild hs hc (fun _ => ⟨fun _ z hz => by rw [hz, nI_p1 i]; exact ih (i + 1) (by omega) (by omega), fun _ => H _⟩))
  have k2 : ∀ n i, i ≤ st → st - i < n → w_X7_firstWild_2 post (post (-1)) en (nI st) (nI co) cd n (nI i) := by
    intro n
    induction n with
    | zero => intro i h1 h2; omega
    | succ n ih =>
      intro i h1 h2
      exact pk_le st i (fun _ => H _) (fun hlt => ⟨5, k1 _ _ (fun z hz => by rw [hz, nI_p1 i]; exact ih (i + 1) (by omega) (by omega)) 5 0 (by omega) (by omega)⟩)
  exact ⟨7, k2 7 0 (by omega) (by omega)⟩
theorem q_mostChanges {post : Int32 → Prop} {en cd : Nat → Int32} {st co : Nat} (hs : st ≤ 6) (hc : co ≤ 4) (H : ∀ r, post r) : wp_X7_mostChanges post en (nI st) (nI co) cd := by
  have k1 : ∀ (KE : Int32 → Prop) (s : Int32), (∀ r, KE r) → ∀ n i a, i ≤ co → co - i < n → w_X7_mostChanges_15 KE en (nI st) (nI co) cd s n a (nI i) := by
    intro KE s hK n
    induction n with
    | zero => intro i a h1 h2; omega
    | succ n ih =>
      intro i a h1 h2
      exact pk_le co i (fun _ => hK _) (fun hlt => q_next hs hc (fun _ => ⟨fun _ z hz => by rw [hz, nI_p1 i]; exact ih (i + 1) a (by omega) (by omega), fun _ => q_changesBetween (fun _ b _ z hz => by rw [hz, nI_p1 i]; exact ih (i + 1) b (by omega) (by omega))⟩))
  have k2 : ∀ n i a, i ≤ st → st - i < n → w_X7_mostChanges_4 (fun a => post a) en (nI st) (nI co) cd n a (nI i) := by
    intro n
    induction n with
    | zero => intro i a h1 h2; omega
    | succ n ih =>
      intro i a h1 h2
      exact pk_le st i (fun _ => H _) (fun hlt => ⟨5, k1 _ _ (fun r z hz => by rw [hz, nI_p1 i]; exact ih (i + 1) r (by omega) (by omega)) 5 0 _ (by omega) (by omega)⟩)
  exact ⟨7, k2 7 0 _ (by omega) (by omega)⟩
theorem q_apoints {post : Int32 → Prop} {b : Nat} (hb : b ≤ 7) (H : post (nI (2 ^ b))) : wp_X0_points post (nI b) := by
  unfold wp_X0_points
  rw [sh1 b (by omega)]
  exact H
theorem q_aat {post : Int32 → Prop} {cd : Nat → Int32} {x y : Int32} (H : ∀ r, post r) : wp_X0_at post cd x y := by
  refine ⟨fun _ => H _, fun a => ⟨fun _ => H _, fun b => ?_⟩⟩
  obtain ⟨j, _, _, hv⟩ := ix_in (n := 128) a b (Nat.le_refl 128) (by decide)
  exact ⟨hv, fun _ => H _, fun _ => ⟨hv, H _⟩⟩
theorem shl2 : ∀ k, k < 32 → nI k <<< ((2 : Int32) &&& 31) = nI (4 * k) := by decide +kernel
theorem q_chartWay {post : (Nat → Int32) → Prop} {cd : Nat → Int32} {c : Nat} {x y : Int32} (hc : c < 4) (H : ∀ a, post a) : wp_X0_chartWay post cd (nI c) x y := by
  intro z _
  have key : ∀ n i a, i ≤ 32 → 32 - i < n → w_X0_chartWay_8 (fun a => post a) (nI c) x y z n (nI i) a := by
    intro n
    induction n with
    | zero => intro i a h1 h2; omega
    | succ n ih =>
      intro i a h1 h2
      refine pk_le 32 i (fun _ => H _) (fun hlt => ?_)
      rw [shl2 i hlt, nI_add]
      exact ⟨fun _ => ⟨pk_in (4 * i + c) 128 (by omega), fun a _ z hz => by rw [hz, nI_p1 i]; exact ih (i + 1) a (by omega) (by omega)⟩, fun _ z hz => by rw [hz, nI_p1 i]; exact ih (i + 1) a (by omega) (by omega)⟩
  exact ⟨33, key 33 0 _ (by omega) (by omega)⟩
theorem q_chart {post : (Nat → Int32) → Int32 → Prop} {en cd ac : Nat → Int32} {st co g : Nat} {ab : Int32} (hs : st ≤ 6) (hc : co ≤ 4) (hg : g ≤ 5) (H : ∀ a, post a (nI (2 + g))) : wp_X0_chart post en (nI st) (nI co) cd (nI g) ac ab := by
  intro f hf
  rw [show (2 : Int32) = nI 2 from rfl, nI_add] at hf
  subst hf
  have k2 : ∀ (KE : (Nat → Int32) → Prop) (s : Int32), (∀ a, KE a) → ∀ n i a, i ≤ co → co - i < n → w_X0_chart_45 KE en (nI st) (nI co) cd s n (nI i) a := by
    intro KE s hK n
    induction n with
    | zero => intro i a h1 h2; omega
    | succ n ih =>
      intro i a h1 h2
      exact pk_le co i (fun _ => hK _) (fun hlt => q_next hs hc (fun _ => ⟨fun _ z hz => by rw [hz, nI_p1 i]; exact ih (i + 1) a (by omega) (by omega), fun _ => q_ccodeOf (fun _ => q_ccodeOf (fun _ => q_chartWay (by omega) (fun b z hz => by rw [hz, nI_p1 i]; exact ih (i + 1) b (by omega) (by omega))))⟩))
  have k1 : ∀ n i a, i ≤ st → st - i < n → w_X0_chart_34 (fun a => post a (nI (2 + g))) en (nI st) (nI co) cd n (nI i) a := by
    intro n
    induction n with
    | zero => intro i a h1 h2; omega
    | succ n ih =>
      intro i a h1 h2
      exact pk_le st i (fun _ => H _) (fun hlt => ⟨5, k2 _ _ (fun b z hz => by rw [hz, nI_p1 i]; exact ih (i + 1) b (by omega) (by omega)) 5 0 _ (by omega) (by omega)⟩)
  have k0 : ∀ n i a, i ≤ 128 → 128 - i < n → w_X0_chart_12 (fun (ycodes_5 : Nat → Int32) => (∃ fu : Nat, w_X0_chart_34 (fun a => post a (nI (2 + g))) en (nI st) (nI co) cd fu (0 : Int32) ycodes_5)) n (nI i) a := by
    intro n
    induction n with
    | zero => intro i a h1 h2; omega
    | succ n ih =>
      intro i a h1 h2
      exact pk_le 128 i (fun _ => ⟨7, k1 7 0 _ (by omega) (by omega)⟩) (fun hlt => ⟨pk_in i 128 (by omega), fun b _ z hz => by rw [hz, nI_p1 i]; exact ih (i + 1) b (by omega) (by omega)⟩)
  exact ⟨129, k0 129 0 _ (by omega) (by omega)⟩
theorem q_pointsWith {post : Int32 → Prop} {cd : Nat → Int32} {b : Nat} {x y : Int32} (hb : b ≤ 7) (H : ∀ r, post r) : wp_X0_pointsWith post cd (nI b) x y := by
  have hq := p2_le b (by omega)
  have key : ∀ n i a, i ≤ 2 ^ b → 2 ^ b - i < n → w_X0_pointsWith_5 (fun a => post a) cd (nI b) x y n a (nI i) := by
    intro n
    induction n with
    | zero => intro i a h1 h2; omega
    | succ n ih =>
      intro i a h1 h2
      rw [w_X0_pointsWith_5]
      exact q_apoints hb (pk_le (2 ^ b) i (fun _ => H _) (fun hlt => q_aat (fun _ => ⟨fun _ c _ z hz => by rw [hz, nI_p1 i]; exact ih (i + 1) c (by omega) (by omega), fun _ z hz => by rw [hz, nI_p1 i]; exact ih (i + 1) a (by omega) (by omega)⟩)))
  exact ⟨129, key 129 0 _ (Nat.zero_le _) (by omega)⟩
