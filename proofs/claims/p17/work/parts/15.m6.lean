theorem s_asksAll {post : Int32 → Prop} {wA sa : Nat → Int32} {wd sm : Nat} (hs : smM wd sm sa) (hm : sm ≤ 576) (H : ∀ r, post r) : wp_X10_asksAll post wA (nI sm) sa := by
  have key : ∀ n i x, i ≤ sm → sm - i < n → w_X10_asksAll_4 (fun x => post x) wA (nI sm) sa n x (nI i) := by
    intro n
    induction n with
    | zero => intro i x h1 h2; omega
    | succ n ih =>
      intro i x h1 h2
      refine pk_le sm i (fun _ => H _) (fun hlt => ⟨pk_in i 600 (by omega), ?_⟩)
      obtain ⟨j, hj, e⟩ := hs.2 i hlt
      have := hs.1
      rw [nI_clamp (show i < 2 ^ 31 by omega), e]
      refine ⟨pk_in j 2187 (by omega), s_ones _ (fun r a _ b hb => ?_)⟩
      rw [hb, nI_p1 i]
      exact ih (i + 1) a (by omega) (by omega)
  exact ⟨sm + 1, key (sm + 1) 0 0 (by omega) (by omega)⟩
theorem s_wantsMany {post : Int32 → Prop} {w : Nat → Int32} {g : Nat} {x1 : Int32} (hg : g ≤ 5) (H : ∀ r, post r) : wp_X10_wantsMany post (nI g) w x1 := by
  have hq := p4_le hg
  have key : ∀ n i x, i ≤ 4 * 2 ^ g → 4 * 2 ^ g - i < n → w_X10_wantsMany_4 (fun x => post x) (nI g) w x1 n x (nI i) := by
    intro n
    induction n with
    | zero => intro i x h1 h2; omega
    | succ n ih =>
      intro i x h1 h2
      rw [w_X10_wantsMany_4]
      have hr : i < 4 * 2 ^ g → ∀ (z a b : Int32), a = z → b = nI i + 1 → w_X10_wantsMany_4 (fun x => post x) (nI g) w x1 n a b := fun hlt z a b _ hb => by rw [hb, nI_p1 i]; exact ih (i + 1) a (by omega) (by omega)
      exact s_points hg (pk_le (4 * 2 ^ g) i (fun _ => H _) (fun hlt => ⟨pk_in i 128 (by omega), fun _ a ha b => hr hlt _ a b ha, fun _ a ha b => hr hlt _ a b ha⟩))
  exact ⟨129, key 129 0 0 (Nat.zero_le _) (by omega)⟩
theorem s_logicNow {post : Int32 → Int32 → (Nat → Int32) → Int32 → (Nat → Int32) → (Nat → Int32) → Int32 → Int32 → (Nat → Int32) → Prop} {en sg w wA wO sa : Nat → Int32} {st co g wd sm : Nat} {ld fl x1 x2 : Int32} (hT : tabM st co en) (hg : g ≤ 5) (hs : smM wd sm sa) (hm : sm ≤ 576) (H : ∀ r ld' w' wd' wA' wO' sm' fl' sa', smM wd' sm' sa' → sm' ≤ 576 → post r ld' w' (nI wd') wA' wO' (nI sm') fl' sa') : wp_X10_logicNow post (nI st) (nI co) en (nI g) sg ld w (nI wd) wA wO (nI sm) fl sa x1 x2 :=
  s_laySignal hT hg hs hm (fun ld' w' wd' wA' wO' sm' fl' sa' h1 h2 => ⟨fun _ => H _ _ _ _ _ _ _ _ _ h1 h2, fun _ => ⟨fun _ => H _ _ _ _ _ _ _ _ _ h1 h2, fun _ => ⟨fun _ => H _ _ _ _ _ _ _ _ _ h1 h2, fun _ => ⟨fun _ => s_asksAll h1 h2 (fun _ => H _ _ _ _ _ _ _ _ _ h1 h2), fun _ => ⟨fun _ => s_wantsMany hg (fun _ => H _ _ _ _ _ _ _ _ _ h1 h2), fun _ => s_wantsMany hg (fun _ => H _ _ _ _ _ _ _ _ _ h1 h2)⟩⟩⟩⟩⟩)
theorem s_logic {post : Int32 → Int32 → (Nat → Int32) → Int32 → (Nat → Int32) → (Nat → Int32) → Int32 → Int32 → (Nat → Int32) → Prop} {en sg lo hi w wA wO sa : Nat → Int32} {st co g pn wd sm : Nat} {ld fl x1 x2 : Int32} (hT : tabM st co en) (hg : g ≤ 5) (hp : pn ≤ 75) (hs : smM wd sm sa) (hm : sm ≤ 576) (H : ∀ r ld' w' wd' wA' wO' sm' fl' sa', smM wd' sm' sa' → sm' ≤ 576 → post r ld' w' (nI wd') wA' wO' (nI sm') fl' sa') : wp_X10_logic post (nI st) (nI co) en (nI g) sg (nI pn) lo hi ld w (nI wd) wA wO (nI sm) fl sa x1 x2 :=
  s_isGood hT hg hp (fun _ => ⟨fun _ => H _ _ _ _ _ _ _ _ _ hs hm, fun _ => s_withinA (fun _ => ⟨fun _ => H _ _ _ _ _ _ _ _ _ hs hm, fun _ => s_withinA (fun _ => ⟨fun _ => H _ _ _ _ _ _ _ _ _ hs hm, fun _ => s_logicNow hT hg hs hm H⟩)⟩)⟩)
theorem s_product {post : Int32 → Int32 → (Nat → Int32) → Int32 → (Nat → Int32) → (Nat → Int32) → Int32 → Int32 → (Nat → Int32) → Prop} {en sg lo hi w wA wO sa : Nat → Int32} {st co g pn wd sm : Nat} {ld fl x1 x2 x3 : Int32} (hT : tabM st co en) (hg : g ≤ 5) (hp : pn ≤ 75) (hs : smM wd sm sa) (hm : sm ≤ 576) (H : ∀ r ld' w' wd' wA' wO' sm' fl' sa', smM wd' sm' sa' → sm' ≤ 576 → post r ld' w' (nI wd') wA' wO' (nI sm') fl' sa') : wp_X10_product post (nI st) (nI co) en (nI g) sg (nI pn) lo hi ld w (nI wd) wA wO (nI sm) fl sa x1 x2 x3 := by
  refine s_isGood hT hg hp (fun _ => ⟨fun _ => H _ _ _ _ _ _ _ _ _ hs hm, fun _ => s_withinA (fun _ => ⟨fun _ => H _ _ _ _ _ _ _ _ _ hs hm, fun _ => s_laySignal hT hg hs hm (fun ld' w' wd' wA' wO' sm' fl' sa' h1 h2 => ?_)⟩)⟩)
  refine s_in0 (n := sm') (by omega) ⟨fun _ => H _ _ _ _ _ _ _ _ _ h1 h2, fun q => absurd rfl q⟩ (fun j hj e => ⟨fun _ => H _ _ _ _ _ _ _ _ _ h1 h2, fun _ => ?_⟩)
  obtain ⟨k, hk, e2⟩ := h1.2 j hj
  have hw := h1.1
  rw [e, nI_clamp (show j < 2 ^ 31 by omega), e2]
  exact ⟨fun _ => ⟨pk_in j 600 (by omega), pk_in k 2187 (by omega), H _ _ _ _ _ _ _ _ _ h1 h2⟩, fun _ => ⟨fun _ => ⟨pk_in j 600 (by omega), pk_in k 2187 (by omega), H _ _ _ _ _ _ _ _ _ h1 h2⟩, fun _ => H _ _ _ _ _ _ _ _ _ h1 h2⟩⟩
theorem s_wide {post : Int32 → Int32 → (Nat → Int32) → Int32 → (Nat → Int32) → (Nat → Int32) → Int32 → Int32 → (Nat → Int32) → Prop} {en sg lo hi w wA wO sa : Nat → Int32} {st co g pn wd sm : Nat} {ld fl x1 x2 x3 : Int32} (hT : tabM st co en) (hg : g ≤ 5) (hp : pn ≤ 75) (hs : smM wd sm sa) (hm : sm ≤ 576) (H : ∀ r ld' w' wd' wA' wO' sm' fl' sa', smM wd' sm' sa' → sm' ≤ 576 → post r ld' w' (nI wd') wA' wO' (nI sm') fl' sa') : wp_X10_wide post (nI st) (nI co) en (nI g) sg (nI pn) lo hi ld w (nI wd) wA wO (nI sm) fl sa x1 x2 x3 := by
  refine s_isGood hT hg hp (fun _ => ⟨fun _ => H _ _ _ _ _ _ _ _ _ hs hm, fun _ => s_withinA (fun _ => ⟨fun _ => H _ _ _ _ _ _ _ _ _ hs hm, fun _ => s_laySignal hT hg hs hm (fun ld' w' wd' wA' wO' sm' fl' sa' h1 h2 => ?_)⟩)⟩)
  have hw := h1.1
  refine s_in0 (n := wd') (by omega) ⟨fun _ => H _ _ _ _ _ _ _ _ _ h1 h2, fun q => absurd rfl q⟩ (fun j hj e => ⟨fun _ => H _ _ _ _ _ _ _ _ _ h1 h2, fun _ => ?_⟩)
  rw [e]
  exact ⟨fun _ => ⟨pk_in j 2187 (by omega), H _ _ _ _ _ _ _ _ _ h1 h2⟩, fun _ => ⟨fun _ => ⟨pk_in j 2187 (by omega), H _ _ _ _ _ _ _ _ _ h1 h2⟩, fun _ => H _ _ _ _ _ _ _ _ _ h1 h2⟩⟩
/-- where one walks -/
def wkM (st : Nat) (wa : Int32) : Prop := wa = -1 ∨ ∃ s, s < st ∧ wa = nI s
theorem s_walk {post : Int32 → Int32 → Int32 → Int32 → Prop} {st : Nat} {wa tu ch x1 : Int32} (h6 : st ≤ 6) (hw : wkM st wa) (H : ∀ r wa' tu' ch', wkM st wa' → post r wa' tu' ch') : wp_X10_walk post (nI st) wa tu ch x1 :=
  s_in0 (n := st) (by omega) ⟨fun _ => H _ _ _ _ hw, fun q => absurd rfl q⟩ (fun j hj e => ⟨fun _ => H _ _ _ _ hw, fun _ => H _ _ _ _ (Or.inr ⟨j, hj, e⟩)⟩)
theorem s_turn {post : Int32 → Int32 → Int32 → Int32 → Prop} {en sg : Nat → Int32} {st co g : Nat} {wa tu ch x1 : Int32} (hT : tabM st co en) (hg : g ≤ 5) (hw : wkM st wa) (H : ∀ r wa' tu' ch', wkM st wa' → post r wa' tu' ch') : wp_X10_turn post (nI st) (nI co) en (nI g) sg wa tu ch x1 := by
  have h6 := hT.1
  have h4 := hT.2.1
  refine s_in0 (n := co) (by omega) ⟨fun _ => H _ _ _ _ hw, fun q => absurd rfl q⟩ (fun c hc e => ⟨fun _ => H _ _ _ _ hw, fun _ => ⟨fun _ => H _ _ _ _ hw, fun hn => ?_⟩⟩)
  obtain ⟨s, hs, e2⟩ : ∃ s, s < st ∧ wa = nI s := hw.resolve_left hn
  rw [e, e2]
  refine e_ent hT hs hc ⟨fun _ => H _ _ _ _ (Or.inr ⟨s, hs, rfl⟩), fun q => absurd rfl q⟩ (fun t ht => ⟨fun q => absurd q (m1_ne (by omega)), fun _ => ?_⟩)
  have J : ∀ t v, wkM st t → j_X10_turn_86 post tu t v ch := fun t v ht f _ f2 _ => H _ _ _ _ ht
  have hh : ∀ t', wkM st t' → wp_X10_isNormal (fun (r_7 : Int32) => ((r_7 = 0 → (j_X10_turn_86 post tu t' (0 : Int32) ch)) ∧ (¬ r_7 = 0 → (wp_X10_codeOf (fun (r_11 : Int32) => (wp_X10_codeOf (fun (r_12 : Int32) => (wp_X10_ones (fun (r_13 : Int32) => (j_X10_turn_86 post tu t' r_13 ch)) (r_11 ^^^ r_12))) (nI g) sg t')) (nI g) sg (nI s))))) (nI st) (nI co) en := fun t' ht' => s_isNormal hT ⟨fun _ => J _ _ ht', fun q => absurd rfl q⟩ (fun _ => ⟨fun _ => J _ _ ht', fun _ => s_codeOf hg (fun _ => s_codeOf hg (fun _ => s_ones _ (fun _ => J _ _ ht')))⟩)
  exact e_ent hT hs hc (hh _ (Or.inl rfl)) (fun t2 ht2 => hh _ (Or.inr ⟨t2, ht2, rfl⟩))
theorem s_howMany {post : Int32 → Prop} {a b c d e f g x1 : Int32} (H : ∀ r, post r) : wp_X10_howMany post a b c d e f g x1 :=
  ⟨fun _ => H _, fun _ => ⟨fun _ => H _, fun _ => ⟨fun _ => H _, fun _ => ⟨fun _ => H _, fun _ => ⟨fun _ => H _, fun _ => ⟨fun _ => H _, fun _ => ⟨fun _ => H _, fun _ => H _⟩⟩⟩⟩⟩⟩⟩
theorem s_mix {post : Int64 → Prop} {h x : Int64} (H : ∀ r, post r) : wp_X10_mix post h x := fun _ _ => H _
theorem r3 {p : Nat} (h : p < 2 ^ 31) : nI p - nI p / (3 : Int32) * (3 : Int32) = nI (p % 3) := pk_rem (d := 3) h (by decide) (by decide)
theorem d3 {p : Nat} (h : p < 2 ^ 31) : nI p / (3 : Int32) = nI (p / 3) := pk_div (d := 3) h (by decide) (by decide)
theorem s_mixNormal {post : Int64 → Prop} {en sg lo hi la : Nat → Int32} {st co g pn : Nat} {lm : Int32} {h : Int64} (hT : tabM st co en) (hg : g ≤ 5) (hp : pn ≤ 75) (hl : lmM lm) (H : ∀ r, post r) : wp_X10_mixNormal post (nI st) (nI co) en (nI g) sg (nI pn) lo hi lm la h := by
  have h6 := hT.1
  have k4 : ∀ n i h, i ≤ 6 → 6 - i < n → w_X10_mixNormal_84 (fun x => post x) (nI st) (nI co) en (nI g) sg (nI pn) lo hi n (nI i) h := by
    intro n
    induction n with
    | zero => intro i h h1 h2; omega
    | succ n ih =>
      intro i h h1 h2
      exact pk_le 6 i (fun _ => H _) (fun hlt => s_codedNow hT hg hp (fun _ => s_mix (fun r b hb => by rw [hb, nI_p1 i]; exact ih (i + 1) r (by omega) (by omega))))
  have k3 : ∀ (KE : Int64 → Prop), (∀ r, KE r) → ∀ n i h, i ≤ st → st - i < n → w_X10_mixNormal_58 KE (nI st) (nI g) sg n (nI i) h := by
    intro KE hK n
    induction n with
    | zero => intro i h h1 h2; omega
    | succ n ih =>
      intro i h h1 h2
      exact pk_le st i (fun _ => hK _) (fun hlt => s_codeOf hg (fun _ => s_mix (fun r b hb => by rw [hb, nI_p1 i]; exact ih (i + 1) r (by omega) (by omega))))
  have k2 : ∀ (KE : Int64 → Prop), (∀ r, KE r) → ∀ n i h, i ≤ 5 → 5 - i < n → w_X10_mixNormal_35 KE lm la n (nI i) h := by
    intro KE hK n
    induction n with
    | zero => intro i h h1 h2; omega
    | succ n ih =>
      intro i h h1 h2
      exact pk_le 5 i (fun _ => hK _) (fun hlt => s_leastNow hl (Or.inr ⟨i, hlt, rfl⟩) (fun _ => s_mix (fun r b hb => by rw [hb, nI_p1 i]; exact ih (i + 1) r (by omega) (by omega))))
  have k2' : ∀ (KE : Int64 → Prop), (∀ r, KE r) → ∀ h, w_X10_mixNormal_35 KE lm la 8 (-1) h := by
    intro KE hK h
    refine ⟨fun q => absurd q (by decide), fun _ => s_leastNow hl (Or.inl rfl) (fun _ => s_mix (fun r b hb => ?_))⟩
    rw [hb, show (-1 : Int32) + 1 = nI 0 from by decide]
    exact k2 KE hK 7 0 r (by omega) (by omega)
  have k1 : ∀ (KE : Int64 → Prop), (∀ r, KE r) → ∀ n i h, i ≤ 3 * pn → 3 * pn - i < n → w_X10_mixNormal_2 KE (nI g) sg (nI pn) lo hi n (nI i) h := by
    intro KE hK n
    induction n with
    | zero => intro i h h1 h2; omega
    | succ n ih =>
      intro i h h1 h2
      refine pk_le (3 * pn) i (fun _ => hK _) (fun hlt => ?_) (by rw [show (3 : Int32) = nI 3 from rfl, pk_mul]) rfl
      rw [r3 (by omega), d3 (by omega)]
      exact s_partingNow hg (by omega) (fun _ => s_mix (fun r b hb => by rw [hb, nI_p1 i]; exact ih (i + 1) r (by omega) (by omega)))
  exact ⟨226, k1 _ (fun _ => ⟨8, k2' _ (fun _ => ⟨8, k3 _ (fun _ => ⟨8, k4 8 0 _ (by omega) (by omega)⟩) 8 0 _ (by omega) (by omega)⟩) _⟩) 226 0 _ (by omega) (by omega)⟩
theorem s_mixLogic {post : Int32 → (Nat → Int32) → Int32 → (Nat → Int32) → (Nat → Int32) → Int32 → Int32 → (Nat → Int32) → Int64 → Prop} {en sg w wA wO sa : Nat → Int32} {st co g wd sm : Nat} {ld fl x1 : Int32} {h : Int64} (hT : tabM st co en) (hg : g ≤ 5) (hs : smM wd sm sa) (hm : sm ≤ 576) (H : ∀ ld' w' wd' wA' wO' sm' fl' sa' h', smM wd' sm' sa' → sm' ≤ 576 → post ld' w' (nI wd') wA' wO' (nI sm') fl' sa' h') : wp_X10_mixLogic post (nI st) (nI co) en (nI g) sg ld w (nI wd) wA wO (nI sm) fl sa h x1 := by
  have k2 : ∀ (KE : Int64 → Prop) wA wO sa wd sm, smM wd sm sa → sm ≤ 576 → (∀ r, KE r) → ∀ n i h, i ≤ sm → sm - i < n → w_X10_mixLogic_27 KE wA wO (nI sm) sa n (nI i) h := by
    intro KE wA wO sa wd sm hs hm hK n
    induction n with
    | zero => intro i h h1 h2; omega
    | succ n ih =>
      intro i h h1 h2
      refine pk_le sm i (fun _ => hK _) (fun hlt => ?_)
      obtain ⟨j, hj, e⟩ := hs.2 i hlt
      have := hs.1
      rw [nI_clamp (show i < 2 ^ 31 by omega), e]
      have v1 : vp_in (nI i) 600 := pk_in i 600 (by omega)
      have v2 : vp_in (nI j) 2187 := pk_in j 2187 (by omega)
      exact ⟨v1, v2, s_mix (fun _ => ⟨v1, v2, s_mix (fun r b hb => by rw [hb, nI_p1 i]; exact ih (i + 1) r (by omega) (by omega))⟩)⟩
  have k1 : ∀ n i ld w wd wA wO sm fl sa h, i ≤ 6 → 6 - i < n → smM wd sm sa → sm ≤ 576 → w_X10_mixLogic_2 (fun (ylaid_5 : Int32) (ywants_5 : Nat → Int32) (ywide_5 : Int32) (ywideAsked_5 : Nat → Int32) (ywideOnes_5 : Nat → Int32) (ysum_5 : Int32) (yflickers_5 : Int32) (ysumAt_5 : Nat → Int32) (yh_5 : Int64) => (∃ fu : Nat, w_X10_mixLogic_27 (fun (yh_14 : Int64) => post ylaid_5 ywants_5 ywide_5 ywideAsked_5 ywideOnes_5 ysum_5 yflickers_5 ysumAt_5 yh_14) ywideAsked_5 ywideOnes_5 ysum_5 ysumAt_5 fu (0 : Int32) yh_5)) (nI st) (nI co) en (nI g) sg x1 n (nI i) ld w (nI wd) wA wO (nI sm) fl sa h := by
    intro n
    induction n with
    | zero => intro i ld w wd wA wO sm fl sa h h1 h2; omega
    | succ n ih =>
      intro i ld w wd wA wO sm fl sa h h1 h2 h3 h4
      refine pk_le 6 i (fun _ => ⟨sm + 1, k2 _ wA wO sa wd sm h3 h4 (fun _ => H _ _ _ _ _ _ _ _ _ h3 h4) (sm + 1) 0 _ (by omega) (by omega)⟩) (fun hlt => s_logicNow hT hg h3 h4 (fun r ld' w' wd' wA' wO' sm' fl' sa' q1 q2 => s_mix (fun r b hb => ?_)))
      rw [hb, nI_p1 i]
      exact ih (i + 1) ld' w' wd' wA' wO' sm' fl' sa' r (by omega) (by omega) q1 q2
  exact ⟨7, k1 7 0 ld w wd wA wO sm fl sa h (by omega) (by omega) hs hm⟩
theorem s_digest {post : Int64 → Int32 → (Nat → Int32) → Int32 → (Nat → Int32) → (Nat → Int32) → Int32 → Int32 → (Nat → Int32) → Int64 → Prop} {pg en sg lo hi la w wA wO sa : Nat → Int32} {pl st co g pn wd sm : Nat} {wa tu ch rd lm ld fl : Int32} {h : Int64} (hpl : pl ≤ 40) (hT : tabM st co en) (hg : g ≤ 5) (hp : pn ≤ 75) (hl : lmM lm) (hs : smM wd sm sa) (hm : sm ≤ 576) (H : ∀ r ld' w' wd' wA' wO' sm' fl' sa' h', smM wd' sm' sa' → sm' ≤ 576 → post r ld' w' (nI wd') wA' wO' (nI sm') fl' sa' h') : wp_X10_digest post (nI pl) pg (nI st) (nI co) en (nI g) sg wa tu ch rd (nI pn) lo hi lm la ld w (nI wd) wA wO (nI sm) fl sa h := by
  have h6 := hT.1
  have h4 := hT.2.1
  have k6 : ∀ (KE : Int64 → Prop), (∀ r, KE r) → ∀ n i h, i ≤ 7 → 7 - i < n → w_X10_digest_148 KE (nI pl) (nI st) (nI co) wa tu ch rd n (nI i) h := by
    intro KE hK n
    induction n with
    | zero => intro i h h1 h2; omega
    | succ n ih =>
      intro i h h1 h2
      exact pk_le 7 i (fun _ => hK _) (fun hlt => s_howMany (fun _ => s_mix (fun r b hb => by rw [hb, nI_p1 i]; exact ih (i + 1) r (by omega) (by omega))))
  have k5 : ∀ (KE : Int64 → Prop), (∀ r, KE r) → ∀ n i h, i ≤ pl → pl - i < n → w_X10_digest_121 KE (nI pl) pg n (nI i) h := by
    intro KE hK n
    induction n with
    | zero => intro i h h1 h2; omega
    | succ n ih =>
      intro i h h1 h2
      exact pk_le pl i (fun _ => hK _) (fun hlt => ⟨pk_in i 40 (by omega), s_mix (fun r b hb => by rw [hb, nI_p1 i]; exact ih (i + 1) r (by omega) (by omega))⟩)
  have k4 : ∀ n i ld w wd wA wO sm fl sa h, i ≤ g → g - i < n → smM wd sm sa → sm ≤ 576 → w_X10_digest_93 (fun (ylaid_22 : Int32) (ywants_22 : Nat → Int32) (ywide_22 : Int32) (ywideAsked_22 : Nat → Int32) (ywideOnes_22 : Nat → Int32) (ysum_22 : Int32) (yflickers_22 : Int32) (ysumAt_22 : Nat → Int32) (yh_22 : Int64) => (∃ fu : Nat, w_X10_digest_121 (fun (yh_27 : Int64) => (∃ fu : Nat, w_X10_digest_148 (fun (yh_32 : Int64) => post yh_32 ylaid_22 ywants_22 ywide_22 ywideAsked_22 ywideOnes_22 ysum_22 yflickers_22 ysumAt_22 yh_32) (nI pl) (nI st) (nI co) wa tu ch rd fu (0 : Int32) yh_27)) (nI pl) pg fu (0 : Int32) yh_22)) (nI st) (nI co) en (nI g) sg (nI pn) lo hi n (nI i) ld w (nI wd) wA wO (nI sm) fl sa h := by
    intro n
    induction n with
    | zero => intro i ld w wd wA wO sm fl sa h h1 h2; omega
    | succ n ih =>
      intro i ld w wd wA wO sm fl sa h h1 h2 h3 h5
      have fin : ∀ h, (∃ fu : Nat, w_X10_digest_121 (fun (yh_27 : Int64) => (∃ fu : Nat, w_X10_digest_148 (fun (yh_32 : Int64) => post yh_32 ld w (nI wd) wA wO (nI sm) fl sa yh_32) (nI pl) (nI st) (nI co) wa tu ch rd fu (0 : Int32) yh_27)) (nI pl) pg fu (0 : Int32) h) := fun h => ⟨41, k5 _ (fun _ => ⟨8, k6 _ (fun _ => H _ _ _ _ _ _ _ _ _ _ h3 h5) 8 0 _ (by omega) (by omega)⟩) 41 0 _ (by omega) (by omega)⟩
      refine pk_le g i (fun _ => fin _) (fun hlt => s_isGood hT hg hp (fun _ => ⟨fun _ => fin _, fun _ => s_mixLogic hT hg h3 h5 (fun ld' w' wd' wA' wO' sm' fl' sa' h' q1 q2 b hb => ?_)⟩))
      rw [hb, nI_p1 i]
      exact ih (i + 1) ld' w' wd' wA' wO' sm' fl' sa' h' (by omega) (by omega) q1 q2
  have k3 : ∀ (KE : Int64 → Prop), (∀ r, KE r) → ∀ n i h, i ≤ 5 → 5 - i < n → w_X10_digest_52 KE (nI st) (nI co) en (nI pn) n (nI i) h := by
    intro KE hK n
    induction n with
    | zero => intro i h h1 h2; omega
    | succ n ih =>
      intro i h h1 h2
      exact pk_le 5 i (fun _ => hK _) (fun hlt => ⟨fun _ => hK _, fun _ => s_aboutNow hT (fun _ => s_mix (fun r b hb => by rw [hb, nI_p1 i]; exact ih (i + 1) r (by omega) (by omega)))⟩)
  have k1 : ∀ (KE : Int64 → Prop) (s : Nat), s < st → (∀ r, KE r) → ∀ n i h, i ≤ co → co - i < n → w_X10_digest_19 KE (nI co) en (nI s) n (nI i) h := by
    intro KE s hs hK n
    induction n with
    | zero => intro i h h1 h2; omega
    | succ n ih =>
      intro i h h1 h2
      exact pk_le co i (fun _ => hK _) (fun hlt => e_entA hT hs hlt (fun _ => s_mix (fun r b hb => by rw [hb, nI_p1 i]; exact ih (i + 1) r (by omega) (by omega))))
  have k2 : ∀ (KE : Int64 → Prop), (∀ r, KE r) → ∀ n i h, i ≤ st → st - i < n → w_X10_digest_9 KE (nI st) (nI co) en n (nI i) h := by
    intro KE hK n
    induction n with
    | zero => intro i h h1 h2; omega
    | succ n ih =>
      intro i h h1 h2
      exact pk_le st i (fun _ => hK _) (fun hlt => ⟨5, k1 _ i hlt (fun r b hb => by rw [hb, nI_p1 i]; exact ih (i + 1) r (by omega) (by omega)) 5 0 _ (by omega) (by omega)⟩)
  refine ⟨7, k2 _ (fun _ => ⟨6, k3 _ (fun _ => ?_) 6 0 _ (by omega) (by omega)⟩) 7 0 _ (by omega) (by omega)⟩
  have fin : ∀ h, ∃ fu : Nat, w_X10_digest_93 (fun (ylaid_22 : Int32) (ywants_22 : Nat → Int32) (ywide_22 : Int32) (ywideAsked_22 : Nat → Int32) (ywideOnes_22 : Nat → Int32) (ysum_22 : Int32) (yflickers_22 : Int32) (ysumAt_22 : Nat → Int32) (yh_22 : Int64) => (∃ fu : Nat, w_X10_digest_121 (fun (yh_27 : Int64) => (∃ fu : Nat, w_X10_digest_148 (fun (yh_32 : Int64) => post yh_32 ylaid_22 ywants_22 ywide_22 ywideAsked_22 ywideOnes_22 ysum_22 yflickers_22 ysumAt_22 yh_32) (nI pl) (nI st) (nI co) wa tu ch rd fu (0 : Int32) yh_27)) (nI pl) pg fu (0 : Int32) yh_22)) (nI st) (nI co) en (nI g) sg (nI pn) lo hi fu (0 : Int32) ld w (nI wd) wA wO (nI sm) fl sa h := fun h => ⟨7, k4 7 0 _ _ _ _ _ _ _ _ h (by omega) (by omega) hs hm⟩
  exact s_isNormal hT ⟨fun _ => fin _, fun q => absurd rfl q⟩ (fun _ => ⟨fun _ => fin _, fun _ => s_mixNormal hT hg hp hl (fun _ => fin _)⟩)
