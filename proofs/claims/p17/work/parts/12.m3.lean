theorem s_isOnWay {post : Int32 → Prop} {en sg : Nat → Int32} {st co g s c : Nat} {x1 : Int32} (hT : tabM st co en) (hg : g ≤ 5) (hs : s < st) (hc : c < co) (H : ∀ r, post r) : wp_X10_isOnWay post en (nI g) sg x1 (nI s) (nI c) :=
  e_entA hT hs hc (fun _ => ⟨fun _ => H _, fun _ => s_codeOf hg (fun _ => s_codeOf hg (fun _ => s_codeOf hg (fun _ => ⟨fun _ => H _, fun _ => H _⟩)))⟩)
theorem s_areMeeting {post : Int32 → Prop} {en sg : Nat → Int32} {st co g r s c : Nat} (hT : tabM st co en) (hg : g ≤ 5) (hr : r < st) (hs : s < st) (hc : c < co) (H : ∀ r, post r) : wp_X10_areMeeting post en (nI g) sg (nI r) (nI s) (nI c) := by
  have hq := p2_5 hg
  have key : ∀ n i x, (x = 0 ∨ x = 1) → i ≤ 2 ^ g → 2 ^ g - i < n → w_X10_areMeeting_6 (fun (x : Int32) => (narrow .boolean (.int x) = .int x ∧ post x)) en (nI g) sg (nI r) (nI s) (nI c) n x (nI i) := by
    intro n
    induction n with
    | zero => intro i x h h1 h2; omega
    | succ n ih =>
      intro i x h h1 h2
      have hb : narrow .boolean (.int x) = .int x ∧ post x := ⟨by rcases h with e | e <;> rw [e] <;> rfl, H _⟩
      refine pk_le (2 ^ g) i (fun _ => hb) (fun hlt => ?_) (sh1 g (by omega))
      have r0 : ∀ b, b = nI i + 1 → w_X10_areMeeting_6 (fun (x : Int32) => (narrow .boolean (.int x) = .int x ∧ post x)) en (nI g) sg (nI r) (nI s) (nI c) n 0 b := fun b hb => by rw [hb, nI_p1]; exact ih (i + 1) 0 (Or.inl rfl) (by omega) (by omega)
      have r1 : ∀ b, b = nI i + 1 → w_X10_areMeeting_6 (fun (x : Int32) => (narrow .boolean (.int x) = .int x ∧ post x)) en (nI g) sg (nI r) (nI s) (nI c) n 1 b := fun b hb => by rw [hb, nI_p1]; exact ih (i + 1) 1 (Or.inr rfl) (by omega) (by omega)
      exact ⟨fun _ => s_isOnWay hT hg hr hc (fun _ => ⟨fun _ => r0, fun _ => s_isOnWay hT hg hs hc (fun _ => ⟨fun _ => r0, fun _ => r1⟩)⟩), fun _ => r1⟩
  exact ⟨33, key 33 0 0 (Or.inl rfl) (Nat.zero_le _) (Nat.lt_succ_of_le (Nat.le_trans (Nat.sub_le _ _) hq))⟩
theorem s_isWild {post : Int32 → Prop} {en sg : Nat → Int32} {st co g s c : Nat} (hT : tabM st co en) (hg : g ≤ 5) (hs : s < st) (hc : c < co) (H : ∀ r, post r) : wp_X10_isWild post (nI st) en (nI g) sg (nI s) (nI c) := by
  have h6 := hT.1
  have key : ∀ n i x, i ≤ st → st - i < n → w_X10_isWild_5 (fun (x3_15 : Int32) => ((x3_15 = 0 → post (0 : Int32)) ∧ (¬ x3_15 = 0 → (wp_X10_entryAt (fun (r_17 : Int32) => ((r_17 = ((-1) : Int32) → post (0 : Int32)) ∧ (¬ r_17 = ((-1) : Int32) → post (1 : Int32)))) en (nI s) (nI c))))) (nI st) en (nI g) sg (nI s) (nI c) n x (nI i) := by
    intro n
    induction n with
    | zero => intro i x h1 h2; omega
    | succ n ih =>
      intro i x h1 h2
      refine pk_le st i (fun _ => ⟨fun _ => H _, fun _ => e_entA hT hs hc (fun _ => ⟨fun _ => H _, fun _ => H _⟩)⟩) (fun hlt => ?_)
      have hr : ∀ a b, b = nI i + 1 → w_X10_isWild_5 (fun (x3_15 : Int32) => ((x3_15 = 0 → post (0 : Int32)) ∧ (¬ x3_15 = 0 → (wp_X10_entryAt (fun (r_17 : Int32) => ((r_17 = ((-1) : Int32) → post (0 : Int32)) ∧ (¬ r_17 = ((-1) : Int32) → post (1 : Int32)))) en (nI s) (nI c))))) (nI st) en (nI g) sg (nI s) (nI c) n a b := fun a b hb => by rw [hb, nI_p1]; exact ih (i + 1) a (by omega) (by omega)
      have J : ∀ v, j_X10_isWild_46 (w_X10_isWild_5 (fun (x3_15 : Int32) => ((x3_15 = 0 → post (0 : Int32)) ∧ (¬ x3_15 = 0 → (wp_X10_entryAt (fun (r_17 : Int32) => ((r_17 = ((-1) : Int32) → post (0 : Int32)) ∧ (¬ r_17 = ((-1) : Int32) → post (1 : Int32)))) en (nI s) (nI c))))) (nI st) en (nI g) sg (nI s) (nI c) n) en (nI g) sg (nI s) (nI c) x (nI i) v :=
        fun v => ⟨fun _ => ⟨fun _ => hr _, fun _ => s_areMeeting hT hg hlt hs hc (fun _ => ⟨fun _ => hr _, fun _ => hr _⟩)⟩, fun _ => hr _⟩
      exact e_entA hT hlt hc (fun _ => ⟨fun _ => J _, fun _ => e_entA hT hlt hc (fun _ => e_entA hT hs hc (fun _ => ⟨fun _ => J _, fun _ => J _⟩))⟩)
  exact ⟨7, key 7 0 0 (by omega) (by omega)⟩
theorem s_wildNow {post : Int32 → Prop} {en sg : Nat → Int32} {st co g : Nat} {x1 : Int32} (hT : tabM st co en) (hg : g ≤ 5) (H : ∀ r, post r) : wp_X10_wildNow post (nI st) (nI co) en (nI g) sg x1 := by
  have h6 := hT.1
  have h4 := hT.2.1
  have k1 : ∀ (KE : Int32 → Prop) (s : Nat), s < st → (∀ r, KE r) → ∀ n i a, i ≤ co → co - i < n → w_X10_wildNow_15 post KE (nI st) (nI co) en (nI g) sg x1 (nI s) n a (nI i) := by
    intro KE s hs hKE n
    induction n with
    | zero => intro i a h1 h2; omega
    | succ n ih =>
      intro i a h1 h2
      refine pk_le co i (fun _ => hKE _) (fun hlt => ?_)
      have hr : ∀ (z a b : Int32), a = z → b = nI i + 1 → w_X10_wildNow_15 post KE (nI st) (nI co) en (nI g) sg x1 (nI s) n a b := fun z a b _ hb => by rw [hb, nI_p1]; exact ih (i + 1) a (by omega) (by omega)
      exact s_isWild hT hg hs hlt (fun _ => ⟨fun _ => ⟨fun _ a ha b => hr _ a b ha, fun _ a ha b => hr _ a b ha⟩, fun _ => ⟨fun _ => ⟨fun _ a ha b => hr _ a b ha, fun _ a ha b => hr _ a b ha⟩, fun _ => H _⟩⟩)
  have k2 : ∀ n i a, i ≤ st → st - i < n → w_X10_wildNow_4 post (fun (x2_18 : Int32) => ((x1 = 0 → post x2_18) ∧ (¬ x1 = 0 → post ((-1) : Int32)))) (nI st) (nI co) en (nI g) sg x1 n a (nI i) := by
    intro n
    induction n with
    | zero => intro i a h1 h2; omega
    | succ n ih =>
      intro i a h1 h2
      refine pk_le st i (fun _ => ⟨fun _ => H _, fun _ => H _⟩) (fun hlt => ⟨5, k1 _ i hlt (fun r b hb => ?_) 5 0 a (by omega) (by omega)⟩)
      rw [hb, nI_p1]
      exact ih (i + 1) r (by omega) (by omega)
  exact ⟨7, k2 7 0 0 (by omega) (by omega)⟩
theorem s_mostChange {post : Int32 → Prop} {en sg : Nat → Int32} {st co g : Nat} (hT : tabM st co en) (hg : g ≤ 5) (H : ∀ r, post r) : wp_X10_mostChange post (nI st) (nI co) en (nI g) sg := by
  have h6 := hT.1
  have h4 := hT.2.1
  have k1 : ∀ (KE : Int32 → Prop) (s : Nat), s < st → (∀ r, KE r) → ∀ n i a, i ≤ co → co - i < n → w_X10_mostChange_14 KE (nI co) en (nI g) sg (nI s) n a (nI i) := by
    intro KE s hs hKE n
    induction n with
    | zero => intro i a h1 h2; omega
    | succ n ih =>
      intro i a h1 h2
      refine pk_le co i (fun _ => hKE _) (fun hlt => ?_)
      have hr : ∀ (a b : Int32), b = nI i + 1 → w_X10_mostChange_14 KE (nI co) en (nI g) sg (nI s) n a b := fun a b hb => by rw [hb, nI_p1]; exact ih (i + 1) a (by omega) (by omega)
      exact e_entA hT hs hlt (fun _ => ⟨fun _ => ⟨fun _ => hr _, fun _ => hr _⟩, fun _ => s_codeOf hg (fun _ => s_codeOf hg (fun _ => s_ones _ (fun _ => ⟨fun _ => hr _, fun _ => hr _⟩)))⟩)
  have k2 : ∀ n i a, i ≤ st → st - i < n → w_X10_mostChange_4 (fun x => post x) (nI st) (nI co) en (nI g) sg n a (nI i) := by
    intro n
    induction n with
    | zero => intro i a h1 h2; omega
    | succ n ih =>
      intro i a h1 h2
      refine pk_le st i (fun _ => H _) (fun hlt => ⟨5, k1 _ i hlt (fun r b hb => ?_) 5 0 a (by omega) (by omega)⟩)
      rw [hb, nI_p1]
      exact ih (i + 1) r (by omega) (by omega)
  exact ⟨7, k2 7 0 0 (by omega) (by omega)⟩
theorem s_lost {post : Int32 → Prop} {sg lo hi : Nat → Int32} {g pn : Nat} (hg : g ≤ 5) (hp : pn ≤ 75) (H : ∀ r, post r) : wp_X10_lost post (nI g) sg (nI pn) lo hi := by
  have key : ∀ n i x, i ≤ pn → pn - i < n → w_X10_lost_4 (fun x => post x) (nI g) sg (nI pn) lo hi n x (nI i) := by
    intro n
    induction n with
    | zero => intro i x h1 h2; omega
    | succ n ih =>
      intro i x h1 h2
      refine pk_le pn i (fun _ => H _) (fun hlt => ?_)
      have hr : ∀ (z a b : Int32), a = z → b = nI i + 1 → w_X10_lost_4 (fun x => post x) (nI g) sg (nI pn) lo hi n a b := fun z a b _ hb => by rw [hb, nI_p1]; exact ih (i + 1) a (by omega) (by omega)
      exact s_keptBy hg (by omega) (fun _ => ⟨fun _ a ha b => hr _ a b ha, fun _ a ha b => hr _ a b ha⟩)
  exact ⟨76, key 76 0 0 (by omega) (by omega)⟩
theorem s_isGood {post : Int32 → Prop} {en sg lo hi : Nat → Int32} {st co g pn : Nat} (hT : tabM st co en) (hg : g ≤ 5) (hp : pn ≤ 75) (H : ∀ r, post r) : wp_X10_isGood post (nI st) (nI co) en (nI g) sg (nI pn) lo hi :=
  s_isNormal hT ⟨fun _ => H _, fun q => absurd rfl q⟩ (fun _ => ⟨fun _ => H _, fun _ => s_lost hg hp (fun _ => ⟨fun _ => H _, fun _ => H _⟩)⟩)
theorem s_codedNow {post : Int32 → Prop} {en sg lo hi : Nat → Int32} {st co g pn : Nat} {x1 : Int32} (hT : tabM st co en) (hg : g ≤ 5) (hp : pn ≤ 75) (H : ∀ r, post r) : wp_X10_codedNow post (nI st) (nI co) en (nI g) sg (nI pn) lo hi x1 :=
  ⟨fun _ => H _, fun _ => ⟨fun _ => s_lost hg hp (fun _ => ⟨fun _ => H _, fun _ => H _⟩), fun _ => ⟨fun _ => s_lost hg hp (fun _ => H _), fun _ => ⟨fun _ => s_wildNow hT hg (fun _ => H _), fun _ => ⟨fun _ => s_wildNow hT hg (fun _ => H _), fun _ => s_mostChange hT hg (fun _ => H _)⟩⟩⟩⟩⟩
theorem s_coded {post : Int32 → Prop} {en sg lo hi : Nat → Int32} {st co g pn : Nat} {x1 : Int32} (hT : tabM st co en) (hg : g ≤ 5) (hp : pn ≤ 75) (H : ∀ r, post r) : wp_X10_coded post (nI st) (nI co) en (nI g) sg (nI pn) lo hi x1 :=
  s_withinA (fun _ => ⟨fun _ => H _, fun _ => s_isNormal hT ⟨fun _ => H _, fun q => absurd rfl q⟩ (fun _ => ⟨fun _ => H _, fun _ => s_codedNow hT hg hp (fun _ => H _)⟩)⟩)
/-- how many signals the least code has -/
def lmM (m : Int32) : Prop := m = -1 ∨ ∃ k, k ≤ 5 ∧ m = nI k
theorem s_leastNow {post : Int32 → Prop} {la : Nat → Int32} {lm x1 : Int32} (hl : lmM lm) (hx : x1 = -1 ∨ ∃ j, j < 5 ∧ x1 = nI j) (H : ∀ r, post r) : wp_X10_leastNow post lm la x1 := by
  refine ⟨fun _ => H _, fun hn => ⟨fun _ => H _, fun _ => ⟨fun _ => H _, fun _ => ⟨?_, H _⟩⟩⟩⟩
  rcases hx with e | ⟨j, hj, e⟩
  · exact absurd e hn
  · rw [e]; exact pk_in j 5 hj
theorem x_m1_4 {x : Int32} (h1 : ¬ x < (-1 : Int32)) (h2 : ¬ (4 : Int32) < x) : x = -1 ∨ ∃ j, j < 5 ∧ x = nI j := by
  rw [Int32.lt_iff_toInt_lt] at h1 h2
  have a1 : (-1 : Int32).toInt = -1 := by decide
  have a2 : (4 : Int32).toInt = 4 := by decide
  rw [a1] at h1
  rw [a2] at h2
  by_cases h : x < 0
  · left
    rw [Int32.lt_iff_toInt_lt] at h
    have a3 : (0 : Int32).toInt = 0 := by decide
    rw [a3] at h
    exact Int32.toInt_inj.mp (by rw [a1]; omega)
  · right
    obtain ⟨j, hj, rfl⟩ := nI_of h
    rw [nI_toInt hj] at h2
    exact ⟨j, by omega, rfl⟩
theorem s_least {post : Int32 → Prop} {en la : Nat → Int32} {st co : Nat} {lm x1 : Int32} (hT : tabM st co en) (hl : lmM lm) (H : ∀ r, post r) : wp_X10_least post (nI st) (nI co) en lm la x1 :=
  s_within (fun _ => ⟨fun _ => H _, fun q => absurd rfl q⟩) (fun _ => ⟨fun _ => H _, fun q => absurd rfl q⟩) (fun a b => ⟨fun _ => H _, fun _ => s_isNormal hT ⟨fun _ => H _, fun q => absurd rfl q⟩ (fun _ => ⟨fun _ => H _, fun _ => s_leastNow hl (x_m1_4 a b) (fun _ => H _)⟩)⟩)
theorem s_put {post : Int32 → Int32 → (Nat → Int32) → Int32 → Prop} {en sg : Nat → Int32} {st co g : Nat} {ld x1 : Int32} (hT : tabM st co en) (hg : g ≤ 5) (H : ∀ r g' sg' ld', g' ≤ 5 → post r (nI g') sg' ld') : wp_X10_put post (nI st) (nI co) en (nI g) sg ld x1 := by
  refine s_isNormal hT ⟨fun _ => H _ g _ _ hg, fun q => absurd rfl q⟩ (fun _ => ⟨fun _ => H _ g _ _ hg, fun _ => s_withinA (fun _ => ⟨fun _ => H _ g _ _ hg, fun _ => pk_eq g 5 (fun _ => H _ g _ _ hg) (fun hne => ⟨pk_in g 5 (by omega), fun a _ f hf => ?_⟩)⟩)⟩)
  rw [hf, nI_p1]
  exact H _ (g + 1) _ _ (by omega)
theorem s_clear {post : Int32 → Int32 → Int32 → Prop} {en : Nat → Int32} {st co g : Nat} {ld : Int32} (hT : tabM st co en) (hg : g ≤ 5) (H : ∀ r g' ld', g' ≤ 5 → post r (nI g') ld') : wp_X10_clear post (nI st) (nI co) en (nI g) ld :=
  s_isNormal hT ⟨fun _ => H _ g _ hg, fun q => absurd rfl q⟩ (fun _ => ⟨fun _ => H _ g _ hg, fun _ => H _ 0 _ (by omega)⟩)
theorem s_code {post : Int32 → Prop} {en sg : Nat → Int32} {st co g : Nat} {x1 : Int32} (hT : tabM st co en) (hg : g ≤ 5) (H : ∀ r, post r) : wp_X10_code post (nI st) (nI co) en (nI g) sg x1 :=
  s_withinA (fun _ => ⟨fun _ => H _, fun _ => s_isNormal hT ⟨fun _ => H _, fun q => absurd rfl q⟩ (fun _ => ⟨fun _ => H _, fun _ => s_codeOf hg (fun _ => H _)⟩)⟩)
theorem r4 {p : Nat} (h : p < 2 ^ 31) : nI p - nI p / (4 : Int32) * (4 : Int32) = nI (p % 4) := pk_rem (d := 4) h (by decide) (by decide)
theorem s_wantedAt {post : Int32 → Prop} {en sg : Nat → Int32} {st co g p : Nat} {x1 : Int32} (hT : tabM st co en) (hg : g ≤ 5) (hp : p < 128) (H : ∀ r, post r) : wp_X10_wantedAt post (nI st) (nI co) en (nI g) sg x1 (nI p) := by
  have h6 := hT.1
  intro z hz
  rw [hz, r4 (by omega)]
  have key : ∀ n i x, i ≤ st → st - i < n → w_X10_wantedAt_10 (fun x => post x) (nI st) (nI co) en (nI g) sg x1 (nI p) (nI (p % 4)) n x (nI i) := by
    intro n
    induction n with
    | zero => intro i x h1 h2; omega
    | succ n ih =>
      intro i x h1 h2
      have h4 := hT.2.1
      refine pk_le st i (fun _ => H _) (fun hlt => pk_le co (p % 4) (fun _ => H _) (fun hc => ?_))
      have hr : ∀ a b, b = nI i + 1 → w_X10_wantedAt_10 (fun x => post x) (nI st) (nI co) en (nI g) sg x1 (nI p) (nI (p % 4)) n a b := fun a b hb => by rw [hb, nI_p1]; exact ih (i + 1) a (by omega) (by omega)
      exact s_isOnWay hT hg hlt hc (fun _ => ⟨fun _ => hr _, fun _ => e_entA hT hlt hc (fun _ => s_codeOf hg (fun _ a _ b hb => hr a b hb))⟩)
  exact ⟨7, key 7 0 _ (by omega) (by omega)⟩
theorem p4_le {g : Nat} (h : g ≤ 5) : 4 * 2 ^ g ≤ 128 := by have := p2_5 h; omega
theorem s_points {post : Int32 → Prop} {g : Nat} (hg : g ≤ 5) (H : post (nI (4 * 2 ^ g))) : wp_X10_points post (nI g) := by
  unfold wp_X10_points
  rw [sh4 g (by omega)]
  exact H
theorem s_wanted {post : Int32 → Prop} {en sg lo hi : Nat → Int32} {st co g pn : Nat} {x1 x2 : Int32} (hT : tabM st co en) (hg : g ≤ 5) (hp : pn ≤ 75) (H : ∀ r, post r) : wp_X10_wanted post (nI st) (nI co) en (nI g) sg (nI pn) lo hi x1 x2 := by
  have hq := p4_le hg
  have J0 : j_X10_wanted_44 post (nI st) (nI co) en (nI g) sg x1 x2 0 := ⟨fun _ => H _, fun q => absurd rfl q⟩
  refine s_isGood hT hg hp (fun _ => ⟨fun _ => H _, fun _ => s_withinA (fun _ => ⟨fun _ => J0, fun _ => s_points hg ?_⟩)⟩)
  exact s_in0 (n := 4 * 2 ^ g) (by omega) ⟨fun _ => J0, fun q => absurd rfl q⟩ (fun j hj e => ⟨fun _ => J0, fun _ => ⟨fun _ => H _, fun _ => by rw [e]; exact s_wantedAt hT hg (by omega) (fun _ => H _)⟩⟩)
