def inr (n : Nat) (x : Int32) : Prop := ∃ j, j < n ∧ x = nI j
theorem inr_neg {n : Nat} {x : Int32} (h : x < 0) (hn : n < 2 ^ 30) : ¬ inr n x := by
  rintro ⟨j, hj, rfl⟩
  exact nI_pos (show j < 2 ^ 31 by omega) h
theorem inr_ge {n : Nat} {x : Int32} (h : nI n ≤ x) (hn : n < 2 ^ 30) : ¬ inr n x := by
  rintro ⟨j, hj, rfl⟩
  rw [nI_leI (by omega) (by omega)] at h
  omega
theorem inr_gt {n : Nat} {x : Int32} (h : nI n - 1 < x) (hn : n < 2 ^ 30) : ¬ inr n x := by
  rintro ⟨j, hj, rfl⟩
  cases n with
  | zero => omega
  | succ k =>
    rw [nI_pred, nI_ltI (by omega) (by omega)] at h
    omega
theorem nI_ij {a b : Nat} (ha : a < 2 ^ 31) (hb : b < 2 ^ 31) (h : nI a = nI b) : a = b := by
  have q := congrArg Int32.toInt h
  rw [nI_toInt ha, nI_toInt hb] at q
  omega
/-- within 0 .. n - 1, or not -/
theorem s_in1 {post : Int32 → Prop} {x : Int32} {n : Nat} (hn : n < 2 ^ 30) (h0 : ¬ inr n x → post 0) (h1 : ∀ j, j < n → x = nI j → post 1) : wp_X10_within post x 0 (nI n - 1) := by
  by_cases q : inr n x
  · obtain ⟨j, hj, e⟩ := id q
    exact s_within (fun a => absurd q (inr_neg a hn)) (fun a => absurd q (inr_gt a hn)) (fun _ _ => h1 j hj e)
  · exact s_in0 hn (h0 q) (fun j hj e => absurd ⟨j, hj, e⟩ q)
theorem h_hasState {post : Int32 → Prop} {st : Nat} {x : Int32} (hs : st ≤ 6) (H0 : ¬ inr st x → post 0) (H1 : ∀ j, j < st → x = nI j → post 1) : wp_X2_hasState post (nI st) x := by
  refine ⟨fun a => H0 (inr_neg a (by omega)), fun a => ⟨fun b => H0 (inr_ge b (by omega)), fun b => ?_⟩⟩
  obtain ⟨j, hj, e, _⟩ := ix_in a b (Nat.le_refl _) (by omega)
  exact H1 j hj e
theorem h_hasColumn {post : Int32 → Prop} {co : Nat} {x : Int32} (hs : co ≤ 4) (H0 : ¬ inr co x → post 0) (H1 : ∀ j, j < co → x = nI j → post 1) : wp_X2_hasColumn post (nI co) x := by
  refine ⟨fun a => H0 (inr_neg a (by omega)), fun a => ⟨fun b => H0 (inr_ge b (by omega)), fun b => ?_⟩⟩
  obtain ⟨j, hj, e, _⟩ := ix_in a b (Nat.le_refl _) (by omega)
  exact H1 j hj e
theorem h_next {post : Int32 → Prop} {en : Nat → Int32} {st co : Nat} {x y : Int32} (hs : st ≤ 6) (hc : co ≤ 4) (H0 : ¬ (inr st x ∧ inr co y) → post (-1)) (H1 : ∀ j k, j < st → k < co → x = nI j → y = nI k → post (en (4 * j + k))) : wp_X2_next post en (nI st) (nI co) x y := by
  refine h_hasState hs (fun q => ⟨fun _ => H0 (fun r => q r.1), fun q => absurd rfl q⟩) (fun j hj e => ⟨fun q => absurd q (by decide), fun _ => h_hasColumn hc (fun q => ⟨fun _ => H0 (fun r => q r.2), fun q => absurd rfl q⟩) (fun k hk e2 => ⟨fun q => absurd q (by decide), fun _ => ?_⟩)⟩)
  have h := H1 j k hj hk e e2
  rw [e, e2, nI4, nI_clamp (show 4 * j + k < 2 ^ 31 by omega)]
  exact ⟨pk_in (4 * j + k) 24 (by omega), h⟩
def inL (x : Int32) : Prop := ∃ w, 32 ≤ w ∧ w ≤ 126 ∧ x = nI w
theorem inL_of {x : Int32} (a : ¬ x < 32) (b : x ≤ 126) : inL x := by
  have h0 : ¬ x < 0 := fun q => a (by
    rw [Int32.lt_iff_toInt_lt] at q ⊢
    have e1 : (0 : Int32).toInt = 0 := by decide
    have e2 : (32 : Int32).toInt = 32 := by decide
    omega)
  obtain ⟨w, hw, e⟩ := nI_of h0
  rw [e, show (32 : Int32) = nI 32 from rfl, nI_ltI (by omega) (by omega)] at a
  rw [e, show (126 : Int32) = nI 126 from rfl, nI_leI (by omega) (by omega)] at b
  exact ⟨w, by omega, by omega, e⟩
theorem inL_lo {x : Int32} (a : x < 32) : ¬ inL x := by
  rintro ⟨w, h1, h2, e⟩
  rw [e, show (32 : Int32) = nI 32 from rfl, nI_ltI (by omega) (by omega)] at a
  omega
theorem inL_hi {x : Int32} (a : ¬ x ≤ 126) : ¬ inL x := by
  rintro ⟨w, h1, h2, e⟩
  rw [e, show (126 : Int32) = nI 126 from rfl, nI_leI (by omega) (by omega)] at a
  omega
theorem h_letter {post : Int32 → (Nat → Int32) → Int32 → Prop} {lt : Nat → Int32} {pl : Nat} {x1 : Int32} (hl : pl ≤ 40) (H0 : ¬ inL x1 → post (-1002) lt (nI pl)) (H2 : inL x1 → ¬ pl < 40 → post (-1004) lt (nI pl)) (H1 : ∀ w, pl < 40 → 32 ≤ w → w ≤ 126 → x1 = nI w → post (nI (pl + 1)) (upd lt pl x1) (nI (pl + 1))) : wp_X9_letter post lt (nI pl) x1 := by
  refine ⟨fun a => H0 (inL_lo a), fun a => ⟨fun b => ?_, fun b => H0 (inL_hi b)⟩⟩
  obtain ⟨w, h1, h2, e⟩ := inL_of a b
  have hL : inL x1 := ⟨w, h1, h2, e⟩
  subst e
  exact q_append hl (by omega) (fun h => ⟨fun _ => H2 hL h, fun q => absurd rfl q⟩) (fun h => ⟨fun q => absurd q (by decide), fun _ => H1 w h h1 h2 rfl⟩)
theorem t_letter {post : Int32 → Int32 → (Nat → Int32) → Prop} {pg : Nat → Int32} {pl : Nat} {x1 : Int32} (hl : pl ≤ 40) (H0 : ¬ inL x1 → post (-1002) (nI pl) pg) (H2 : inL x1 → ¬ pl < 40 → post (-1004) (nI pl) pg) (H1 : ∀ w, pl < 40 → 32 ≤ w → w ≤ 126 → x1 = nI w → post (nI (pl + 1)) (nI (pl + 1)) (upd pg pl x1)) : wp_X10_letter post (nI pl) pg x1 := by
  refine s_within (fun a => ⟨fun _ => H0 (inL_lo a), fun q => absurd rfl q⟩) (fun a => ⟨fun _ => H0 (inL_hi (fun h => by
    rw [Int32.lt_iff_toInt_lt] at a
    rw [Int32.le_iff_toInt_le] at h
    omega)), fun q => absurd rfl q⟩) (fun a b => ⟨fun q => absurd q (by decide), fun _ => ?_⟩)
  have b2 : x1 ≤ 126 := by
    rw [Int32.le_iff_toInt_le]
    rw [Int32.lt_iff_toInt_lt] at b
    omega
  obtain ⟨w, h1, h2, e⟩ := inL_of a b2
  refine pk_eq pl 40 (fun h => H2 ⟨w, h1, h2, e⟩ (by omega)) (fun h => ⟨pk_in pl 40 (by omega), fun g hg f hf => ?_⟩)
  rw [hf, nI_p1, hg, nI_clamp (show pl < 2 ^ 31 by omega)]
  exact H1 w (by omega) h1 h2 e
theorem h_stateAt {post : Int32 → Prop} {lt : Nat → Int32} {v : Nat → Nat} {pl w s k : Nat} (hl : pl ≤ 40) (hv : ∀ i, i < pl → lt i = nI (v i) ∧ v i < 128) (hi : s * (w + 1) + k < pl) (H : post (stv (v (s * (w + 1) + k)))) : wp_X5_stateAt post lt (nI pl) (nI w) (nI s) (nI k) := by
  unfold wp_X5_stateAt
  rw [nI_p1, pk_mul, nI_add]
  refine ⟨fun q => absurd q (nI_pos (by omega)), fun _ => pk_le pl (s * (w + 1) + k) (fun h => absurd h (by omega)) (fun h => ⟨pk_in (s * (w + 1) + k) 40 (by omega), ?_⟩)⟩
  rw [nI_clamp (show s * (w + 1) + k < 2 ^ 31 by omega), (hv _ hi).1]
  dsimp only
  rw [chr_id (by have := (hv _ hi).2; omega)]
  exact q_stateOf (by have := (hv _ hi).2; omega) H
/-- the entries of a table that is read -/
def tE (v : Nat → Nat) (c s k : Nat) : Int32 := stv (v (s * (c + 1) + k))
theorem h_read {post : (Nat → Int32) → Int32 → Int32 → Int32 → Int32 → Int32 → Int32 → Prop} {lt en : Nat → Int32} {v : Nat → Nat} {pl st co : Nat} {a b c d e f : Int32} (hl : pl ≤ 40) (hv : ∀ i, i < pl → lt i = nI (v i) ∧ v i < 128) (hs : st ≤ 6) (hc : co ≤ 4) (hp : st * (co + 1) = pl + 1) (H : ∀ en' c d e f, (∀ s k, s < st → k < co → en' (4 * s + k) = tE v co s k) → f = 0 ∨ f = 1 → post en' (nI st) (nI co) c d e f) : wp_X2_read post lt (nI pl) (nI st) (nI co) en a b c d e f := by
  have ix : ∀ s k, s < st → k < co → s * (co + 1) + k < pl := by
    intro s k h1 h2
    have : (s + 1) * (co + 1) ≤ st * (co + 1) := Nat.mul_le_mul_right _ h1
    rw [Nat.succ_mul] at this
    omega
  have k1 : ∀ (KE : (Nat → Int32) → Prop) (s : Nat), s < st → (∀ a, (∀ r k, (r < s ∧ k < co) ∨ (r = s ∧ k < co) → a (4 * r + k) = tE v co r k) → KE a) → ∀ n i en, i ≤ co → co - i < n → (∀ r k, (r < s ∧ k < co) ∨ (r = s ∧ k < i) → en (4 * r + k) = tE v co r k) → w_X2_read_28 KE lt (nI pl) (nI co) (nI co) (nI s) n (nI i) en := by
    intro KE s hs2 hK n
    induction n with
    | zero => intro i en h1 h2; omega
    | succ n ih =>
      intro i en h1 h2 h3
      refine pk_le co i (fun hle => hK _ (fun r k hrk => h3 r k (by omega))) (fun hlt => h_stateAt hl hv (ix s i hs2 hlt) ?_)
      rw [nI4, nI_clamp (show 4 * s + i < 2 ^ 31 by omega)]
      refine ⟨pk_in (4 * s + i) 24 (by omega), fun a ha z hz => ?_⟩
      rw [hz, nI_p1 i, ha]
      refine ih (i + 1) _ (by omega) (by omega) (fun r k hrk => ?_)
      by_cases ei : 4 * r + k = 4 * s + i
      · have : r = s := by omega
        subst this
        have : k = i := by omega
        subst this
        rw [pk_us]
        rfl
      · rw [pk_un ei]
        exact h3 r k (by omega)
  have k2 : ∀ (KE : (Nat → Int32) → Prop), (∀ a, (∀ r k, r < st → k < co → a (4 * r + k) = tE v co r k) → KE a) → ∀ n i en, i ≤ st → st - i < n → (∀ r k, r < i → k < co → en (4 * r + k) = tE v co r k) → w_X2_read_18 KE lt (nI pl) (nI co) (nI st) (nI co) n (nI i) en := by
    intro KE hK n
    induction n with
    | zero => intro i en h1 h2; omega
    | succ n ih =>
      intro i en h1 h2 h3
      exact pk_le st i (fun _ => hK _ (fun r k hr hk => h3 r k (by omega) hk)) (fun hlt => ⟨5, k1 _ i hlt (fun a ha z hz => by rw [hz, nI_p1 i]; exact ih (i + 1) a (by omega) (by omega) (fun r k hr hk => ha r k (by omega))) 5 0 _ (by omega) (by omega) (fun r k hrk => h3 r k (by omega) (by omega))⟩)
  exact ⟨7, k2 _ (fun en' hen => q_inspect hs hc (fun a b c d h => H _ _ _ _ _ hen h)) 7 0 _ (by omega) (by omega) (fun r k hr => absurd hr (by omega))⟩
theorem h_table {post : Int32 → Int32 → Int32 → Int32 → Int32 → Int32 → Int32 → Int32 → (Nat → Int32) → Int32 → Int32 → Int32 → Int32 → Int32 → Int32 → (Nat → Int32) → (Nat → Int32) → Int32 → (Nat → Int32) → (Nat → Int64) → (Nat → Int64) → Int32 → Int32 → (Nat → Int32) → (Nat → Int32) → Int32 → (Nat → Int32) → Int32 → (Nat → Int32) → Int32 → Int32 → Int32 → Prop}
    {v : Nat → Nat} {lt en lo hi ls sg cd ac rd : Nat → Int32} {kp kf : Nat → Int64} {pl st co pn lz g b : Nat} {u tr fa ro ir wi mo sb am nm ca wa tu ch : Int32}
    (hl : pl ≤ 40) (hv : ∀ i, i < pl → lt i = nI (v i) ∧ v i < 128) (hs : st ≤ 6) (hc : co ≤ 4) (hp : pn ≤ 75) (hz : lz ≤ 5) (hg : g ≤ 5) (hb : b ≤ 7)
    (H0 : ¬ tabOK v pl → ∀ fa' ro' ir' wi', post (-1003) u tr (nI pl) fa' ro' ir' wi' en (nI st) (nI co) mo sb am nm lo hi (nI pn) ls kp kf ca (nI lz) sg cd (nI g) ac (nI b) rd wa tu ch)
    (H1 : ∀ a c, FR v pl pl a c c → 0 < a → a ≤ 5 → c ≤ 4 → gmx v pl ≤ a + 1 → (a + 1) * (c + 1) = pl + 1 → ∀ u' fa' ro' ir' wi' en' mo' sb' am' nm' lo' hi' pn' ls' kp' kf' ca' lz' sg' cd' g' ac' b' rd', pn' ≤ 75 → lz' ≤ 5 → g' ≤ 5 → b' ≤ 7 → (∀ s k, s < a + 1 → k < c → en' (4 * s + k) = tE v c s k) →
      post (nI (a + 1)) u' (tr + 1) (nI 0) fa' ro' ir' wi' en' (nI (a + 1)) (nI c) mo' sb' am' nm' lo' hi' (nI pn') ls' kp' kf' ca' (nI lz') sg' cd' (nI g') ac' (nI b') rd' (-1) 0 0) :
    wp_X9_table post u tr lt (nI pl) fa ro ir wi en (nI st) (nI co) mo sb am nm lo hi (nI pn) ls kp kf ca (nI lz) sg cd (nI g) ac (nI b) rd wa tu ch := by
  refine q_scan hl hv (fun f r e c hF hI hf => ?_)
  obtain ⟨i1, i2, i3, i4, i5⟩ := id hI
  refine q_isTable hl hv hF hI (fun ef ec h0 hgm ok => ⟨fun q => absurd q (by decide), fun _ => ?_⟩) (fun hn => ⟨fun _ => H0 hn _ _ _ _, fun q => absurd rfl q⟩)
  subst ef
  subst ec
  have hp1 : (r + 1) * (e + 1) = f + 1 := by rw [Nat.succ_mul]; omega
  refine h_read (st := r + 1) (co := e) hl hv (by omega) i3 hp1 (fun en' mo' sb' am' nm' hen _ f5 hf5 => ?_)
  have J : ∀ (lo' hi' ls' : Nat → Int32) (kp' kf' : Nat → Int64) (pn' lz' : Nat) (ca' : Int32), pn' ≤ 75 → lz' ≤ 5 → j_X9_table_111 post u f5 (nI 0) (nI f) (nI (r + 1)) (nI e) (nI e) en' (nI (r + 1)) (nI e) mo' sb' am' nm' lo' hi' (nI pn') ls' kp' kf' ca' (nI lz') sg cd (nI g) ac (nI b) rd (-1) 0 0 := fun lo' hi' ls' kp' kf' pn' lz' ca' h1 h2 => by
    rw [hf5]
    exact q_take h2 (fun _ _ k hk => f_settle (by omega) i3 h1 hk hb (fun _ _ _ _ h7 => H1 r e hF h0 i1 i3 hgm hp1 _ _ _ _ _ _ _ _ _ _ _ _ _ _ _ _ _ _ _ _ _ _ _ _ h1 h2 hk h7 hen))
  exact ⟨fun _ => J _ _ _ _ _ 0 0 _ (by omega) (by omega), fun _ => q_gather (by omega) i3 (fun _ _ k hk => q_find hk (fun _ _ _ _ z _ hz => J _ _ _ _ _ k z _ hk hz))⟩
theorem h_entry {post : Int32 → Prop} {en : Nat → Int32} {st co : Nat} {x y : Int32} (hs : st ≤ 6) (hc : co ≤ 4) (H0 : ¬ (inr st x ∧ inr co y) → post (-1001)) (H1 : ∀ j k, j < st → k < co → x = nI j → y = nI k → post (en (4 * j + k))) : wp_X9_entry post en (nI st) (nI co) x y :=
  h_hasState hs (fun q => ⟨fun _ => H0 (fun r => q r.1), fun q => absurd rfl q⟩) (fun j hj e => ⟨fun q => absurd q (by decide), fun _ => h_hasColumn hc (fun q => ⟨fun _ => H0 (fun r => q r.2), fun q => absurd rfl q⟩) (fun k hk e2 => ⟨fun q => absurd q (by decide), fun _ => h_next hs hc (fun q => absurd ⟨⟨j, hj, e⟩, ⟨k, hk, e2⟩⟩ q) H1⟩)⟩)
theorem h_walk {post : Int32 → Int32 → Int32 → Int32 → Prop} {st : Nat} {a b c x : Int32} (hs : st ≤ 6) (H0 : ¬ inr st x → post (-1001) a b c) (H1 : ∀ j, j < st → x = nI j → post a x 0 0) : wp_X9_walk post (nI st) a b c x :=
  h_hasState hs (fun q => ⟨fun _ => H0 q, fun q => absurd rfl q⟩) (fun j hj e => ⟨fun q => absurd q (by decide), fun _ => H1 j hj e⟩)
theorem h_turn {post : Int32 → Int32 → Int32 → Int32 → Prop} {en cd : Nat → Int32} {st co : Nat} {a b c x : Int32} (hs : st ≤ 6) (hc : co ≤ 4) (hw : wkM st a) (H0 : ¬ inr co x → post (-1001) a b c) (H1 : inr co x → a = -1 → post (-1003) a b c) (H2 : ∀ j k, j < st → k < co → a = nI j → x = nI k → (en (4 * j + k) = -1 → post (-1003) a b c) ∧ (en (4 * j + k) ≠ -1 → ∀ c', post (en (4 * j + k)) (en (4 * j + k)) (b + 1) c')) : wp_X9_turn post en (nI st) (nI co) cd a b c x := by
  refine h_hasColumn hc (fun q => ⟨fun _ => H0 q, fun q => absurd rfl q⟩) (fun k hk e => ⟨fun q => absurd q (by decide), fun _ => ?_⟩)
  refine h_next hs hc (fun q => ?_) (fun j k2 hj hk2 e1 e2 => ⟨fun h => (H2 j k2 hj hk2 e1 e2).1 h, fun h => q_changesBetween (fun _ f hf g hg => ?_)⟩)
  · rcases hw with hw | ⟨s, hs2, hw⟩
    · exact ⟨fun _ => H1 ⟨k, hk, e⟩ hw, fun q => absurd rfl q⟩
    · exact absurd ⟨⟨s, hs2, hw⟩, ⟨k, hk, e⟩⟩ q
  · rw [hf]
    exact (H2 j k2 hj hk2 e1 e2).2 h g
theorem t_entry {post : Int32 → Prop} {en : Nat → Int32} {st co : Nat} {x1 x2 : Int32} (hT : tabM st co en) (H0 : ¬ (inr st x1 ∧ inr co x2) → post (-1001)) (H1 : ∀ j k, j < st → k < co → x1 = nI j → x2 = nI k → post (en (4 * j + k))) : wp_X10_entry post (nI st) (nI co) en x1 x2 := by
  have h6 := hT.1
  have h4 := hT.2.1
  unfold wp_X10_entry wp_X10_isEntry
  refine s_in1 (n := st) (by omega) (fun q => ⟨fun _ => ⟨fun _ => H0 (fun r => q r.1), fun q => absurd rfl q⟩, fun q => absurd rfl q⟩) (fun j hj hx => ⟨fun q => absurd q (by decide), fun _ => ?_⟩)
  refine s_in1 (n := co) (by omega) (fun q => ⟨fun _ => ⟨fun _ => H0 (fun r => q r.2), fun q => absurd rfl q⟩, fun q => absurd rfl q⟩) (fun k hk hy => ⟨fun q => absurd q (by decide), fun _ => ⟨fun q => absurd q (by decide), fun _ => ?_⟩⟩)
  have h := H1 j k hj hk hx hy
  rw [hx, hy]
  exact e_at (by omega) h
theorem t_walk {post : Int32 → Int32 → Int32 → Int32 → Prop} {st : Nat} {wa tu ch x1 : Int32} (h6 : st ≤ 6) (H0 : ¬ inr st x1 → post (-1001) wa tu ch) (H1 : ∀ j, j < st → x1 = nI j → post wa x1 0 0) : wp_X10_walk post (nI st) wa tu ch x1 :=
  s_in1 (n := st) (by omega) (fun q => ⟨fun _ => H0 q, fun q => absurd rfl q⟩) (fun j hj e => ⟨fun q => absurd q (by decide), fun _ => H1 j hj e⟩)
theorem t_turn {post : Int32 → Int32 → Int32 → Int32 → Prop} {en sg : Nat → Int32} {st co g : Nat} {wa tu ch x1 : Int32} (hT : tabM st co en) (hg : g ≤ 5) (hw : wkM st wa) (H0 : ¬ inr co x1 → post (-1001) wa tu ch) (H1 : inr co x1 → wa = -1 → post (-1003) wa tu ch) (H2 : ∀ j k, j < st → k < co → wa = nI j → x1 = nI k → (en (4 * j + k) = -1 → post (-1003) wa tu ch) ∧ (en (4 * j + k) ≠ -1 → ∀ c', post (en (4 * j + k)) (en (4 * j + k)) (tu + 1) c')) : wp_X10_turn post (nI st) (nI co) en (nI g) sg wa tu ch x1 := by
  have h6 := hT.1
  have h4 := hT.2.1
  refine s_in1 (n := co) (by omega) (fun q => ⟨fun _ => H0 q, fun q => absurd rfl q⟩) (fun c hc e => ⟨fun q => absurd q (by decide), fun _ => ⟨fun h => H1 ⟨c, hc, e⟩ h, fun hn => ?_⟩⟩)
  obtain ⟨s, hs, e2⟩ : ∃ s, s < st ∧ wa = nI s := hw.resolve_left hn
  have h2 := H2 s c hs hc e2 e
  rw [e, e2]
  rw [e2] at h2
  refine e_at (by omega) ⟨fun h => h2.1 h, fun h => e_at (by omega) ?_⟩
  have J : ∀ v, j_X10_turn_86 post tu (en (4 * s + c)) v ch := fun v f hf f2 hf2 => by
    rw [hf2]
    exact h2.2 h f
  exact s_isNormal hT ⟨fun _ => J _, fun q => absurd rfl q⟩ (fun _ => ⟨fun _ => J _, fun _ => s_codeOf hg (fun _ => s_codeOf hg (fun _ => s_ones _ (fun _ => J _)))⟩)
theorem t_table {post : Int32 → Int32 → Int32 → Int32 → (Nat → Int32) → Int32 → (Nat → Int32) → Int32 → Int32 → Int32 → Int32 → Int32 → Int32 → Int32 → Int32 → (Nat → Int32) → Int32 → (Nat → Int32) → (Nat → Int32) → Int32 → (Nat → Int32) → (Nat → Int32) → (Nat → Int64) → (Nat → Int64) → Int32 → Prop}
    {pg en sg na lo hi la tr : Nat → Int32} {kl kh : Nat → Int64} {v : Nat → Nat} {pl st co g pn : Nat} {wa tu ch rd nr ne nc gr lm ld : Int32} (hl : pl ≤ 40) (hv : ∀ i, i < pl → pg i = nI (v i) ∧ v i < 128)
    (hT : tabM st co en) (hg : g ≤ 5) (hw : wkM st wa) (hp : pn ≤ 75) (hm : lmM lm)
    (H0 : ¬ tabOK v pl → ∀ nr' ne' nc' gr' na', post (-1003) (nI pl) (nI st) (nI co) en (nI g) sg wa tu ch rd nr' ne' nc' gr' na' (nI pn) lo hi lm la tr kl kh ld)
    (H1 : ∀ a c, FR v pl pl a c c → 0 < a → a ≤ 5 → c ≤ 4 → gmx v pl ≤ a + 1 → ∀ en' g' sg' nr' ne' nc' gr' na' pn' lo' hi' lm' la' tr' kl' kh' ld', tabM (a + 1) c en' → (∀ s k, s < a + 1 → k < c → en' (4 * s + k) = tE v c s k) → g' ≤ 5 → pn' ≤ 75 → lmM lm' →
      post (nI (a + 1)) (nI 0) (nI (a + 1)) (nI c) en' (nI g') sg' (-1) 0 0 (rd + 1) nr' ne' nc' gr' na' (nI pn') lo' hi' lm' la' tr' kl' kh' ld') : wp_X10_table post (nI pl) pg (nI st) (nI co) en (nI g) sg wa tu ch rd nr ne nc gr na (nI pn) lo hi lm la tr kl kh ld := by
  refine s_readPage hl hv (fun f r e c na' hF hI hR hf => ?_)
  have gle := gmx_le v f
  have J0 : ¬ tabOK v pl → ∀ gr na', j_X10_table_45 post (nI pl) (nI st) (nI co) en (nI g) sg wa tu ch rd (nI r) (nI e) (nI c) gr na' (nI pn) lo hi lm la tr kl kh ld 0 := fun hn gr na' => ⟨fun _ => H0 hn _ _ _ _ _, fun q => absurd rfl q⟩
  obtain ⟨i1, i2, i3, i4, i5⟩ := hI
  have hFl := hF.1
  refine pk_eq f pl (fun e1 => pk_le r 0 (fun h => J0 ?_ _ _) (fun h0 => pk_eq e c (fun ec => ?_) (fun h => J0 ?_ _ _))) (fun h => J0 ?_ _ _)
  · rintro ⟨r', c', hF', h2, h3⟩
    have := FR_eq hF hF'
    omega
  · subst e1
    subst ec
    rw [nlt_gI (by omega) (by omega)]
    refine ⟨fun h => J0 ?_ _ _, fun h => ?_⟩
    · rintro ⟨r', c', hF', h2, h3⟩
      have := FR_eq hF hF'
      omega
    have ok : tabOK v f := ⟨r, e, hF, h0, by omega⟩
    refine ⟨fun q => absurd q (by decide), fun _ s hs => ?_⟩
    rw [hs, nI_p1]
    have k1 : ∀ n i en', i ≤ 4 * (r + 1) → 4 * (r + 1) - i < n → (∀ k, k < i → en' k = na' k) → ∀ KE : (Nat → Int32) → Prop, (∀ en', (∀ k, k < 4 * (r + 1) → en' k = na' k) → KE en') → w_X10_table_74 KE (nI (r + 1)) na' n (nI i) en' := by
      intro n
      induction n with
      | zero => intro i en' h1 h2; omega
      | succ n ih =>
        intro i en' h1 h2 h3 KE hK
        refine pk_le (4 * (r + 1)) i (fun hle => hK en' (fun k hk => h3 k (by omega))) (fun hlt => ⟨pk_in i 24 (by omega), pk_in i 24 (by omega), fun a ha z hz => ?_⟩) (by rw [show (4 : Int32) = nI 4 from rfl, pk_mul]) rfl
        rw [nI_clamp (show i < 2 ^ 31 by omega)] at ha
        rw [hz, nI_p1 i]
        refine ih (i + 1) a (by omega) (by omega) (fun k hk => ?_) KE hK
        by_cases ek : k = i
        · rw [ha, ek, pk_us]
        · rw [ha, pk_un ek]; exact h3 k (by omega)
    refine ⟨26, k1 26 0 en (by omega) (by omega) (fun k hk => absurd hk (by omega)) _ (fun en' hen f2 hf2 => ?_)⟩
    have hT' : tabM (r + 1) e en' := rd_tab i1 i3 hR (by rw [← hf]; omega) hen
    have hen2 : ∀ s k, s < r + 1 → k < e → en' (4 * s + k) = tE v e s k := fun s k h1 h2 => by rw [hen _ (by omega)]; exact hR s k (by omega)
    refine s_layPartings hT' (fun pn' lo' hi' hp' => s_layLeast hT' hp' (fun m la' tr' kl' kh' hm' => ?_))
    have hlm : lmM m := by
      rcases hm' with q | ⟨k, _, q2, q3⟩
      · exact Or.inl q
      · exact Or.inr ⟨k, q2, q3⟩
    have fin : ∀ g' sg' ld', g' ≤ 5 → post (nI (r + 1)) (0 : Int32) (nI (r + 1)) (nI e) en' (nI g') sg' (-1) 0 0 f2 (nI r) (nI e) (nI e) (gI (gmx v f)) na' (nI pn') lo' hi' m la' tr' kl' kh' ld' := fun g' sg' ld' hg' => by
      rw [hf2]
      exact H1 r e hF h0 i1 i3 (by omega) _ _ _ _ _ _ _ _ _ _ _ _ _ _ _ _ _ hT' hen2 hg' hp' hlm
    rcases hlm with q | ⟨k, hk, q⟩
    · rw [q] at fin ⊢
      exact ⟨1, ⟨fun _ => ⟨fun q2 => absurd q2 (by decide), fun _ => fin 0 _ _ (by omega)⟩, fun q2 => absurd (by decide) q2⟩⟩
    · rw [q] at fin ⊢
      have k2 : ∀ n i sg', i ≤ k → k - i < n → w_X10_table_147 (fun (ysignalAt_17 : Nat → Int32) => ((0 ≤ nI k → (wp_X10_altered (fun (ylaid_19 : Int32) => post (nI (r + 1)) (0 : Int32) (nI (r + 1)) (nI e) en' (nI k) ysignalAt_17 ((-1) : Int32) (0 : Int32) (0 : Int32) f2 (nI r) (nI e) (nI e) (gI (gmx v f)) na' (nI pn') lo' hi' (nI k) la' tr' kl' kh' ylaid_19) ld)) ∧ (¬ 0 ≤ nI k → (wp_X10_altered (fun (ylaid_20 : Int32) => post (nI (r + 1)) (0 : Int32) (nI (r + 1)) (nI e) en' (0 : Int32) ysignalAt_17 ((-1) : Int32) (0 : Int32) (0 : Int32) f2 (nI r) (nI e) (nI e) (gI (gmx v f)) na' (nI pn') lo' hi' (nI k) la' tr' kl' kh' ylaid_20) ld)))) (nI k) la' n (nI i) sg' := by
        intro n
        induction n with
        | zero => intro i sg' h1 h2; omega
        | succ n ih =>
          intro i sg' h1 h2
          refine pk_le k i (fun _ => ⟨fun _ => fin k _ _ hk, fun q2 => absurd (nI_pos' (by omega)) q2⟩) (fun hlt => ⟨pk_in i 5 (by omega), pk_in i 5 (by omega), fun a _ z hz => ?_⟩)
          rw [hz, nI_p1 i]
          exact ih (i + 1) a (by omega) (by omega)
      exact ⟨k + 1, k2 (k + 1) 0 sg (by omega) (by omega)⟩
  · rintro ⟨r', c', hF', h2, h3⟩
    have := FR_eq hF hF'
    omega
  · rintro ⟨r', c', hF', h2, h3⟩
    have := FR_eq hF hF'
    omega
