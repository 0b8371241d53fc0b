/-- each of the five logics: its rows within their rooms -/
def loK (sm : Nat → Nat → Int32) (wd sz : Nat → Int32) : Prop := ∀ k, k < 5 → (∃ w, w ≤ 672 ∧ wd k = nI w) ∧ ∃ s, sz k = nI s ∧ smL s (sm k)
theorem loK_up {sm : Nat → Nat → Int32} {wd sz : Nat → Int32} {k w s : Nat} {a : Nat → Int32} (h : loK sm wd sz) (hw : w ≤ 672) (hs : smL s a) : loK (va_up sm k a) (va_up wd k (nI w)) (va_up sz k (nI s)) := by
  intro i hi
  by_cases e : i = k
  · subst e
    rw [va_up_self, va_up_self, va_up_self]
    exact ⟨⟨w, hw, rfl⟩, s, rfl, hs⟩
  · rw [va_up_ne _ _ e, va_up_ne _ _ e, va_up_ne _ _ e]
    exact h i hi
theorem f_letter {post : Int32 → (Nat → Int32) → Int32 → Prop} {lt : Nat → Int32} {pl : Nat} {x1 : Int32} (hl : pl ≤ 40) (H0 : ¬ (pl < 40 ∧ ∃ w, 32 ≤ w ∧ w ≤ 126 ∧ x1 = nI w) → ∀ r, post r lt (nI pl)) (H1 : ∀ w, pl < 40 → 32 ≤ w → w ≤ 126 → x1 = nI w → post (nI (pl + 1)) (upd lt pl x1) (nI (pl + 1))) : wp_X9_letter post lt (nI pl) x1 := by
  refine ⟨fun a => H0 ?_ _, fun a => ⟨fun b => ?_, fun b => H0 ?_ _⟩⟩
  · rintro ⟨_, w, h1, h2, e⟩
    rw [e, show (32 : Int32) = nI 32 from rfl, nI_ltI (by omega) (by omega)] at a
    omega
  · have h0 : ¬ x1 < 0 := fun q => a (by
      rw [Int32.lt_iff_toInt_lt] at q ⊢
      have e1 : (0 : Int32).toInt = 0 := by decide
      have e2 : (32 : Int32).toInt = 32 := by decide
      omega)
    obtain ⟨w, hw, e⟩ := nI_of h0
    rw [e, show (32 : Int32) = nI 32 from rfl, nI_ltI (by omega) (by omega)] at a
    rw [e, show (126 : Int32) = nI 126 from rfl, nI_leI (by omega) (by omega)] at b
    have hx : w < 128 := by omega
    rw [e]
    refine q_append hl hx (fun h => ⟨fun _ => H0 ?_ _, fun q => absurd rfl q⟩) (fun h => ⟨fun q => absurd q (by decide), fun _ => ?_⟩)
    · rintro ⟨q, _⟩
      exact h q
    · have := H1 w h (by omega) (by omega) e
      rw [e] at this
      exact this
  · rintro ⟨_, w, h1, h2, e⟩
    rw [e, show (126 : Int32) = nI 126 from rfl, nI_leI (by omega) (by omega)] at b
    omega
theorem f_fault {post : Int32 → Int32 → Int32 → Int32 → Int32 → Prop} {lt : Nat → Int32} {v : Nat → Nat} {pl : Nat} {a b c d : Int32} (hl : pl ≤ 40) (hv : ∀ i, i < pl → lt i = nI (v i) ∧ v i < 128) (H : ∀ f r e c, FR v pl f r e c → post (nI f) (nI f) (nI (r + 1)) (nI e) (nI c)) : wp_X9_fault post lt (nI pl) a b c d :=
  q_scan hl hv (fun f r e c h _ _ => H f r e c h)
theorem f_isGood {post : Int32 → Prop} {u n : Int32} (H : ∀ r, post r) : wp_X9_isGood post u n := ⟨fun _ => H _, fun _ => ⟨fun _ => H _, fun _ => H _⟩⟩
theorem f_settle {post : Int32 → (Nat → Int32) → Int32 → (Nat → Int32) → Prop} {en lo hi sg cd ac rd : Nat → Int32} {st co pn g b : Nat} {u nm : Int32} (hs : st ≤ 6) (hc : co ≤ 4) (hp : pn ≤ 75) (hg : g ≤ 5) (hb : b ≤ 7) (H : ∀ u' ac' b' rd', b' ≤ 7 → post u' ac' (nI b') rd') : wp_X9_settle post u en (nI st) (nI co) nm lo hi (nI pn) sg cd (nI g) ac (nI b) rd := by
  refine q_countUnkept hp hg (fun r => ⟨6, ?_⟩)
  have key : ∀ (KE : (Nat → Int32) → Prop), (∀ a, KE a) → ∀ n i a, i ≤ 5 → 5 - i < n → w_X9_settle_17 KE n (nI i) a := by
    intro KE hK n
    induction n with
    | zero => intro i a h1 h2; omega
    | succ n ih =>
      intro i a h1 h2
      exact pk_le 5 i (fun _ => hK _) (fun hlt => ⟨pk_in i 5 (by omega), fun z hz => by rw [hz, nI_p1 i]; exact ih (i + 1) _ (by omega) (by omega)⟩)
  exact key _ (fun rd' => f_isGood (fun _ => ⟨fun _ => H _ _ _ _ hb, fun _ => q_chart hs hc hg (fun a => H _ _ _ _ (by omega))⟩)) 6 0 _ (by omega) (by omega)
theorem f_table {post : Int32 → Int32 → Int32 → Int32 → Int32 → Int32 → Int32 → Int32 → (Nat → Int32) → Int32 → Int32 → Int32 → Int32 → Int32 → Int32 → (Nat → Int32) → (Nat → Int32) → Int32 → (Nat → Int32) → (Nat → Int64) → (Nat → Int64) → Int32 → Int32 → (Nat → Int32) → (Nat → Int32) → Int32 → (Nat → Int32) → Int32 → (Nat → Int32) → Int32 → Int32 → Int32 → Prop}
    {v : Nat → Nat} {lt en lo hi ls sg cd ac rd : Nat → Int32} {kp kf : Nat → Int64} {pl st co pn lz g b : Nat} {u tr fa ro ir wi mo sb am nm ca wa tu ch : Int32}
    (hl : pl ≤ 40) (hv : ∀ i, i < pl → lt i = nI (v i) ∧ v i < 128) (hs : st ≤ 6) (hc : co ≤ 4) (hp : pn ≤ 75) (hz : lz ≤ 5) (hg : g ≤ 5) (hb : b ≤ 7)
    (H : ∀ r u' tr' pl' fa' ro' ir' wi' en' st' co' mo' sb' am' nm' lo' hi' pn' ls' kp' kf' ca' lz' sg' cd' g' ac' b' rd' wa' tu' ch', (tabOK v pl → pl' = 0) → (¬ tabOK v pl → pl' = pl) → st' ≤ 6 → co' ≤ 4 → pn' ≤ 75 → lz' ≤ 5 → g' ≤ 5 → b' ≤ 7 →
      post r u' tr' (nI pl') fa' ro' ir' wi' en' (nI st') (nI co') mo' sb' am' nm' lo' hi' (nI pn') ls' kp' kf' ca' (nI lz') sg' cd' (nI g') ac' (nI b') rd' wa' tu' ch') :
    wp_X9_table post u tr lt (nI pl) fa ro ir wi en (nI st) (nI co) mo sb am nm lo hi (nI pn) ls kp kf ca (nI lz) sg cd (nI g) ac (nI b) rd wa tu ch := by
  refine q_scan hl hv (fun f r e c hF hI _ => ?_)
  obtain ⟨i1, i2, i3, i4, i5⟩ := id hI
  refine q_isTable hl hv hF hI (fun _ _ h0 _ ok => ⟨fun q => absurd q (by decide), fun _ => ?_⟩) (fun hn => ⟨fun _ => H _ _ _ _ _ _ _ _ _ _ _ _ _ _ _ _ _ _ _ _ _ _ _ _ _ _ _ _ _ _ _ _ (fun q => absurd q hn) (fun _ => rfl) hs hc hp hz hg hb, fun q => absurd rfl q⟩)
  have J : ∀ (en' lo' hi' ls' : Nat → Int32) (kp' kf' : Nat → Int64) (pn' lz' : Nat) (f5 mo' sb' am' nm' ca' w1 w2 w3 : Int32), pn' ≤ 75 → lz' ≤ 5 → j_X9_table_111 post u f5 (nI 0) (nI f) (nI (r + 1)) (nI e) (nI c) en' (nI (r + 1)) (nI c) mo' sb' am' nm' lo' hi' (nI pn') ls' kp' kf' ca' (nI lz') sg cd (nI g) ac (nI b) rd w1 w2 w3 := fun en' lo' hi' ls' kp' kf' pn' lz' f5 mo' sb' am' nm' ca' w1 w2 w3 h1 h2 =>
    q_take h2 (fun _ _ k hk => f_settle (by omega) i3 h1 hk hb (fun _ _ _ _ h7 => H _ _ _ _ _ _ _ _ _ _ _ _ _ _ _ _ _ _ _ _ _ _ _ _ _ _ _ _ _ _ _ _ (fun _ => rfl) (fun q => absurd ok q) (by omega) i3 h1 h2 hk h7))
  refine q_read (st := r + 1) (co := c) hl (by omega) i3 (fun en' mo' sb' am' nm' _ f5 _ => ?_)
  exact ⟨fun _ => J _ _ _ _ _ _ 0 0 _ _ _ _ _ _ _ _ _ (by omega) (by omega), fun _ => q_gather (by omega) i3 (fun _ _ k hk => q_find hk (fun _ _ _ _ z _ hz => J _ _ _ _ _ _ k z _ _ _ _ _ _ _ _ _ hk hz))⟩
theorem f_entry {post : Int32 → Prop} {en : Nat → Int32} {st co : Nat} {x y : Int32} (hs : st ≤ 6) (hc : co ≤ 4) (H : ∀ r, post r) : wp_X9_entry post en (nI st) (nI co) x y :=
  q_hasState hs ⟨fun _ => H _, fun q => absurd rfl q⟩ (fun _ _ _ => ⟨fun _ => H _, fun _ => q_hasColumn hc ⟨fun _ => H _, fun q => absurd rfl q⟩ (fun _ _ _ => ⟨fun _ => H _, fun _ => q_next hs hc (fun _ => H _)⟩)⟩)
theorem f_about {post : Int32 → Prop} {a b c d e f x : Int32} (H : ∀ r, post r) : wp_X9_about post a b c d e f x :=
  ⟨fun _ => H _, fun _ => ⟨fun _ => ⟨fun _ => H _, fun _ => ⟨fun _ => ⟨fun _ => H _, fun _ => H _⟩, fun _ => ⟨fun _ => H _, fun _ => ⟨fun _ => H _, fun _ => ⟨fun _ => H _, fun _ => ⟨fun _ => H _, fun _ => H _⟩⟩⟩⟩⟩⟩, fun _ => H _⟩⟩
theorem f_parting {post : Int32 → Prop} {lo hi sg : Nat → Int32} {pn g : Nat} {nm x y : Int32} (hp : pn ≤ 75) (hg : g ≤ 5) (H : ∀ r, post r) : wp_X9_parting post nm lo hi (nI pn) sg (nI g) x y :=
  ⟨fun _ => H _, fun _ => ⟨fun _ => ⟨fun _ => H _, fun _ => ⟨fun _ => H _, fun _ => ⟨fun _ => ⟨fun _ => q_lesser hp (fun _ => H _), fun _ => ⟨fun _ => q_greater hp (fun _ => H _), fun _ => q_keepersOf hp hg (fun _ => H _)⟩⟩, fun _ => H _⟩⟩⟩, fun _ => H _⟩⟩
theorem f_least {post : Int32 → Prop} {ls : Nat → Int32} {z : Nat} {nm x : Int32} (hz : z ≤ 5) (H : ∀ r, post r) : wp_X9_least post nm ls (nI z) x := by
  refine ⟨fun _ => H _, fun a => ⟨fun _ => ⟨fun _ => H _, fun _ => ⟨fun _ => ⟨fun _ => H _, fun _ => H _⟩, fun b => ⟨fun _ => H _, fun c => ⟨?_, H _⟩⟩⟩⟩, fun _ => H _⟩⟩
  have h0 : ¬ x < 0 := fun q => by
    rw [Int32.lt_iff_toInt_lt] at q a
    have e1 : (0 : Int32).toInt = 0 := by decide
    have e2 : (-1 : Int32).toInt = -1 := by decide
    exact b (Int32.toInt_inj.1 (by omega))
  obtain ⟨j, _, _, hv⟩ := ix_in h0 c hz (by decide)
  exact hv
theorem f_put {post : Int32 → Int32 → (Nat → Int32) → (Nat → Int32) → Int32 → (Nat → Int32) → Int32 → (Nat → Int32) → Prop} {en lo hi sg cd ac rd : Nat → Int32} {st co pn g b : Nat} {u nm x : Int32} (hs : st ≤ 6) (hc : co ≤ 4) (hp : pn ≤ 75) (hg : g ≤ 5) (hb : b ≤ 7) (H : ∀ r u' sg' cd' g' ac' b' rd', g' ≤ 5 → b' ≤ 7 → post r u' sg' cd' (nI g') ac' (nI b') rd') : wp_X9_put post u en (nI st) (nI co) nm lo hi (nI pn) sg cd (nI g) ac (nI b) rd x :=
  ⟨fun _ => H _ _ _ _ _ _ _ _ hg hb, fun _ => ⟨fun _ => q_add hg (fun _ _ _ k hk => ⟨fun _ => H _ _ _ _ _ _ _ _ hk hb, fun _ => f_settle hs hc hp hk hb (fun _ _ _ _ h7 => H _ _ _ _ _ _ _ _ hk h7)⟩), fun _ => H _ _ _ _ _ _ _ _ hg hb⟩⟩
theorem f_clear {post : Int32 → Int32 → (Nat → Int32) → Int32 → (Nat → Int32) → Int32 → (Nat → Int32) → Prop} {en lo hi sg cd ac rd : Nat → Int32} {st co pn g b : Nat} {u nm : Int32} (hs : st ≤ 6) (hc : co ≤ 4) (hp : pn ≤ 75) (hg : g ≤ 5) (hb : b ≤ 7) (H : ∀ r u' cd' g' ac' b' rd', g' ≤ 5 → b' ≤ 7 → post r u' cd' (nI g') ac' (nI b') rd') : wp_X9_clear post u en (nI st) (nI co) nm lo hi (nI pn) sg cd (nI g) ac (nI b) rd :=
  ⟨fun _ => H _ _ _ _ _ _ _ hg hb, fun _ => q_cempty (fun _ => f_settle (g := 0) hs hc hp (by omega) hb (fun _ _ _ _ h7 => H _ _ _ 0 _ _ _ (by omega) h7))⟩
theorem f_code {post : Int32 → Prop} {cd : Nat → Int32} {st : Nat} {nm x : Int32} (hs : st ≤ 6) (H : ∀ r, post r) : wp_X9_code post (nI st) nm cd x :=
  q_hasState hs ⟨fun _ => H _, fun q => absurd rfl q⟩ (fun _ _ _ => ⟨fun _ => H _, fun _ => ⟨fun _ => H _, fun _ => q_ccodeOf (fun _ => H _)⟩⟩)
theorem f_coded {post : Int32 → Prop} {en cd : Nat → Int32} {st co : Nat} {u nm g x : Int32} (hs : st ≤ 6) (hc : co ≤ 4) (H : ∀ r, post r) : wp_X9_coded post u en (nI st) (nI co) nm cd g x :=
  ⟨fun _ => H _, fun _ => ⟨fun _ => ⟨fun _ => H _, fun _ => ⟨fun _ => H _, fun _ => ⟨fun _ => ⟨fun _ => H _, fun _ => H _⟩, fun _ => ⟨fun _ => H _, fun _ => ⟨fun _ => q_countWild hs hc (fun _ => H _), fun _ => ⟨fun _ => q_firstWild hs hc (fun _ => H _), fun _ => q_mostChanges hs hc (fun _ => H _)⟩⟩⟩⟩⟩⟩, fun _ => H _⟩⟩
theorem f_refusalOf {post : Int32 → Prop} {u nm g x : Int32} (H : ∀ r, post r) : wp_X9_refusalOf post u nm g x := f_isGood (fun _ => ⟨fun _ => H _, fun _ => ⟨fun _ => H _, fun _ => ⟨fun _ => H _, fun _ => H _⟩⟩⟩)
theorem f_wanted {post : Int32 → Prop} {ac : Nat → Int32} {b : Nat} {u nm g x y : Int32} (hb : b ≤ 7) (H : ∀ r, post r) : wp_X9_wanted post u nm g ac (nI b) x y :=
  f_refusalOf (fun _ => ⟨fun _ => ⟨fun _ => H _, fun _ => q_apoints hb ⟨fun _ => q_aat (fun _ => H _), fun _ => H _⟩⟩, fun _ => H _⟩)
theorem f_workedOut {post : Nat → (Nat → Int32) → Int32 → (Nat → Nat → Int32) → (Nat → Nat → Int32) → (Nat → Nat → Int32) → (Nat → Int32) → (Nat → Int32) → (Nat → Int32) → (Nat → Int32) → Prop} {ac se it fl rd : Nat → Int32} {as on sm : Nat → Nat → Int32} {wd sz : Nat → Int32} {b : Nat} {al x : Int32} (hb : b ≤ 7) (h3 : ∀ k, k < 128 → it k = nI (t3 k)) (hL : loK sm wd sz)
    (H : ∀ j se' al' as' on' sm' wd' sz' fl' rd', j < 5 → loK sm' wd' sz' → post j se' al' as' on' sm' wd' sz' fl' rd') : wp_X9_workedOut post ac (nI b) se it al as on sm wd sz fl rd x := by
  have h2 : 2 ^ b - 1 < 128 := by have := p2_le b (by omega); omega
  have J : ∀ j, j < 5 → j_X9_workedOut_18 post ac (nI b) se it al as on sm wd sz fl rd x (nI j) := by
    intro j hj
    refine ⟨pk_in j 5 hj, ?_⟩
    rw [nI_clamp (show j < 2 ^ 31 by omega)]
    refine ⟨fun _ => q_look hb h3 (fun _ => q_collectWide h2 h3 (fun _ _ w hw => ?_)), fun _ => H _ _ _ _ _ _ _ _ _ _ hj hL⟩
    rw [va_up_self, va_up_self, va_up_self]
    exact q_collectSum hb hw (fun _ _ _ hs => H _ _ _ _ _ _ _ _ _ _ hj (loK_up hL hw hs))
  refine ⟨fun _ => J 0 (by omega), fun a => ⟨fun _ => J 0 (by omega), fun c => ?_⟩⟩
  obtain ⟨j, hj, rfl, _⟩ := ix_in (n := 5) a c (Nat.le_refl 5) (by decide)
  exact J j hj
theorem f_logic {post : Int32 → (Nat → Int32) → Int32 → (Nat → Nat → Int32) → (Nat → Nat → Int32) → (Nat → Nat → Int32) → (Nat → Int32) → (Nat → Int32) → (Nat → Int32) → (Nat → Int32) → Prop} {ac se it fl rd : Nat → Int32} {as on sm : Nat → Nat → Int32} {wd sz : Nat → Int32} {b : Nat} {u nm g al x y : Int32} (hb : b ≤ 7) (h3 : ∀ k, k < 128 → it k = nI (t3 k)) (hL : loK sm wd sz)
    (H : ∀ r se' al' as' on' sm' wd' sz' fl' rd', loK sm' wd' sz' → post r se' al' as' on' sm' wd' sz' fl' rd') : wp_X9_logic post u nm g ac (nI b) se it al as on sm wd sz fl rd x y := by
  refine f_refusalOf (fun _ => ⟨fun _ => ⟨fun _ => H _ _ _ _ _ _ _ _ _ _ hL, fun _ => ⟨fun _ => f_workedOut hb h3 hL (fun j _ _ _ _ _ _ _ _ _ hj h => ?_), fun _ => H _ _ _ _ _ _ _ _ _ _ hL⟩⟩, fun _ => H _ _ _ _ _ _ _ _ _ _ hL⟩)
  refine ⟨fun _ => H _ _ _ _ _ _ _ _ _ _ h, fun _ => ⟨fun _ => H _ _ _ _ _ _ _ _ _ _ h, fun _ => ⟨fun _ => H _ _ _ _ _ _ _ _ _ _ h, fun _ => ⟨fun _ => ?_, fun _ => ⟨fun _ => q_pointsWith hb (fun _ => H _ _ _ _ _ _ _ _ _ _ h), fun _ => q_pointsWith hb (fun _ => H _ _ _ _ _ _ _ _ _ _ h)⟩⟩⟩⟩⟩
  obtain ⟨_, s, e, hs⟩ := h j hj
  rw [e]
  exact q_askedInSum hs (fun _ => H _ _ _ _ _ _ _ _ _ _ h)
theorem f_product {post : Int32 → (Nat → Int32) → Int32 → (Nat → Nat → Int32) → (Nat → Nat → Int32) → (Nat → Nat → Int32) → (Nat → Int32) → (Nat → Int32) → (Nat → Int32) → (Nat → Int32) → Prop} {ac se it fl rd : Nat → Int32} {as on sm : Nat → Nat → Int32} {wd sz : Nat → Int32} {b : Nat} {u nm g al x y z : Int32} (hb : b ≤ 7) (h3 : ∀ k, k < 128 → it k = nI (t3 k)) (hL : loK sm wd sz)
    (H : ∀ r se' al' as' on' sm' wd' sz' fl' rd', loK sm' wd' sz' → post r se' al' as' on' sm' wd' sz' fl' rd') : wp_X9_product post u nm g ac (nI b) se it al as on sm wd sz fl rd x y z := by
  refine f_refusalOf (fun _ => ⟨fun _ => f_workedOut hb h3 hL (fun j _ _ _ _ _ _ _ _ _ hj h => ?_), fun _ => H _ _ _ _ _ _ _ _ _ _ hL⟩)
  obtain ⟨⟨w, hw, e2⟩, s, e, hs⟩ := h j hj
  rw [e, e2]
  exact q_ofSum hw hs.1 (fun _ => H _ _ _ _ _ _ _ _ _ _ h)
theorem f_wide {post : Int32 → (Nat → Int32) → Int32 → (Nat → Nat → Int32) → (Nat → Nat → Int32) → (Nat → Nat → Int32) → (Nat → Int32) → (Nat → Int32) → (Nat → Int32) → (Nat → Int32) → Prop} {ac se it fl rd : Nat → Int32} {as on sm : Nat → Nat → Int32} {wd sz : Nat → Int32} {b : Nat} {u nm g al x y z : Int32} (hb : b ≤ 7) (h3 : ∀ k, k < 128 → it k = nI (t3 k)) (hL : loK sm wd sz)
    (H : ∀ r se' al' as' on' sm' wd' sz' fl' rd', loK sm' wd' sz' → post r se' al' as' on' sm' wd' sz' fl' rd') : wp_X9_wide post u nm g ac (nI b) se it al as on sm wd sz fl rd x y z := by
  refine f_refusalOf (fun _ => ⟨fun _ => f_workedOut hb h3 hL (fun j _ _ _ _ _ _ _ _ _ hj h => ?_), fun _ => H _ _ _ _ _ _ _ _ _ _ hL⟩)
  obtain ⟨⟨w, hw, e2⟩, _⟩ := h j hj
  rw [e2]
  exact q_ofWide hw (fun _ => H _ _ _ _ _ _ _ _ _ _ h)
theorem f_walk {post : Int32 → Int32 → Int32 → Int32 → Prop} {st : Nat} {a b c x : Int32} (hs : st ≤ 6) (H : ∀ r a b c, post r a b c) : wp_X9_walk post (nI st) a b c x :=
  q_hasState hs ⟨fun _ => H _ _ _ _, fun _ => H _ _ _ _⟩ (fun _ _ _ => ⟨fun _ => H _ _ _ _, fun _ => H _ _ _ _⟩)
theorem f_turn {post : Int32 → Int32 → Int32 → Int32 → Prop} {en cd : Nat → Int32} {st co : Nat} {a b c x : Int32} (hs : st ≤ 6) (hc : co ≤ 4) (H : ∀ r a b c, post r a b c) : wp_X9_turn post en (nI st) (nI co) cd a b c x :=
  q_hasColumn hc ⟨fun _ => H _ _ _ _, fun q => absurd rfl q⟩ (fun _ _ _ => ⟨fun _ => H _ _ _ _, fun _ => q_next hs hc (fun _ => ⟨fun _ => H _ _ _ _, fun _ => q_changesBetween (fun _ _ _ _ _ => H _ _ _ _)⟩)⟩)
theorem f_count {post : Int32 → Prop} {a b c d e f g x : Int32} (H : ∀ r, post r) : wp_X9_count post a b c d e f g x :=
  ⟨fun _ => H _, fun _ => ⟨fun _ => H _, fun _ => ⟨fun _ => H _, fun _ => ⟨fun _ => H _, fun _ => ⟨fun _ => H _, fun _ => ⟨fun _ => H _, fun _ => ⟨fun _ => H _, fun _ => H _⟩⟩⟩⟩⟩⟩⟩
theorem f_mixedCode {post : Int64 → Prop} {lo hi ls sg cd : Nat → Int32} {st pn lz g : Nat} {nm : Int32} {x : Int64} (hs : st ≤ 6) (hp : pn ≤ 75) (hz : lz ≤ 5) (hg : g ≤ 5) (H : ∀ r, post r) : wp_X9_mixedCode post (nI st) nm lo hi (nI pn) ls (nI lz) sg cd (nI g) x := by
  have k20 : ∀ (KE : Int64 → Prop) (i : Int32), (∀ a, KE a) → ∀ n k a, k ≤ 3 → 3 - k < n → w_X9_mixedCode_20 KE nm lo hi (nI pn) sg (nI g) i n a (nI k) := by
    intro KE i hK n
    induction n with
    | zero => intro k a h1 h2; omega
    | succ n ih =>
      intro k a h1 h2
      exact pk_lt 2 k (fun _ => hK _) (fun hlt => f_parting hp hg (fun _ z hz => by rw [hz, nI_p1 k]; exact ih (k + 1) _ (by omega) (by omega)))
  have k5 : ∀ (KE : Int64 → Prop), (∀ a, KE a) → ∀ n i a, i ≤ pn → pn - i < n → w_X9_mixedCode_5 KE nm lo hi (nI pn) sg (nI g) n a (nI i) := by
    intro KE hK n
    induction n with
    | zero => intro i a h1 h2; omega
    | succ n ih =>
      intro i a h1 h2
      exact pk_le pn i (fun _ => hK _) (fun hlt => ⟨4, k20 _ _ (fun b z hz => by rw [hz, nI_p1 i]; exact ih (i + 1) _ (by omega) (by omega)) 4 0 _ (by omega) (by omega)⟩)
  have k80 : ∀ n i a, i ≤ st → st - i < n → w_X9_mixedCode_80 (fun a => post a) (nI st) nm cd n a (nI i) := by
    intro n
    induction n with
    | zero => intro i a h1 h2; omega
    | succ n ih =>
      intro i a h1 h2
      exact pk_le st i (fun _ => H _) (fun hlt => f_code hs (fun _ z hz => by rw [hz, nI_p1 i]; exact ih (i + 1) _ (by omega) (by omega)))
  have k54 : ∀ (KE : Int64 → Prop), (∀ a, KE a) → ∀ n i a, i ≤ 5 → 5 - i < n → w_X9_mixedCode_54 KE nm ls (nI lz) n a (nI i) := by
    intro KE hK n
    induction n with
    | zero => intro i a h1 h2; omega
    | succ n ih =>
      intro i a h1 h2
      exact pk_le 5 i (fun _ => hK _) (fun hlt => f_least hz (fun _ z hz => by rw [hz, nI_p1 i]; exact ih (i + 1) _ (by omega) (by omega)))
  refine ⟨pn + 1, k5 _ (fun a => ⟨7, ?_⟩) (pn + 1) 0 _ (by omega) (by omega)⟩
  refine ⟨fun q => absurd q (by decide), fun _ => f_least hz (fun _ z hz => ?_)⟩
  rw [hz, show (-1 : Int32) + 1 = nI 0 from by decide]
  exact k54 _ (fun b => ⟨7, k80 7 0 _ (by omega) (by omega)⟩) 6 0 _ (by omega) (by omega)
theorem f_mixedLogic {post : Int64 → (Nat → Int32) → Int32 → (Nat → Nat → Int32) → (Nat → Nat → Int32) → (Nat → Nat → Int32) → (Nat → Int32) → (Nat → Int32) → (Nat → Int32) → (Nat → Int32) → Prop} {ac se it fl rd : Nat → Int32} {as on sm : Nat → Nat → Int32} {wd sz : Nat → Int32} {b : Nat} {u nm g al y : Int32} {x : Int64} (hb : b ≤ 7) (h3 : ∀ k, k < 128 → it k = nI (t3 k)) (hL : loK sm wd sz)
    (H : ∀ r se' al' as' on' sm' wd' sz' fl' rd', loK sm' wd' sz' → post r se' al' as' on' sm' wd' sz' fl' rd') : wp_X9_mixedLogic post u nm g ac (nI b) se it al as on sm wd sz fl rd x y := by
  have k45 : ∀ N, N ≤ 672 → ∀ n i h se al as on sm wd sz fl rd, i ≤ N → N - i < n → loK sm wd sz → w_X9_mixedLogic_45 post u nm g ac (nI b) it y (nI N) n h (nI i) se al as on sm wd sz fl rd := by
    intro N hN n
    induction n with
    | zero => intro i h se al as on sm wd sz fl rd h1 h2; omega
    | succ n ih =>
      intro i h se al as on sm wd sz fl rd h1 h2 h4
      exact pk_le N i (fun _ => H _ _ _ _ _ _ _ _ _ _ h4) (fun hlt => f_product hb h3 h4 (fun _ _ _ _ _ _ _ _ _ _ h5 => f_product hb h3 h5 (fun _ _ _ _ _ _ _ _ _ _ h6 z hz => by rw [hz, nI_p1 i]; exact ih (i + 1) _ _ _ _ _ _ _ _ _ _ (by omega) (by omega) h6)))
  have k6 : ∀ (KE : Int64 → (Nat → Int32) → Int32 → (Nat → Nat → Int32) → (Nat → Nat → Int32) → (Nat → Nat → Int32) → (Nat → Int32) → (Nat → Int32) → (Nat → Int32) → (Nat → Int32) → Prop), (∀ r se' al' as' on' sm' wd' sz' fl' rd', loK sm' wd' sz' → KE r se' al' as' on' sm' wd' sz' fl' rd') → ∀ n i h se al as on sm wd sz fl rd, i ≤ 6 → 6 - i < n → loK sm wd sz → w_X9_mixedLogic_6 KE u nm g ac (nI b) it y n h (nI i) se al as on sm wd sz fl rd := by
    intro KE hK n
    induction n with
    | zero => intro i h se al as on sm wd sz fl rd h1 h2; omega
    | succ n ih =>
      intro i h se al as on sm wd sz fl rd h1 h2 h4
      exact pk_lt 5 i (fun _ => hK _ _ _ _ _ _ _ _ _ _ h4) (fun hlt => f_logic hb h3 h4 (fun _ _ _ _ _ _ _ _ _ _ h5 z hz => by rw [hz, nI_p1 i]; exact ih (i + 1) _ _ _ _ _ _ _ _ _ _ (by omega) (by omega) h5))
  refine ⟨7, k6 _ (fun _ _ _ _ _ _ _ _ _ _ h5 => f_workedOut hb h3 h5 (fun j _ _ _ _ _ _ _ _ _ hj h6 c hc => ?_)) 7 0 _ _ _ _ _ _ _ _ _ _ (by omega) (by omega) hL⟩
  obtain ⟨_, s, e, hs⟩ := h6 j hj
  rw [hc, e]
  exact ⟨s + 1, k45 s hs.1 (s + 1) 0 _ _ _ _ _ _ _ _ _ _ (by omega) (by omega) h6⟩
theorem f_digest {post : Int64 → (Nat → Int32) → Int32 → (Nat → Nat → Int32) → (Nat → Nat → Int32) → (Nat → Nat → Int32) → (Nat → Int32) → (Nat → Int32) → (Nat → Int32) → (Nat → Int32) → Prop} {lt en lo hi ls sg cd ac se it fl rd : Nat → Int32} {as on sm : Nat → Nat → Int32} {wd sz : Nat → Int32} {pl st co pn lz g b : Nat} {u tr mo sb am nm al wa tu ch : Int32} (hl : pl ≤ 40) (hs : st ≤ 6) (hc : co ≤ 4) (hp : pn ≤ 75) (hz : lz ≤ 5) (hg : g ≤ 5) (hb : b ≤ 7) (h3 : ∀ k, k < 128 → it k = nI (t3 k)) (hL : loK sm wd sz)
    (H : ∀ r se' al' as' on' sm' wd' sz' fl' rd', loK sm' wd' sz' → post r se' al' as' on' sm' wd' sz' fl' rd') : wp_X9_digest post u tr lt (nI pl) en (nI st) (nI co) mo sb am nm lo hi (nI pn) ls (nI lz) sg cd (nI g) ac (nI b) se it al as on sm wd sz fl rd wa tu ch := by
  have k20 : ∀ (KE : Int64 → Prop) (s : Int32), (∀ a, KE a) → ∀ n i a, i ≤ co → co - i < n → w_X9_digest_20 KE en (nI st) (nI co) s n a (nI i) := by
    intro KE s hK n
    induction n with
    | zero => intro i a h1 h2; omega
    | succ n ih =>
      intro i a h1 h2
      exact pk_le co i (fun _ => hK _) (fun hlt => f_entry hs hc (fun _ z hz => by rw [hz, nI_p1 i]; exact ih (i + 1) _ (by omega) (by omega)))
  have k6 : ∀ (KE : Int64 → Prop), (∀ a, KE a) → ∀ n i a, i ≤ st → st - i < n → w_X9_digest_6 KE en (nI st) (nI co) n a (nI i) := by
    intro KE hK n
    induction n with
    | zero => intro i a h1 h2; omega
    | succ n ih =>
      intro i a h1 h2
      exact pk_le st i (fun _ => hK _) (fun hlt => ⟨5, k20 _ _ (fun b z hz => by rw [hz, nI_p1 i]; exact ih (i + 1) _ (by omega) (by omega)) 5 0 _ (by omega) (by omega)⟩)
  have k107 : ∀ (KE : Int64 → Prop), (∀ a, KE a) → ∀ n i a, i ≤ 6 → 6 - i < n → w_X9_digest_107 KE u en (nI st) (nI co) nm cd (nI g) n a (nI i) := by
    intro KE hK n
    induction n with
    | zero => intro i a h1 h2; omega
    | succ n ih =>
      intro i a h1 h2
      exact pk_lt 5 i (fun _ => hK _) (fun hlt => f_coded hs hc (fun _ z hz => by rw [hz, nI_p1 i]; exact ih (i + 1) _ (by omega) (by omega)))
  have k163 : ∀ (KE : Int64 → Prop), (∀ a, KE a) → ∀ n i a, i ≤ pl → pl - i < n → w_X9_digest_163 KE lt (nI pl) n a (nI i) := by
    intro KE hK n
    induction n with
    | zero => intro i a h1 h2; omega
    | succ n ih =>
      intro i a h1 h2
      exact pk_le pl i (fun _ => hK _) (fun hlt => q_at hl (fun _ z hz => by rw [hz, nI_p1 i]; exact ih (i + 1) _ (by omega) (by omega)))
  have k195 : ∀ (KE : Int64 → Prop), (∀ a, KE a) → ∀ n i a, i ≤ 7 → 7 - i < n → w_X9_digest_195 KE tr (nI pl) (nI st) (nI co) wa tu ch n a (nI i) := by
    intro KE hK n
    induction n with
    | zero => intro i a h1 h2; omega
    | succ n ih =>
      intro i a h1 h2
      exact pk_lt 6 i (fun _ => hK _) (fun hlt => f_count (fun _ z hz => by rw [hz, nI_p1 i]; exact ih (i + 1) _ (by omega) (by omega)))
  have k68 : ∀ (KE : Int64 → Prop), (∀ a, KE a) → ∀ n i a, i ≤ 5 → 5 - i < n → w_X9_digest_68 KE (nI st) mo sb am nm (nI pn) n a (nI i) := by
    intro KE hK n
    induction n with
    | zero => intro i a h1 h2; omega
    | succ n ih =>
      intro i a h1 h2
      exact pk_lt 4 i (fun _ => hK _) (fun hlt => f_about (fun _ z hz => by rw [hz, nI_p1 i]; exact ih (i + 1) _ (by omega) (by omega)))
  have k137 : ∀ (KE : Int64 → (Nat → Int32) → Int32 → (Nat → Nat → Int32) → (Nat → Nat → Int32) → (Nat → Nat → Int32) → (Nat → Int32) → (Nat → Int32) → (Nat → Int32) → (Nat → Int32) → Prop), (∀ r se' al' as' on' sm' wd' sz' fl' rd', loK sm' wd' sz' → KE r se' al' as' on' sm' wd' sz' fl' rd') → ∀ n i h se al as on sm wd sz fl rd, i ≤ g → g - i < n → loK sm wd sz → w_X9_digest_137 KE u nm (nI g) ac (nI b) it n h (nI i) se al as on sm wd sz fl rd := by
    intro KE hK n
    induction n with
    | zero => intro i h se al as on sm wd sz fl rd h1 h2; omega
    | succ n ih =>
      intro i h se al as on sm wd sz fl rd h1 h2 h4
      exact pk_le g i (fun _ => hK _ _ _ _ _ _ _ _ _ _ h4) (fun hlt => f_mixedLogic hb h3 h4 (fun _ _ _ _ _ _ _ _ _ _ h5 z hz => by rw [hz, nI_p1 i]; exact ih (i + 1) _ _ _ _ _ _ _ _ _ _ (by omega) (by omega) h5))
  refine ⟨st + 1, k6 _ (fun _ => ?_) (st + 1) 0 _ (by omega) (by omega)⟩
  refine ⟨fun _ => ⟨fun _ => ⟨7, k107 _ (fun _ => f_isGood (fun _ => ⟨fun _ => ⟨41, k163 _ (fun _ => ⟨8, k195 _ (fun _ => H _ _ _ _ _ _ _ _ _ _ hL) 8 0 _ (by omega) (by omega)⟩) 41 0 _ (by omega) (by omega)⟩, fun _ => ⟨6, k137 _ (fun _ _ _ _ _ _ _ _ _ _ h5 => ⟨41, k163 _ (fun _ => ⟨8, k195 _ (fun _ => H _ _ _ _ _ _ _ _ _ _ h5) 8 0 _ (by omega) (by omega)⟩) 41 0 _ (by omega) (by omega)⟩) 6 0 _ _ _ _ _ _ _ _ _ _ (by omega) (by omega) hL⟩⟩)) 7 0 _ (by omega) (by omega)⟩, fun _ => f_mixedCode hs hp hz hg (fun _ => ⟨7, k107 _ (fun _ => f_isGood (fun _ => ⟨fun _ => ⟨41, k163 _ (fun _ => ⟨8, k195 _ (fun _ => H _ _ _ _ _ _ _ _ _ _ hL) 8 0 _ (by omega) (by omega)⟩) 41 0 _ (by omega) (by omega)⟩, fun _ => ⟨6, k137 _ (fun _ _ _ _ _ _ _ _ _ _ h5 => ⟨41, k163 _ (fun _ => ⟨8, k195 _ (fun _ => H _ _ _ _ _ _ _ _ _ _ h5) 8 0 _ (by omega) (by omega)⟩) 41 0 _ (by omega) (by omega)⟩) 6 0 _ _ _ _ _ _ _ _ _ _ (by omega) (by omega) hL⟩⟩)) 7 0 _ (by omega) (by omega)⟩)⟩, fun _ => ⟨6, k68 _ (fun _ => ⟨fun _ => ⟨7, k107 _ (fun _ => f_isGood (fun _ => ⟨fun _ => ⟨41, k163 _ (fun _ => ⟨8, k195 _ (fun _ => H _ _ _ _ _ _ _ _ _ _ hL) 8 0 _ (by omega) (by omega)⟩) 41 0 _ (by omega) (by omega)⟩, fun _ => ⟨6, k137 _ (fun _ _ _ _ _ _ _ _ _ _ h5 => ⟨41, k163 _ (fun _ => ⟨8, k195 _ (fun _ => H _ _ _ _ _ _ _ _ _ _ h5) 8 0 _ (by omega) (by omega)⟩) 41 0 _ (by omega) (by omega)⟩) 6 0 _ _ _ _ _ _ _ _ _ _ (by omega) (by omega) hL⟩⟩)) 7 0 _ (by omega) (by omega)⟩, fun _ => f_mixedCode hs hp hz hg (fun _ => ⟨7, k107 _ (fun _ => f_isGood (fun _ => ⟨fun _ => ⟨41, k163 _ (fun _ => ⟨8, k195 _ (fun _ => H _ _ _ _ _ _ _ _ _ _ hL) 8 0 _ (by omega) (by omega)⟩) 41 0 _ (by omega) (by omega)⟩, fun _ => ⟨6, k137 _ (fun _ _ _ _ _ _ _ _ _ _ h5 => ⟨41, k163 _ (fun _ => ⟨8, k195 _ (fun _ => H _ _ _ _ _ _ _ _ _ _ h5) 8 0 _ (by omega) (by omega)⟩) 41 0 _ (by omega) (by omega)⟩) 6 0 _ _ _ _ _ _ _ _ _ _ (by omega) (by omega) hL⟩⟩)) 7 0 _ (by omega) (by omega)⟩)⟩) 6 0 _ (by omega) (by omega)⟩⟩
