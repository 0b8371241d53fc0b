/-- a table: st rows of co entries, each open or one of its rows -/
def tabM (st co : Nat) (en : Nat → Int32) : Prop := st ≤ 6 ∧ co ≤ 4 ∧ ∀ s c, s < st → c < co → en (4 * s + c) = -1 ∨ ∃ t, t < st ∧ en (4 * s + c) = nI t
theorem nI4 (a b : Nat) : (4 : Int32) * nI a + nI b = nI (4 * a + b) := by
  rw [show (4 : Int32) = nI 4 from rfl, pk_mul, nI_add]
theorem nI_p1 (a : Nat) : nI a + (1 : Int32) = nI (a + 1) := nI_1 a
theorem m1_ne {n : Nat} (h : n < 2 ^ 31) : ¬ nI n = (-1 : Int32) := by
  intro e
  have := congrArg Int32.toInt e
  rw [nI_toInt h] at this
  have h2 : (-1 : Int32).toInt = -1 := by decide
  omega
theorem s_within {post : Int32 → Prop} {x lo hi : Int32} (h0 : x < lo → post 0) (h1 : hi < x → post 0) (h2 : ¬ x < lo → ¬ hi < x → post 1) : wp_X10_within post x lo hi :=
  ⟨h0, fun a => ⟨h1, h2 a⟩⟩
theorem s_withinA {post : Int32 → Prop} {x lo hi : Int32} (H : ∀ r, post r) : wp_X10_within post x lo hi := s_within (fun _ => H _) (fun _ => H _) (fun _ _ => H _)
/-- within 0 .. n - 1 -/
theorem s_in0 {post : Int32 → Prop} {x : Int32} {n : Nat} (hn : n < 2 ^ 30) (h0 : post 0) (h1 : ∀ j, j < n → x = nI j → post 1) : wp_X10_within post x 0 (nI n - 1) := by
  refine s_within (fun _ => h0) (fun _ => h0) (fun a b => ?_)
  obtain ⟨j, hj, rfl⟩ := nI_of a
  refine h1 j ?_ rfl
  rcases Nat.lt_or_ge j n with h | h
  · exact h
  · exfalso
    apply b
    cases n with
    | zero =>
      rw [Int32.lt_iff_toInt_lt, nI_toInt hj, show nI 0 - 1 = (-1 : Int32) from by decide, show ((-1 : Int32)).toInt = -1 from by decide]
      omega
    | succ k =>
      rw [nI_pred]
      exact nI_lt (by omega) hj
theorem s_ones {post : Int32 → Prop} (x0 : Int32) (H : ∀ r, post r) : wp_X10_ones post x0 := by
  have key : ∀ n i x1, i ≤ 8 → 8 - i < n → w_X10_ones_4 (fun x => post x) x0 n x1 (nI i) := by
    intro n
    induction n with
    | zero => intro i x1 h1 h2; omega
    | succ n ih =>
      intro i x1 h1 h2
      refine pk_le 8 i (fun _ => H _) (fun h => ?_)
      have hrec : ∀ a, w_X10_ones_4 (fun x => post x) x0 n a (nI i + 1) := fun a => by rw [nI_1]; exact ih (i + 1) a (by omega) (by omega)
      intro a _ b hb
      subst hb
      exact hrec a
  exact ⟨9, key 9 0 0 (by omega) (by omega)⟩
theorem e_at {post : Int32 → Prop} {en : Nat → Int32} {a b : Nat} (h : 4 * a + b < 24) (H : post (en (4 * a + b))) : wp_X10_entryAt post en (nI a) (nI b) := by
  unfold wp_X10_entryAt
  rw [nI4, nI_clamp (by omega)]
  exact ⟨pk_in _ 24 h, H⟩
theorem e_ent {post : Int32 → Prop} {en : Nat → Int32} {st co s c : Nat} (hT : tabM st co en) (hs : s < st) (hc : c < co) (H1 : post (-1)) (H2 : ∀ t, t < st → post (nI t)) : wp_X10_entryAt post en (nI s) (nI c) := by
  obtain ⟨h6, h4, hE⟩ := hT
  refine e_at (by omega) ?_
  rcases hE s c hs hc with h | ⟨t, ht, h⟩
  · rw [h]; exact H1
  · rw [h]; exact H2 t ht
theorem e_entA {post : Int32 → Prop} {en : Nat → Int32} {st co s c : Nat} (hT : tabM st co en) (hs : s < st) (hc : c < co) (H : ∀ r, post r) : wp_X10_entryAt post en (nI s) (nI c) := e_ent hT hs hc (H _) (fun _ _ => H _)
theorem s_amiss {post : Int32 → Prop} {en : Nat → Int32} {st co : Nat} (hT : tabM st co en) (H : ∀ r, post r) : wp_X10_amiss post (nI st) (nI co) en := by
  have h6 := hT.1
  have h4 := hT.2.1
  have k1 : ∀ (s : Nat) (KE : Prop), s < st → KE → ∀ n i, i ≤ co → co - i < n → w_X10_amiss_12 post KE (nI co) en (nI s) n (nI i) := by
    intro s KE hs hKE n
    induction n with
    | zero => intro i h1 h2; omega
    | succ n ih =>
      intro i h1 h2
      refine pk_le co i (fun _ => hKE) (fun h => ?_)
      have hrec : ∀ b, b = nI i + 1 → w_X10_amiss_12 post KE (nI co) en (nI s) n b := fun b hb => by subst hb; rw [nI_1]; exact ih (i + 1) (by omega) (by omega)
      refine e_ent hT hs h ⟨fun _ => hrec, fun q => absurd rfl q⟩ (fun t ht => ⟨fun _ => hrec, fun _ => e_entA hT ht h (fun r => ⟨fun _ => hrec, fun _ => H _⟩)⟩)
  have k2 : ∀ n i, i ≤ st → st - i < n → w_X10_amiss_2 post (post (-1)) (nI st) (nI co) en n (nI i) := by
    intro n
    induction n with
    | zero => intro i h1 h2; omega
    | succ n ih =>
      intro i h1 h2
      refine pk_le st i (fun _ => H _) (fun h => ?_)
      exact ⟨5, k1 i _ h (fun b hb => by subst hb; rw [nI_1]; exact ih (i + 1) (by omega) (by omega)) 5 0 (by omega) (by omega)⟩
  exact ⟨7, k2 7 0 (by omega) (by omega)⟩
theorem s_isNormal {post : Int32 → Prop} {en : Nat → Int32} {st co : Nat} (hT : tabM st co en) (H0 : post 0) (H1 : 0 < st → post 1) : wp_X10_isNormal post (nI st) (nI co) en := by
  have h6 := hT.1
  exact pk_le st 0 (fun _ => H0) (fun h => s_amiss hT (fun r => ⟨fun _ => H1 h, fun _ => H0⟩))
theorem s_movesMany {post : Int32 → Prop} {en : Nat → Int32} {st co : Nat} {x1 : Int32} (hT : tabM st co en) (H : ∀ r, post r) : wp_X10_movesMany post (nI st) (nI co) en x1 := by
  have h6 := hT.1
  have h4 := hT.2.1
  have k1 : ∀ (s : Nat) (KE : Int32 → Prop), s < st → (∀ r, KE r) → ∀ n i a, i ≤ co → co - i < n → w_X10_movesMany_15 KE (nI co) en x1 (nI s) n a (nI i) := by
    intro s KE hs hKE n
    induction n with
    | zero => intro i a h1 h2; omega
    | succ n ih =>
      intro i a h1 h2
      refine pk_le co i (fun _ => hKE _) (fun h => ?_)
      have hrec : ∀ (z a b : Int32), a = z → b = nI i + 1 → w_X10_movesMany_15 KE (nI co) en x1 (nI s) n a b := fun z a b _ hb => by subst hb; rw [nI_1]; exact ih (i + 1) a (by omega) (by omega)
      exact e_entA hT hs h (fun r => ⟨fun _ a ha b => hrec _ a b ha, fun _ => ⟨fun _ a ha b => hrec _ a b ha, fun _ => ⟨fun _ a ha b => hrec _ a b ha, fun _ a ha b => hrec _ a b ha⟩⟩⟩)
  have k2 : ∀ n i a, i ≤ st → st - i < n → w_X10_movesMany_4 (fun x => post x) (nI st) (nI co) en x1 n a (nI i) := by
    intro n
    induction n with
    | zero => intro i a h1 h2; omega
    | succ n ih =>
      intro i a h1 h2
      refine pk_le st i (fun _ => H _) (fun h => ?_)
      exact ⟨5, k1 i _ h (fun r b hb => by subst hb; rw [nI_1]; exact ih (i + 1) r (by omega) (by omega)) 5 0 a (by omega) (by omega)⟩
  exact ⟨7, k2 7 0 0 (by omega) (by omega)⟩
theorem s_aboutNow {post : Int32 → Prop} {en : Nat → Int32} {st co : Nat} {pa x1 : Int32} (hT : tabM st co en) (H : ∀ r, post r) : wp_X10_aboutNow post (nI st) (nI co) en pa x1 :=
  ⟨fun _ => s_isNormal hT ⟨fun _ => H _, fun _ => H _⟩ (fun _ => ⟨fun _ => H _, fun _ => H _⟩), fun _ => ⟨fun _ => s_amiss hT (fun _ => H _), fun _ => ⟨fun _ => s_movesMany hT (fun _ => H _), fun _ => ⟨fun _ => s_movesMany hT (fun _ => H _), fun _ => s_isNormal hT ⟨fun _ => H _, fun _ => H _⟩ (fun _ => ⟨fun _ => H _, fun _ => H _⟩)⟩⟩⟩⟩
theorem s_about {post : Int32 → Prop} {en : Nat → Int32} {st co : Nat} {pa x1 : Int32} (hT : tabM st co en) (H : ∀ r, post r) : wp_X10_about post (nI st) (nI co) en pa x1 :=
  s_withinA (fun r => ⟨fun _ => H _, fun _ => ⟨fun _ => H _, fun _ => s_aboutNow hT (fun _ => H _)⟩⟩)
theorem s_entry {post : Int32 → Prop} {en : Nat → Int32} {st co : Nat} {x1 x2 : Int32} (hT : tabM st co en) (H : ∀ r, post r) : wp_X10_entry post (nI st) (nI co) en x1 x2 := by
  have h6 := hT.1
  have h4 := hT.2.1
  unfold wp_X10_entry wp_X10_isEntry
  refine s_in0 (n := st) (by omega) ⟨fun _ => ⟨fun _ => H _, fun q => absurd rfl q⟩, fun q => absurd rfl q⟩ (fun j hj hx => ⟨fun q => absurd q (by decide), fun _ => ?_⟩)
  refine s_in0 (n := co) (by omega) ⟨fun _ => ⟨fun _ => H _, fun q => absurd rfl q⟩, fun q => absurd rfl q⟩ (fun k hk hy => ⟨fun q => absurd q (by decide), fun _ => ⟨fun q => absurd q (by decide), fun _ => ?_⟩⟩)
  rw [hx, hy]
  exact e_entA hT hj hk (fun _ => H _)
theorem s_isIn {post : Int32 → Prop} {a b c d : Int32} (H : ∀ r, post r) : wp_X10_isIn post a b c d :=
  ⟨fun _ => ⟨fun _ => H _, fun _ => ⟨fun _ => ⟨fun _ => H _, fun _ => H _⟩, fun _ => H _⟩⟩, fun _ => ⟨fun _ => ⟨fun _ => H _, fun _ => H _⟩, fun _ => H _⟩⟩
theorem s_keeps {post : Int32 → Prop} {a b c : Int32} (H : ∀ r, post r) : wp_X10_keeps post a b c :=
  ⟨fun _ => ⟨fun _ => H _, fun _ => ⟨fun _ => ⟨fun _ => H _, fun _ => H _⟩, fun _ => H _⟩⟩, fun _ => ⟨fun _ => ⟨fun _ => H _, fun _ => H _⟩, fun _ => H _⟩⟩
/-- a parting more: at most one more than before -/
theorem s_addParting {post : Int32 → (Nat → Int32) → (Nat → Int32) → Prop} {lo hi : Nat → Int32} {x1 x2 : Int32} {pn : Nat} (hp : pn < 80) (H : ∀ k lo' hi', k ≤ pn + 1 → post (nI k) lo' hi') : wp_X10_addParting post (nI pn) lo hi x1 x2 := by
  have k1 : ∀ (a b : Int32) (KE : Prop), KE → ∀ n i, i ≤ pn → pn - i < n → w_X10_addParting_29 post KE (nI pn) lo hi a b n (nI i) := by
    intro a b KE hKE n
    induction n with
    | zero => intro i h1 h2; omega
    | succ n ih =>
      intro i h1 h2
      refine pk_le pn i (fun _ => hKE) (fun h => ⟨pk_in i 80 (by omega), pk_in i 80 (by omega), s_isIn (fun r => ⟨fun _ b hb => ?_, fun _ => H pn _ _ (by omega)⟩)⟩)
      subst hb
      rw [nI_1]
      exact ih (i + 1) (by omega) (by omega)
  have k3 : ∀ (a b : Int32) (KE : Int32 → (Nat → Int32) → (Nat → Int32) → Prop) (m : Nat), m ≤ pn → (∀ j l h, j ≤ m → KE (nI j) l h) → ∀ n i l h, i ≤ m → i < n → w_X10_addParting_144 KE a b n (nI i) l h := by
    intro a b KE m hm hKE n
    induction n with
    | zero => intro i l h h1 h2; omega
    | succ n ih =>
      intro i l h h1 h2
      refine pk_le i 0 (fun _ => hKE i _ _ h1) (fun hlt => ?_)
      obtain ⟨j, rfl⟩ : ∃ j, i = j + 1 := ⟨i - 1, by omega⟩
      rw [nI_pred]
      have hj : vp_in (nI j) 80 := pk_in j 80 (by omega)
      have hj1 : vp_in (nI (j + 1)) 80 := pk_in (j + 1) 80 (by omega)
      have J : ∀ l h, j_X10_addParting_189 (w_X10_addParting_144 KE a b n) l h (nI (j + 1)) := by
        intro l h
        unfold j_X10_addParting_189
        rw [nI_pred]
        refine ⟨hj, hj1, fun l2 _ => ⟨hj, hj1, fun h2 _ x hx => ?_⟩⟩
        rw [hx, pk_m1]
        exact ih j l2 h2 (by omega) (by omega)
      exact ⟨hj, fun _ => J l h, fun _ => ⟨hj, fun _ => ⟨hj, fun _ => hKE _ _ _ h1, fun _ => J l h⟩, fun _ => hKE _ _ _ h1⟩⟩
  have k2 : ∀ (a b : Int32) (KE : Int32 → (Nat → Int32) → (Nat → Int32) → Prop), (∀ k l h, k ≤ pn → KE (nI k) l h) → ∀ n k i l h, k ≤ i → i ≤ pn → pn - i < n → w_X10_addParting_71 KE (nI pn) a b n (nI k) (nI i) l h := by
    intro a b KE hKE n
    induction n with
    | zero => intro k i l h h1 h2 h3; omega
    | succ n ih =>
      intro k i l h h1 h2 h3
      refine pk_le pn i (fun _ => hKE k _ _ (by omega)) (fun hlt => ?_)
      have hi : vp_in (nI i) 80 := pk_in i 80 (by omega)
      have hk : vp_in (nI k) 80 := pk_in k 80 (by omega)
      refine ⟨hi, hi, s_isIn (fun r => ⟨fun _ => ⟨hi, hk, fun l2 _ => ⟨hi, hk, fun h2 _ x5 e5 x6 e6 => ?_⟩⟩, fun _ x6 e6 => ?_⟩)⟩
      · rw [e5, e6, nI_p1, nI_p1]
        exact ih (k + 1) (i + 1) l2 h2 (by omega) (by omega) (by omega)
      · rw [e6, nI_p1]
        exact ih k (i + 1) l h (by omega) (by omega) (by omega)
  have body : ∀ a b : Int32, ∃ fu : Nat, w_X10_addParting_29 post (∃ fu : Nat, w_X10_addParting_71 (fun (x5 : Int32) (l : Nat → Int32) (h : Nat → Int32) => (∃ fu : Nat, w_X10_addParting_144 (fun (x6 : Int32) (l : Nat → Int32) (h : Nat → Int32) => (j_X10_addParting_227 post l h a b x5 x6)) a b fu x5 l h)) (nI pn) a b fu (0 : Int32) (0 : Int32) lo hi) (nI pn) lo hi a b fu (0 : Int32) := by
    intro a b
    refine ⟨pn + 1, k1 a b _ ?_ (pn + 1) 0 (by omega) (by omega)⟩
    refine ⟨pn + 1, k2 a b _ ?_ (pn + 1) 0 0 lo hi (by omega) (by omega) (by omega)⟩
    intro k l h hk
    refine ⟨k + 1, k3 a b _ k hk ?_ (k + 1) k l h (by omega) (by omega)⟩
    intro j l h hj
    have hv : vp_in (nI j) 80 := pk_in j 80 (by omega)
    refine ⟨hv, fun l2 _ => ⟨hv, fun h2 _ f hf => ?_⟩⟩
    rw [hf, nI_p1]
    exact H (k + 1) _ _ (by omega)
  exact ⟨fun _ => ⟨fun _ => body _ _, fun _ => body _ _⟩, fun _ => ⟨fun _ => body _ _, fun _ => body _ _⟩⟩
