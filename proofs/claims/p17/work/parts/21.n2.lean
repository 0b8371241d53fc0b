/-! the partings: one fold for both sides -/
abbrev PT : Type := Nat × (Nat → Int32) × (Nat → Int32)
abbrev isI (a b c d : Int32) : Prop := ((a &&& (c ^^^ (-1))) = 0 ∧ (b &&& (d ^^^ (-1))) = 0) ∨ ((a &&& (d ^^^ (-1))) = 0 ∧ (b &&& (c ^^^ (-1))) = 0)
abbrev bhI (a b x y : Int32) : Prop := x < a ∨ (a = x ∧ ¬ b ≤ y)
def dropS (x y : Int32) (i : Nat) (T : PT) : PT := if isI (T.2.1 i) (T.2.2 i) x y then T else (T.1 + 1, upd T.2.1 T.1 (T.2.1 i), upd T.2.2 T.1 (T.2.2 i))
def insF (x y : Int32) : Nat → (Nat → Int32) → (Nat → Int32) → (Nat → Int32) × (Nat → Int32)
  | 0, l, h => (upd l 0 x, upd h 0 y)
  | j + 1, l, h => if bhI (l j) (h j) x y then insF x y j (upd l (j + 1) (l j)) (upd h (j + 1) (h j)) else (upd l (j + 1) x, upd h (j + 1) y)
def covP (T : PT) (x y : Int32) : Prop := ∃ i, i < T.1 ∧ isI x y (T.2.1 i) (T.2.2 i)
def newF (T : PT) (x y : Int32) : PT := ((fo (dropS x y) T.1 (0, T.2.1, T.2.2)).1 + 1, insF x y (fo (dropS x y) T.1 (0, T.2.1, T.2.2)).1 (fo (dropS x y) T.1 (0, T.2.1, T.2.2)).2.1 (fo (dropS x y) T.1 (0, T.2.1, T.2.2)).2.2)
noncomputable def putF (T : PT) (x y : Int32) : PT := @ite PT (covP T x y) (Classical.propDecidable _) T (newF T x y)
noncomputable def addF (T : PT) (a b : Int32) : PT := putF T (if b < a then b else a) (if a < b then b else a)
theorem putF_c {T : PT} {x y : Int32} (h : covP T x y) : putF T x y = T := if_pos h
theorem putF_n {T : PT} {x y : Int32} (h : ¬ covP T x y) : putF T x y = newF T x y := if_neg h
theorem dropS_le (x y : Int32) (n : Nat) (T : PT) : (fo (dropS x y) n T).1 ≤ T.1 + n := by
  have := fo_le (f := dropS x y) (φ := fun T => T.1) (d := 1) (fun i T => by
    show (dropS x y i T).1 ≤ T.1 + 1
    unfold dropS
    split
    · omega
    · exact Nat.le_refl _) n T
  omega
theorem newF_le (T : PT) (x y : Int32) : (newF T x y).1 ≤ T.1 + 1 := by
  have := dropS_le x y T.1 (0, T.2.1, T.2.2)
  unfold newF
  show _ + 1 ≤ _
  omega
theorem putF_le (T : PT) (x y : Int32) : (putF T x y).1 ≤ T.1 + 1 := by
  by_cases h : covP T x y
  · rw [putF_c h]; omega
  · rw [putF_n h]; exact newF_le T x y
theorem addF_le (T : PT) (a b : Int32) : (addF T a b).1 ≤ T.1 + 1 := putF_le T _ _
theorem g_isInside {post : Int32 → Prop} {a b c d : Int32} (H1 : isI a b c d → post 1) (H0 : ¬ isI a b c d → post 0) : wp_X6_isInside post a b c d := by
  have J : ¬ ((a &&& (c ^^^ (-1))) = 0 ∧ (b &&& (d ^^^ (-1))) = 0) → j_X6_isInside_16 post a b c d := fun hn => ⟨fun p => ⟨fun q => H1 (Or.inr ⟨p, q⟩), fun q => H0 (fun h => h.elim hn (fun h => q h.2))⟩, fun p => H0 (fun h => h.elim hn (fun h => p h.1))⟩
  exact ⟨fun p => ⟨fun q => H1 (Or.inl ⟨p, q⟩), fun q => J (fun h => q h.2)⟩, fun p => J (fun h => p h.1)⟩
theorem r_isIn {post : Int32 → Prop} {a b c d : Int32} (H1 : isI a b c d → post 1) (H0 : ¬ isI a b c d → post 0) : wp_X10_isIn post a b c d := by
  have J : ¬ ((a &&& (c ^^^ (-1))) = 0 ∧ (b &&& (d ^^^ (-1))) = 0) → j_X10_isIn_16 post a b c d := fun hn => ⟨fun p => ⟨fun q => H1 (Or.inr ⟨p, q⟩), fun q => H0 (fun h => h.elim hn (fun h => q h.2))⟩, fun p => H0 (fun h => h.elim hn (fun h => p h.1))⟩
  exact ⟨fun p => ⟨fun q => H1 (Or.inl ⟨p, q⟩), fun q => J (fun h => q h.2)⟩, fun p => J (fun h => p h.1)⟩
theorem g_isBehind {post : Int32 → Prop} {lo hi : Nat → Int32} {k : Nat} {x y : Int32} (hk : k < 75) (H1 : bhI (lo k) (hi k) x y → post 1) (H0 : ¬ bhI (lo k) (hi k) x y → post 0) : wp_X6_isBehind post lo hi (nI k) x y := by
  have hv : vp_in (nI k) 75 := pk_in k 75 hk
  unfold wp_X6_isBehind
  rw [nI_clamp (show k < 2 ^ 31 by omega)]
  exact ⟨hv, fun p => H1 (Or.inl p), fun p => ⟨hv, fun q => ⟨hv, fun r => H0 (fun h => h.elim p (fun h => h.2 r)), fun r => H1 (Or.inr ⟨q, r⟩)⟩, fun q => H0 (fun h => h.elim p (fun h => q h.1))⟩⟩
theorem dropS_in {x y : Int32} {i : Nat} {T : PT} (h : isI (T.2.1 i) (T.2.2 i) x y) : dropS x y i T = T := if_pos h
theorem dropS_out {x y : Int32} {i : Nat} {T : PT} (h : ¬ isI (T.2.1 i) (T.2.2 i) x y) : dropS x y i T = (T.1 + 1, upd T.2.1 T.1 (T.2.1 i), upd T.2.2 T.1 (T.2.2 i)) := if_neg h
theorem g_dropInside {post : (Nat → Int32) → (Nat → Int32) → Int32 → Prop} {lo hi : Nat → Int32} {pn : Nat} {x y : Int32} (hp : pn ≤ 75) (H : post (fo (dropS x y) pn (0, lo, hi)).2.1 (fo (dropS x y) pn (0, lo, hi)).2.2 (nI (fo (dropS x y) pn (0, lo, hi)).1)) : wp_X6_dropInside post lo hi (nI pn) x y := by
  have key : ∀ n i, i ≤ pn → pn - i < n → w_X6_dropInside_5 (fun a b c => post b c a) (nI pn) x y n (nI (fo (dropS x y) i (0, lo, hi)).1) (nI i) (fo (dropS x y) i (0, lo, hi)).2.1 (fo (dropS x y) i (0, lo, hi)).2.2 := by
    intro n
    induction n with
    | zero => intro i h1 h2; omega
    | succ n ih =>
      intro i h1 h2
      have hk := dropS_le x y i (0, lo, hi)
      have hr := ih (i + 1)
      rw [fo_s] at hr
      revert hk hr
      generalize e : fo (dropS x y) i (0, lo, hi) = S
      intro hk hr
      have hk : S.1 ≤ i := by simpa using hk
      refine pk_le pn i (fun hle => ?_) (fun hlt => ?_)
      · rw [show i = pn by omega] at e; rw [← e]; exact H
      · have hi : vp_in (nI i) 75 := pk_in i 75 (by omega)
        have hk1 : vp_in (nI S.1) 75 := pk_in S.1 75 (by omega)
        have hr := hr (by omega) (by omega)
        rw [nI_clamp (show i < 2 ^ 31 by omega), nI_clamp (show S.1 < 2 ^ 31 by omega)]
        refine ⟨hi, hi, g_isInside (fun q => ⟨fun q1 => absurd q1 (by decide), fun _ z hz => ?_⟩) (fun q => ⟨fun _ => ⟨hi, hk1, fun l2 e2 => ⟨hi, hk1, fun h2 e3 x5 e5 x6 e6 => ?_⟩⟩, fun q1 => absurd rfl q1⟩)⟩
        · rw [dropS_in q] at hr
          rw [hz, nI_p1 i]
          exact hr
        · rw [dropS_out q] at hr
          rw [e5, e6, e2, e3, nI_p1 i, nI_p1 S.1]
          exact hr
  exact ⟨pn + 1, key (pn + 1) 0 (by omega) (by omega)⟩
theorem g_insert {post : (Nat → Int32) → (Nat → Int32) → Int32 → Prop} {lo hi : Nat → Int32} {pn : Nat} {x y : Int32} (hp : pn < 75) (H : post (insF x y pn lo hi).1 (insF x y pn lo hi).2 (nI (pn + 1))) : wp_X6_insert post lo hi (nI pn) x y := by
  refine pk_lt pn 75 (fun hlt => ⟨pn + 1, ?_⟩) (fun h => absurd hp (by omega))
  have fin : ∀ i l h, i ≤ pn → post (upd l i x) (upd h i y) (nI (pn + 1)) → j_X6_insert_65 post l h (nI pn) x y (nI i) := by
    intro i l h hi H
    have hv : vp_in (nI i) 75 := pk_in i 75 (by omega)
    refine ⟨hv, fun a ha => ⟨hv, fun b hb f hf => ?_⟩⟩
    rw [hf, nI_p1, ha, hb, nI_clamp (show i < 2 ^ 31 by omega)]
    exact H
  have key : ∀ n i l h, i ≤ pn → i < n → post (insF x y i l h).1 (insF x y i l h).2 (nI (pn + 1)) → w_X6_insert_15 (fun (x3_10 : Int32) (ylessers_10 : Nat → Int32) (ygreaters_10 : Nat → Int32) => (j_X6_insert_65 post ylessers_10 ygreaters_10 (nI pn) x y x3_10)) x y n (nI i) l h := by
    intro n
    induction n with
    | zero => intro i l h h1 h2; omega
    | succ n ih =>
      intro i l h h1 h2 H
      refine pk_le i 0 (fun h0 => fin i _ _ h1 ?_) (fun hlt => ?_)
      · rw [show i = 0 by omega] at H ⊢; exact H
      obtain ⟨j, rfl⟩ : ∃ j, i = j + 1 := ⟨i - 1, by omega⟩
      rw [nI_pred, nI_clamp (show j < 2 ^ 31 by omega), nI_clamp (show j + 1 < 2 ^ 31 by omega)]
      have hj : vp_in (nI j) 75 := pk_in j 75 (by omega)
      have hj1 : vp_in (nI (j + 1)) 75 := pk_in (j + 1) 75 (by omega)
      rw [insF] at H
      refine g_isBehind (by omega) (fun q => ⟨fun q1 => absurd q1 (by decide), fun _ => ⟨hj, hj1, fun a ha => ⟨hj, hj1, fun b hb z hz => ?_⟩⟩⟩) (fun q => ⟨fun _ => fin _ _ _ h1 ?_, fun q1 => absurd rfl q1⟩)
      · rw [if_pos q] at H
        rw [hz, pk_m1, ha, hb]
        exact ih j _ _ (by omega) (by omega) H
      · rw [if_neg q] at H
        exact H
  exact key (pn + 1) pn lo hi (by omega) (by omega) H
theorem g_offer {post : (Nat → Int32) → (Nat → Int32) → Int32 → Prop} {T : PT} {a b : Int32} (hp : T.1 < 75) (H : post (addF T a b).2.1 (addF T a b).2.2 (nI (addF T a b).1)) : wp_X6_offer post T.2.1 T.2.2 (nI T.1) a b := by
  intro x ex y ey
  unfold addF at H
  rw [← ex, ← ey] at H
  clear ex ey
  have key : ∀ (KE : Prop), (¬ covP T x y → KE) → ∀ n i, i ≤ T.1 → T.1 - i < n → (∀ j, j < i → ¬ isI x y (T.2.1 j) (T.2.2 j)) → w_X6_offer_16 post KE T.2.1 T.2.2 (nI T.1) x y n (nI i) := by
    intro KE hK n
    induction n with
    | zero => intro i h1 h2; omega
    | succ n ih =>
      intro i h1 h2 h3
      refine pk_le T.1 i (fun hle => hK ?_) (fun hlt => ?_)
      · rintro ⟨j, hj, q⟩
        exact h3 j (by omega) q
      · have hi : vp_in (nI i) 75 := pk_in i 75 (by omega)
        rw [nI_clamp (show i < 2 ^ 31 by omega)]
        refine ⟨hi, hi, g_isInside (fun q => ⟨fun q1 => absurd q1 (by decide), fun _ => ?_⟩) (fun q => ⟨fun _ z hz => ?_, fun q1 => absurd rfl q1⟩)⟩
        · rw [putF_c ⟨i, hlt, q⟩] at H
          exact H
        · rw [hz, nI_p1 i]
          refine ih (i + 1) (by omega) (by omega) (fun j hj => ?_)
          by_cases e : j = i
          · rw [e]; exact q
          · exact h3 j (by omega)
  refine ⟨T.1 + 1, key _ (fun hn => ?_) (T.1 + 1) 0 (by omega) (by omega) (fun j hj => absurd hj (by omega))⟩
  rw [putF_n hn] at H
  have hk := dropS_le x y T.1 (0, T.2.1, T.2.2)
  have hk : (fo (dropS x y) T.1 (0, T.2.1, T.2.2)).1 ≤ T.1 := by simpa using hk
  exact g_dropInside (by omega) (g_insert (by omega) H)
def i1s (s : Nat) : Int32 := (1 : Int32) <<< (nI s &&& 31)
noncomputable def colF (E : Nat → Nat → Int32) (r s c : Nat) (T : PT) : PT := if E r c = -1 then T else if E s c = -1 then T else if E r c = E s c then T else addF T (i1s r ||| ((1 : Int32) <<< (E r c &&& 31))) (i1s s ||| ((1 : Int32) <<< (E s c &&& 31)))
noncomputable def pairF (co : Nat) (E : Nat → Nat → Int32) (r s : Nat) (T : PT) : PT := fo (colF E r s) co (addF T (i1s r) (i1s s))
noncomputable def rowF (st co : Nat) (E : Nat → Nat → Int32) (r : Nat) (T : PT) : PT := fo (fun j T => pairF co E r (r + 1 + j) T) (st - (r + 1)) T
noncomputable def gatF (st co : Nat) (E : Nat → Nat → Int32) (T : PT) : PT := fo (rowF st co E) st T
theorem colF_le (E : Nat → Nat → Int32) (r s c : Nat) (T : PT) : (colF E r s c T).1 ≤ T.1 + 1 := by
  unfold colF
  split
  · omega
  · split
    · omega
    · split
      · omega
      · exact addF_le _ _ _
theorem pairF_le {co : Nat} (hc : co ≤ 4) (E : Nat → Nat → Int32) (r s : Nat) (T : PT) : (pairF co E r s T).1 ≤ T.1 + 5 := by
  have := fo_le (f := colF E r s) (φ := fun T => T.1) (d := 1) (fun i T => colF_le E r s i T) co (addF T (i1s r) (i1s s))
  have h2 := addF_le T (i1s r) (i1s s)
  unfold pairF
  omega
theorem g_offerMoves {post : (Nat → Int32) → (Nat → Int32) → Int32 → Prop} {en : Nat → Int32} {E : Nat → Nat → Int32} {st co c r s : Nat} {T : PT} (hT : okE st co E) (hE : eqE st co en E) (hr : r < st) (hs : s < st) (hc : c < co) (hp : T.1 < 75) (H : post (colF E r s c T).2.1 (colF E r s c T).2.2 (nI (colF E r s c T).1)) : wp_X6_offerMoves post en (nI st) (nI co) T.2.1 T.2.2 (nI T.1) (nI c) (nI r) (nI s) := by
  refine g_next hT hE hr hc (g_next hT hE hs hc ?_)
  unfold colF at H
  refine ⟨fun q => ?_, fun q => ⟨fun q2 => ?_, fun q2 => ⟨fun q3 => ?_, fun q3 => ?_⟩⟩⟩
  · rw [if_pos q] at H; exact H
  · rw [if_neg q, if_pos q2] at H; exact H
  · rw [if_neg q, if_neg q2, if_pos q3] at H; exact H
  · rw [if_neg q, if_neg q2, if_neg q3] at H
    exact g_offer hp H
theorem g_gather {post : (Nat → Int32) → (Nat → Int32) → Int32 → Prop} {en lo hi : Nat → Int32} {st co : Nat} {E : Nat → Nat → Int32} {pa : Int32} (hT : okE st co E) (hE : eqE st co en E) (H : post (gatF st co E (0, lo, hi)).2.1 (gatF st co E (0, lo, hi)).2.2 (nI (gatF st co E (0, lo, hi)).1)) : wp_X6_gather post en (nI st) (nI co) lo hi pa := by
  have h6 := hT.1
  have h4 := hT.2.1
  have k3 : ∀ (KE : (Nat → Int32) → (Nat → Int32) → Int32 → Prop) (r s : Nat) (T : PT), r < st → s < st → T.1 ≤ 71 → KE (fo (colF E r s) co T).2.1 (fo (colF E r s) co T).2.2 (nI (fo (colF E r s) co T).1) → ∀ n i, i ≤ co → co - i < n → w_X6_gather_39 KE en (nI st) (nI co) (nI r) (nI s) n (nI i) (fo (colF E r s) i T).2.1 (fo (colF E r s) i T).2.2 (nI (fo (colF E r s) i T).1) := by
    intro KE r s T hr hs hB hK n
    induction n with
    | zero => intro i h1 h2; omega
    | succ n ih =>
      intro i h1 h2
      have hb := fo_le (f := colF E r s) (φ := fun T => T.1) (d := 1) (fun i T => colF_le E r s i T) i T
      refine pk_le co i (fun hle => by rw [show i = co by omega]; exact hK) (fun hlt => g_offerMoves hT hE hr hs hlt (by omega) (fun z hz => ?_))
      rw [hz, nI_p1 i]
      exact ih (i + 1) (by omega) (by omega)
  have k2 : ∀ (KE : (Nat → Int32) → (Nat → Int32) → Int32 → Prop) (r : Nat) (T : PT), r < st → T.1 + 5 * (st - (r + 1)) ≤ 75 → KE (rowF st co E r T).2.1 (rowF st co E r T).2.2 (nI (rowF st co E r T).1) → ∀ n i, r + 1 + i ≤ st → st - (r + 1 + i) < n → w_X6_gather_18 KE en (nI st) (nI co) (nI r) n (nI (r + 1 + i)) (fo (fun j T => pairF co E r (r + 1 + j) T) i T).2.1 (fo (fun j T => pairF co E r (r + 1 + j) T) i T).2.2 (nI (fo (fun j T => pairF co E r (r + 1 + j) T) i T).1) := by
    intro KE r T hr hB hK n
    induction n with
    | zero => intro i h1 h2; omega
    | succ n ih =>
      intro i h1 h2
      have hb := fo_le (f := fun j T => pairF co E r (r + 1 + j) T) (φ := fun T => T.1) (d := 5) (fun i T => pairF_le h4 E r _ T) i T
      refine pk_le st (r + 1 + i) (fun hle => by rw [show i = st - (r + 1) by omega]; exact hK) (fun hlt => ?_)
      have h71 := addF_le (fo (fun j T => pairF co E r (r + 1 + j) T) i T) (i1s r) (i1s (r + 1 + i))
      have hs := ih (i + 1) (by omega) (by omega)
      rw [fo_s] at hs
      revert hb h71 hs
      generalize fo (fun j T => pairF co E r (r + 1 + j) T) i T = S
      intro hb h71 hs
      refine g_offer (by omega) ⟨5, k3 _ r (r + 1 + i) (addF S (i1s r) (i1s (r + 1 + i))) hr hlt (by omega) (fun z hz => ?_) 5 0 (by omega) (by omega)⟩
      rw [hz, nI_p1]
      exact hs
  have k1 : ∀ n i, i ≤ st → st - i < n → (fo (rowF st co E) i (0, lo, hi)).1 + 5 * ((st - i) * (st - i - 1) / 2) ≤ 75 → w_X6_gather_6 (fun a b c => post a b c) en (nI st) (nI co) n (nI i) (fo (rowF st co E) i (0, lo, hi)).2.1 (fo (rowF st co E) i (0, lo, hi)).2.2 (nI (fo (rowF st co E) i (0, lo, hi)).1) := by
    intro n
    induction n with
    | zero => intro i h1 h2; omega
    | succ n ih =>
      intro i h1 h2 h3
      refine pk_le st i (fun hle => by rw [show i = st by omega]; exact H) (fun hlt b hb => ?_)
      rw [hb, nI_p1 i]
      obtain ⟨d, hd⟩ : ∃ d, st - i = d + 1 := ⟨st - i - 1, by omega⟩
      have e1 : (d + 1) * (d + 1 - 1) / 2 = d + d * (d - 1) / 2 := by
        have : ∀ d, d < 6 → (d + 1) * (d + 1 - 1) / 2 = d + d * (d - 1) / 2 := by decide
        exact this d (by omega)
      rw [hd, e1] at h3
      have hs := ih (i + 1) (by omega) (by omega)
      rw [fo_s, show st - (i + 1) = d by omega] at hs
      revert h3 hs
      generalize fo (rowF st co E) i (0, lo, hi) = S
      intro h3 hs
      have hb2 := fo_le (f := fun j T => pairF co E i (i + 1 + j) T) (φ := fun T => T.1) (d := 5) (fun j T => pairF_le h4 E i _ T) (st - (i + 1)) S
      have hb3 : (rowF st co E i S).1 ≤ S.1 + (st - (i + 1)) * 5 := hb2
      refine ⟨7, k2 _ i S hlt (by omega) (fun z hz => ?_) 7 0 (by omega) (by omega)⟩
      rw [hz]
      exact hs (by omega)
  refine ⟨7, k1 7 0 (by omega) (by omega) ?_⟩
  have : ∀ s, s < 7 → 0 + 5 * ((s - 0) * (s - 0 - 1) / 2) ≤ 75 := by decide
  exact this st (by omega)
/-! the reference -/
theorem r_addParting {post : Int32 → (Nat → Int32) → (Nat → Int32) → Prop} {T : PT} {a b : Int32} (hp : T.1 < 80) (H : post (nI (addF T a b).1) (addF T a b).2.1 (addF T a b).2.2) : wp_X10_addParting post (nI T.1) T.2.1 T.2.2 a b := by
  have body : ∀ x y : Int32, post (nI (putF T x y).1) (putF T x y).2.1 (putF T x y).2.2 → ∃ fu : Nat, w_X10_addParting_29 post (∃ fu : Nat, w_X10_addParting_71 (fun (x5 : Int32) (l : Nat → Int32) (h : Nat → Int32) => (∃ fu : Nat, w_X10_addParting_144 (fun (x6 : Int32) (l : Nat → Int32) (h : Nat → Int32) => (j_X10_addParting_227 post l h x y x5 x6)) x y fu x5 l h)) (nI T.1) x y fu (0 : Int32) (0 : Int32) T.2.1 T.2.2) (nI T.1) T.2.1 T.2.2 x y fu (0 : Int32) := by
    intro x y H
    have k1 : ∀ (KE : Prop), (¬ covP T x y → KE) → ∀ n i, i ≤ T.1 → T.1 - i < n → (∀ j, j < i → ¬ isI x y (T.2.1 j) (T.2.2 j)) → w_X10_addParting_29 post KE (nI T.1) T.2.1 T.2.2 x y n (nI i) := by
      intro KE hK n
      induction n with
      | zero => intro i h1 h2; omega
      | succ n ih =>
        intro i h1 h2 h3
        refine pk_le T.1 i (fun hle => hK ?_) (fun hlt => ?_)
        · rintro ⟨j, hj, q⟩
          exact h3 j (by omega) q
        · have hi : vp_in (nI i) 80 := pk_in i 80 (by omega)
          rw [nI_clamp (show i < 2 ^ 31 by omega)]
          refine ⟨hi, hi, r_isIn (fun q => ⟨fun q1 => absurd q1 (by decide), fun _ => ?_⟩) (fun q => ⟨fun _ z hz => ?_, fun q1 => absurd rfl q1⟩)⟩
          · rw [putF_c ⟨i, hlt, q⟩] at H
            exact H
          · rw [hz, nI_p1 i]
            refine ih (i + 1) (by omega) (by omega) (fun j hj => ?_)
            by_cases e : j = i
            · rw [e]; exact q
            · exact h3 j (by omega)
    refine ⟨T.1 + 1, k1 _ (fun hn => ?_) (T.1 + 1) 0 (by omega) (by omega) (fun j hj => absurd hj (by omega))⟩
    rw [putF_n hn] at H
    unfold newF at H
    have k2 : ∀ (KE : Int32 → (Nat → Int32) → (Nat → Int32) → Prop), KE (nI (fo (dropS x y) T.1 (0, T.2.1, T.2.2)).1) (fo (dropS x y) T.1 (0, T.2.1, T.2.2)).2.1 (fo (dropS x y) T.1 (0, T.2.1, T.2.2)).2.2 → ∀ n i, i ≤ T.1 → T.1 - i < n → w_X10_addParting_71 KE (nI T.1) x y n (nI (fo (dropS x y) i (0, T.2.1, T.2.2)).1) (nI i) (fo (dropS x y) i (0, T.2.1, T.2.2)).2.1 (fo (dropS x y) i (0, T.2.1, T.2.2)).2.2 := by
      intro KE hK n
      induction n with
      | zero => intro i h1 h2; omega
      | succ n ih =>
        intro i h1 h2
        have hk := dropS_le x y i (0, T.2.1, T.2.2)
        have hr := ih (i + 1)
        rw [fo_s] at hr
        revert hk hr
        generalize e : fo (dropS x y) i (0, T.2.1, T.2.2) = S
        intro hk hr
        have hk : S.1 ≤ i := by simpa using hk
        refine pk_le T.1 i (fun hle => ?_) (fun hlt => ?_)
        · rw [show i = T.1 by omega] at e; rw [← e]; exact hK
        · have hi : vp_in (nI i) 80 := pk_in i 80 (by omega)
          have hk1 : vp_in (nI S.1) 80 := pk_in S.1 80 (by omega)
          have hr := hr (by omega) (by omega)
          rw [nI_clamp (show i < 2 ^ 31 by omega), nI_clamp (show S.1 < 2 ^ 31 by omega)]
          refine ⟨hi, hi, r_isIn (fun q => ⟨fun q1 => absurd q1 (by decide), fun _ z hz => ?_⟩) (fun q => ⟨fun _ => ⟨hi, hk1, fun l2 e2 => ⟨hi, hk1, fun h2 e3 x5 e5 x6 e6 => ?_⟩⟩, fun q1 => absurd rfl q1⟩)⟩
          · rw [dropS_in q] at hr
            rw [hz, nI_p1 i]
            exact hr
          · rw [dropS_out q] at hr
            rw [e5, e6, e2, e3, nI_p1 i, nI_p1 S.1]
            exact hr
    refine ⟨T.1 + 1, k2 _ ?_ (T.1 + 1) 0 (by omega) (by omega)⟩
    have hk := dropS_le x y T.1 (0, T.2.1, T.2.2)
    have hk : (fo (dropS x y) T.1 (0, T.2.1, T.2.2)).1 ≤ T.1 := by simpa using hk
    revert H hk
    generalize fo (dropS x y) T.1 (0, T.2.1, T.2.2) = S
    intro H hk
    have fin : ∀ i l h, i ≤ S.1 → post (nI (S.1 + 1)) (upd l i x) (upd h i y) → j_X10_addParting_227 post l h x y (nI S.1) (nI i) := by
      intro i l h hi H
      have hv : vp_in (nI i) 80 := pk_in i 80 (by omega)
      refine ⟨hv, fun a ha => ⟨hv, fun b hb f hf => ?_⟩⟩
      rw [hf, nI_p1, ha, hb, nI_clamp (show i < 2 ^ 31 by omega)]
      exact H
    have k3 : ∀ n i l h, i ≤ S.1 → i < n → post (nI (S.1 + 1)) (insF x y i l h).1 (insF x y i l h).2 → w_X10_addParting_144 (fun (x6 : Int32) (l : Nat → Int32) (h : Nat → Int32) => (j_X10_addParting_227 post l h x y (nI S.1) x6)) x y n (nI i) l h := by
      intro n
      induction n with
      | zero => intro i l h h1 h2; omega
      | succ n ih =>
        intro i l h h1 h2 H
        refine pk_le i 0 (fun h0 => fin i _ _ h1 ?_) (fun hlt => ?_)
        · rw [show i = 0 by omega] at H ⊢; exact H
        obtain ⟨j, rfl⟩ : ∃ j, i = j + 1 := ⟨i - 1, by omega⟩
        have hj : vp_in (nI j) 80 := pk_in j 80 (by omega)
        have hj1 : vp_in (nI (j + 1)) 80 := pk_in (j + 1) 80 (by omega)
        rw [insF] at H
        rw [nI_pred, nI_clamp (show j < 2 ^ 31 by omega)]
        have J : bhI (l j) (h j) x y → j_X10_addParting_189 (w_X10_addParting_144 (fun (x6 : Int32) (l : Nat → Int32) (h : Nat → Int32) => (j_X10_addParting_227 post l h x y (nI S.1) x6)) x y n) l h (nI (j + 1)) := by
          intro q
          rw [if_pos q] at H
          unfold j_X10_addParting_189
          rw [nI_pred, nI_clamp (show j < 2 ^ 31 by omega), nI_clamp (show j + 1 < 2 ^ 31 by omega)]
          refine ⟨hj, hj1, fun l2 e2 => ⟨hj, hj1, fun h2 e3 z hz => ?_⟩⟩
          rw [hz, pk_m1, e2, e3]
          exact ih j _ _ (by omega) (by omega) H
        have Nn : ¬ bhI (l j) (h j) x y → j_X10_addParting_227 post l h x y (nI S.1) (nI (j + 1)) := fun q => by
          rw [if_neg q] at H
          exact fin _ _ _ h1 H
        exact ⟨hj, fun p => J (Or.inl p), fun p => ⟨hj, fun q => ⟨hj, fun r => Nn (fun h => h.elim p (fun h => h.2 r)), fun r => J (Or.inr ⟨q, r⟩)⟩, fun q => Nn (fun h => h.elim p (fun h => q h.1))⟩⟩
    exact ⟨S.1 + 1, k3 (S.1 + 1) S.1 S.2.1 S.2.2 (by omega) (by omega) H⟩
  unfold addF at H
  refine ⟨fun q => ⟨fun _ => ?_, fun q2 => absurd q q2⟩, fun q => ⟨fun q2 => absurd q2 q, fun _ => ?_⟩⟩
  · rw [(i32_le_of q).1, (i32_le_of q).2] at H
    exact body _ _ H
  · rw [(i32_nle_of q).1, (i32_nle_of q).2] at H
    exact body _ _ H
theorem r_addOfColumn {post : Int32 → (Nat → Int32) → (Nat → Int32) → Prop} {en : Nat → Int32} {E : Nat → Nat → Int32} {st co c r s : Nat} {T : PT} (hT : okE st co E) (hE : eqE st co en E) (hr : r < st) (hs : s < st) (hc : c < co) (hp : T.1 < 80) (H : post (nI (colF E r s c T).1) (colF E r s c T).2.1 (colF E r s c T).2.2) : wp_X10_addOfColumn post en (nI T.1) T.2.1 T.2.2 (nI c) (nI r) (nI s) := by
  refine r_at hT hE hr hc (r_at hT hE hs hc ?_)
  unfold colF at H
  refine ⟨fun q => ?_, fun q => ⟨fun q2 => ?_, fun q2 => ⟨fun q3 => ?_, fun q3 => ?_⟩⟩⟩
  · rw [if_pos q] at H; exact H
  · rw [if_neg q, if_pos q2] at H; exact H
  · rw [if_neg q, if_neg q2, if_pos q3] at H; exact H
  · rw [if_neg q, if_neg q2, if_neg q3] at H
    exact r_addParting hp H
theorem r_layPartings {post : Int32 → (Nat → Int32) → (Nat → Int32) → Prop} {en lo hi : Nat → Int32} {st co : Nat} {E : Nat → Nat → Int32} {pa : Int32} (hT : okE st co E) (hE : eqE st co en E) (H0 : ¬ NRM st co E → post 0 lo hi) (H : NRM st co E → post (nI (gatF st co E (0, lo, hi)).1) (gatF st co E (0, lo, hi)).2.1 (gatF st co E (0, lo, hi)).2.2) : wp_X10_layPartings post (nI st) (nI co) en pa lo hi := by
  have h6 := hT.1
  have h4 := hT.2.1
  have k3 : ∀ (KE : Int32 → (Nat → Int32) → (Nat → Int32) → Prop) (r s : Nat) (T : PT), r < st → s < st → T.1 ≤ 71 → KE (nI (fo (colF E r s) co T).1) (fo (colF E r s) co T).2.1 (fo (colF E r s) co T).2.2 → ∀ n i, i ≤ co → co - i < n → w_X10_layPartings_47 KE (nI co) en (nI r) (nI s) n (nI i) (nI (fo (colF E r s) i T).1) (fo (colF E r s) i T).2.1 (fo (colF E r s) i T).2.2 := by
    intro KE r s T hr hs hB hK n
    induction n with
    | zero => intro i h1 h2; omega
    | succ n ih =>
      intro i h1 h2
      have hb := fo_le (f := colF E r s) (φ := fun T => T.1) (d := 1) (fun i T => colF_le E r s i T) i T
      refine pk_le co i (fun hle => by rw [show i = co by omega]; exact hK) (fun hlt => r_addOfColumn hT hE hr hs hlt (by omega) (fun z hz => ?_))
      rw [hz, nI_p1 i]
      exact ih (i + 1) (by omega) (by omega)
  have k2 : ∀ (KE : Int32 → (Nat → Int32) → (Nat → Int32) → Prop) (r : Nat) (T : PT), r < st → T.1 + 5 * (st - (r + 1)) ≤ 75 → KE (nI (rowF st co E r T).1) (rowF st co E r T).2.1 (rowF st co E r T).2.2 → ∀ n i, r + 1 + i ≤ st → st - (r + 1 + i) < n → w_X10_layPartings_27 KE (nI st) (nI co) en (nI r) n (nI (r + 1 + i)) (nI (fo (fun j T => pairF co E r (r + 1 + j) T) i T).1) (fo (fun j T => pairF co E r (r + 1 + j) T) i T).2.1 (fo (fun j T => pairF co E r (r + 1 + j) T) i T).2.2 := by
    intro KE r T hr hB hK n
    induction n with
    | zero => intro i h1 h2; omega
    | succ n ih =>
      intro i h1 h2
      have hb := fo_le (f := fun j T => pairF co E r (r + 1 + j) T) (φ := fun T => T.1) (d := 5) (fun i T => pairF_le h4 E r _ T) i T
      refine pk_le st (r + 1 + i) (fun hle => by rw [show i = st - (r + 1) by omega]; exact hK) (fun hlt => ?_)
      have h71 := addF_le (fo (fun j T => pairF co E r (r + 1 + j) T) i T) (i1s r) (i1s (r + 1 + i))
      have hs := ih (i + 1) (by omega) (by omega)
      rw [fo_s] at hs
      revert hb h71 hs
      generalize fo (fun j T => pairF co E r (r + 1 + j) T) i T = S
      intro hb h71 hs
      refine r_addParting (by omega) ⟨5, k3 _ r (r + 1 + i) (addF S (i1s r) (i1s (r + 1 + i))) hr hlt (by omega) (fun z hz => ?_) 5 0 (by omega) (by omega)⟩
      rw [hz, nI_p1]
      exact hs
  have k1 : NRM st co E → ∀ n i, i ≤ st → st - i < n → (fo (rowF st co E) i (0, lo, hi)).1 + 5 * ((st - i) * (st - i - 1) / 2) ≤ 75 → w_X10_layPartings_15 (fun a b c => post a b c) (nI st) (nI co) en n (nI i) (nI (fo (rowF st co E) i (0, lo, hi)).1) (fo (rowF st co E) i (0, lo, hi)).2.1 (fo (rowF st co E) i (0, lo, hi)).2.2 := by
    intro hN n
    induction n with
    | zero => intro i h1 h2; omega
    | succ n ih =>
      intro i h1 h2 h3
      refine pk_le st i (fun hle => by rw [show i = st by omega]; exact H hN) (fun hlt b hb => ?_)
      rw [hb, nI_p1 i]
      obtain ⟨d, hd⟩ : ∃ d, st - i = d + 1 := ⟨st - i - 1, by omega⟩
      have e1 : (d + 1) * (d + 1 - 1) / 2 = d + d * (d - 1) / 2 := by
        have : ∀ d, d < 6 → (d + 1) * (d + 1 - 1) / 2 = d + d * (d - 1) / 2 := by decide
        exact this d (by omega)
      rw [hd, e1] at h3
      have hs := ih (i + 1) (by omega) (by omega)
      rw [fo_s, show st - (i + 1) = d by omega] at hs
      revert h3 hs
      generalize fo (rowF st co E) i (0, lo, hi) = S
      intro h3 hs
      have hb2 := fo_le (f := fun j T => pairF co E i (i + 1 + j) T) (φ := fun T => T.1) (d := 5) (fun j T => pairF_le h4 E i _ T) (st - (i + 1)) S
      have hb3 : (rowF st co E i S).1 ≤ S.1 + (st - (i + 1)) * 5 := hb2
      refine ⟨7, k2 _ i S hlt (by omega) (fun z hz => ?_) 7 0 (by omega) (by omega)⟩
      rw [hz]
      exact hs (by omega)
  refine r_isNormal hT hE (fun hN => ⟨fun q => absurd q (by decide), fun _ => ⟨7, k1 hN 7 0 (by omega) (by omega) ?_⟩⟩) (fun hN => ⟨fun _ => H0 hN, fun q => absurd rfl q⟩)
  have : ∀ s, s < 7 → 0 + 5 * ((s - 0) * (s - 0 - 1) / 2) ≤ 75 := by decide
  exact this st (by omega)
