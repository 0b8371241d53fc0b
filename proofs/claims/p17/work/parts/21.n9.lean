/-! what is wanted at each point -/
abbrev wayP (f t k : Int32) : Prop := ((k ^^^ f) &&& ((f ^^^ t) ^^^ (-1))) = 0
def aiS (E : Nat → Nat → Int32) (cf : Int32 → Int32) (c k s : Nat) (a : Int32) : Int32 := if E s c = -1 then a else if wayP (cf (nI s)) (cf (E s c)) (nI k) then cf (E s c) else a
def AIM (st co : Nat) (E : Nat → Nat → Int32) (cf : Int32 → Int32) (p : Nat) : Int32 := if p % 4 < co then fo (aiS E cf (p % 4) (p / 4)) st (-1) else -1
theorem sh2 : ∀ i, i < 32 → nI i <<< ((2 : Int32) &&& 31) = nI (4 * i) := by decide +kernel
theorem g_chartWay {post : (Nat → Int32) → Prop} {ac : Nat → Int32} {c : Nat} {f t : Int32} (hc : c < 4) (H : ∀ ac', (∀ p, p < 128 → ac' p = if p % 4 = c ∧ wayP f t (nI (p / 4)) then t else ac p) → post ac') : wp_X0_chartWay post ac (nI c) f t := by
  intro x hx
  refine ⟨33, ?_⟩
  have key : ∀ n i a, i ≤ 32 → 32 - i < n → (∀ p, p < 128 → a p = if p % 4 = c ∧ p / 4 < i ∧ wayP f t (nI (p / 4)) then t else ac p) → w_X0_chartWay_8 (fun a => post a) (nI c) f t x n (nI i) a := by
    intro n
    induction n with
    | zero => intro i a h1 h2; omega
    | succ n ih =>
      intro i a h1 h2 h3
      refine pk_le 32 i (fun hle => H a (fun p hp => ?_)) (fun hlt => ?_)
      · rw [h3 p hp]
        by_cases q : p % 4 = c ∧ wayP f t (nI (p / 4))
        · rw [if_pos q, if_pos ⟨q.1, by omega, q.2⟩]
        · rw [if_neg q, if_neg (fun r => q ⟨r.1, r.2.2⟩)]
      · rw [hx, sh2 i hlt, nI_add, nI_clamp (show 4 * i + c < 2 ^ 31 by omega)]
        refine ⟨fun q => ⟨pk_in (4 * i + c) 128 (by omega), fun a2 e2 z hz => ?_⟩, fun q z hz => ?_⟩
        · rw [hz, nI_p1, ← hx]
          refine ih (i + 1) a2 (by omega) (by omega) (fun p hp => ?_)
          by_cases e : p = 4 * i + c
          · have e1 : p % 4 = c := by omega
            have e3 : p / 4 = i := by omega
            rw [e2, e, pk_us, ← e, if_pos ⟨e1, by omega, by rw [e3]; exact q⟩]
          · rw [e2, pk_un e, h3 p hp]
            by_cases r : p % 4 = c ∧ p / 4 < i ∧ wayP f t (nI (p / 4))
            · rw [if_pos r, if_pos ⟨r.1, by omega, r.2.2⟩]
            · rw [if_neg r, if_neg (fun r2 => r ⟨r2.1, by omega, r2.2.2⟩)]
        · rw [hz, nI_p1, ← hx]
          refine ih (i + 1) a (by omega) (by omega) (fun p hp => ?_)
          rw [h3 p hp]
          by_cases r : p % 4 = c ∧ p / 4 < i ∧ wayP f t (nI (p / 4))
          · rw [if_pos r, if_pos ⟨r.1, by omega, r.2.2⟩]
          · rw [if_neg r, if_neg (fun r2 => ?_)]
            by_cases e3 : p / 4 = i
            · have := r2.2.2
              rw [e3] at this
              exact q this
            · exact r ⟨r2.1, by omega, r2.2.2⟩
  exact key 33 0 ac (by omega) (by omega) (fun p hp => by rw [if_neg (fun r => absurd r.2.1 (by omega))])
theorem g_chart {post : (Nat → Int32) → Int32 → Prop} {en cd ac sg : Nat → Int32} {st co g : Nat} {E : Nat → Nat → Int32} {bz : Int32} (hT : okE st co E) (hE : eqE st co en E) (hC : cdOK sg cd g) (H : ∀ ac', (∀ p, p < 128 → ac' p = AIM st co E (cdF sg g) p) → post ac' (nI (2 + g))) : wp_X0_chart post en (nI st) (nI co) cd (nI g) ac bz := by
  have h6 := hT.1
  have h4 := hT.2.1
  intro f1 hf1
  rw [show (2 : Int32) = nI 2 from rfl, nI_add] at hf1
  have k0 : ∀ (KE : (Nat → Int32) → Prop), (∀ a, (∀ p, p < 128 → a p = -1) → KE a) → ∀ n i a, i ≤ 128 → 128 - i < n → (∀ p, p < i → a p = -1) → w_X0_chart_12 KE n (nI i) a := by
    intro KE hK n
    induction n with
    | zero => intro i a h1 h2; omega
    | succ n ih =>
      intro i a h1 h2 h3
      refine pk_le 128 i (fun hle => hK a (fun p hp => h3 p (by omega))) (fun hlt => ⟨pk_in i 128 (by omega), fun a2 e2 z hz => ?_⟩)
      rw [nI_clamp (show i < 2 ^ 31 by omega)] at e2
      rw [hz, nI_p1]
      refine ih (i + 1) a2 (by omega) (by omega) (fun p hp => ?_)
      by_cases e : p = i
      · rw [e2, e, pk_us]
      · rw [e2, pk_un e]; exact h3 p (by omega)
  have k1 : ∀ (KE : (Nat → Int32) → Prop) (s : Nat), s < st → (∀ a, (∀ p, p < 128 → a p = if p % 4 < co then fo (aiS E (cdF sg g) (p % 4) (p / 4)) (s + 1) (-1) else -1) → KE a) → ∀ n i a, i ≤ co → co - i < n → (∀ p, p < 128 → a p = if p % 4 < co then fo (aiS E (cdF sg g) (p % 4) (p / 4)) (if p % 4 < i then s + 1 else s) (-1) else -1) → w_X0_chart_45 KE en (nI st) (nI co) cd (nI s) n (nI i) a := by
    intro KE s hs hK n
    induction n with
    | zero => intro i a h1 h2; omega
    | succ n ih =>
      intro i a h1 h2 h3
      refine pk_le co i (fun hle => hK a (fun p hp => ?_)) (fun hlt => g_next hT hE hs hlt ⟨fun q z hz => ?_, fun q => ?_⟩)
      · rw [h3 p hp]
        by_cases r : p % 4 < co
        · rw [if_pos r, if_pos r, if_pos (by omega)]
        · rw [if_neg r, if_neg r]
      · rw [hz, nI_p1]
        refine ih (i + 1) a (by omega) (by omega) (fun p hp => ?_)
        rw [h3 p hp]
        by_cases r : p % 4 < co
        · rw [if_pos r, if_pos r]
          by_cases e : p % 4 = i
          · rw [if_neg (show ¬ p % 4 < i by omega), if_pos (show p % 4 < i + 1 by omega), fo_s]
            unfold aiS
            rw [e, if_pos q]
          · by_cases e2 : p % 4 < i
            · rw [if_pos e2, if_pos (show p % 4 < i + 1 by omega)]
            · rw [if_neg e2, if_neg (show ¬ p % 4 < i + 1 by omega)]
        · rw [if_neg r, if_neg r]
      · obtain ⟨t, ht, et⟩ := (hT.2.2 s i hs hlt).resolve_left q
        refine g_codeOf hC (by omega) ?_
        rw [et]
        refine g_codeOf hC (by omega) (g_chartWay (by omega) (fun a2 h5 z hz => ?_))
        rw [← et] at h5
        rw [hz, nI_p1]
        refine ih (i + 1) a2 (by omega) (by omega) (fun p hp => ?_)
        rw [h5 p hp, h3 p hp]
        by_cases r : p % 4 < co
        · rw [if_pos r, if_pos r]
          by_cases e : p % 4 = i
          · rw [if_neg (show ¬ p % 4 < i by omega), if_pos (show p % 4 < i + 1 by omega), fo_s]
            generalize hA : fo (aiS E (cdF sg g) (p % 4) (p / 4)) s (-1) = A
            unfold aiS
            rw [e, if_neg q]
            by_cases w : wayP (cdF sg g (nI s)) (cdF sg g (E s i)) (nI (p / 4))
            · rw [if_pos ⟨rfl, w⟩, if_pos w]
            · rw [if_neg (fun r => w r.2), if_neg w]
          · rw [if_neg (fun r => e r.1)]
            by_cases e2 : p % 4 < i
            · rw [if_pos e2, if_pos (show p % 4 < i + 1 by omega)]
            · rw [if_neg e2, if_neg (show ¬ p % 4 < i + 1 by omega)]
        · rw [if_neg r, if_neg r, if_neg (fun r2 => r (by rw [r2.1]; exact hlt))]
  have k2 : ∀ n i a, i ≤ st → st - i < n → (∀ p, p < 128 → a p = if p % 4 < co then fo (aiS E (cdF sg g) (p % 4) (p / 4)) i (-1) else -1) → w_X0_chart_34 (fun a => post a f1) en (nI st) (nI co) cd n (nI i) a := by
    intro n
    induction n with
    | zero => intro i a h1 h2; omega
    | succ n ih =>
      intro i a h1 h2 h3
      refine pk_le st i (fun hle => ?_) (fun hlt => ⟨5, k1 _ i hlt (fun a2 h5 z hz => ?_) 5 0 a (by omega) (by omega) (fun p hp => ?_)⟩)
      · rw [hf1]
        refine H a (fun p hp => ?_)
        rw [h3 p hp, show i = st by omega]
        rfl
      · rw [hz, nI_p1]
        exact ih (i + 1) a2 (by omega) (by omega) h5
      · rw [h3 p hp, if_neg (show ¬ p % 4 < 0 by omega)]
  exact ⟨129, k0 _ (fun a ha => ⟨7, k2 7 0 a (by omega) (by omega) (fun p hp => by
    rw [ha p hp]
    by_cases r : p % 4 < co
    · rw [if_pos r]; rfl
    · rw [if_neg r])⟩) 129 0 ac (by omega) (by omega) (fun p hp => absurd hp (by omega))⟩
/-- one bit of a code that is aimed at -/
def wtV (x a : Int32) : Int32 := if a = -1 then -1 else (a >>> (x &&& 31)) &&& 1
theorem g_at {post : Int32 → Prop} {ac : Nat → Int32} {x : Int32} {p : Nat} (hp : p < 128) (H : post (wtV x (ac p))) : wp_X0_at post ac x (nI p) := by
  have hv : vp_in (nI p) 128 := pk_in p 128 hp
  refine ⟨fun q => absurd q (nI_pos (by omega)), fun _ => pk_le 128 p (fun q => absurd q (by omega)) (fun _ => ⟨hv, ?_⟩)⟩
  rw [nI_clamp (show p < 2 ^ 31 by omega)]
  unfold wtV at H
  refine ⟨fun q => ?_, fun q => ⟨hv, ?_⟩⟩
  · rw [if_pos q] at H; exact H
  · rw [if_neg q] at H; exact H
def onW (E : Nat → Nat → Int32) (cf : Int32 → Int32) (s c : Nat) (k : Int32) : Prop := ¬ E s c = -1 ∧ wayP (cf (nI s)) (cf (E s c)) k
theorem r_isOnWay {post : Int32 → Prop} {en ss sg : Nat → Int32} {st co g s c : Nat} {E : Nat → Nat → Int32} {k : Int32} (hT : okE st co E) (hE : eqE st co en E) (hg : g ≤ 5) (hS : ∀ i, i < g → ss i = sg i) (hs : s < st) (hc : c < co) (H1 : onW E (cdF sg g) s c k → post 1) (H0 : ¬ onW E (cdF sg g) s c k → post 0) : wp_X10_isOnWay post en (nI g) ss k (nI s) (nI c) := by
  refine r_at hT hE hs hc ⟨fun q => H0 (fun r => r.1 q), fun q => r_codeOf hg hS (r_codeOf hg hS (r_codeOf hg hS ⟨fun w => H1 ⟨q, w⟩, fun w => H0 (fun r => w r.2)⟩))⟩
theorem r_wantedAt {post : Int32 → Prop} {en ss sg : Nat → Int32} {st co g p : Nat} {E : Nat → Nat → Int32} {x : Int32} (hT : okE st co E) (hE : eqE st co en E) (hg : g ≤ 5) (hS : ∀ i, i < g → ss i = sg i) (hp : p < 128) (H : post (wtV x (AIM st co E (cdF sg g) p))) : wp_X10_wantedAt post (nI st) (nI co) en (nI g) ss x (nI p) := by
  have h6 := hT.1
  have h4 := hT.2.1
  intro x3 hx3
  rw [show (4 : Int32) = nI 4 from rfl, pk_rem (show p < 2 ^ 31 by omega) (by omega) (by omega)] at hx3
  subst hx3
  unfold AIM at H
  by_cases hc : p % 4 < co
  · rw [if_pos hc] at H
    have key : ∀ n i, i ≤ st → st - i < n → w_X10_wantedAt_10 (fun x => post x) (nI st) (nI co) en (nI g) ss x (nI p) (nI (p % 4)) n (wtV x (fo (aiS E (cdF sg g) (p % 4) (p / 4)) i (-1))) (nI i) := by
      intro n
      induction n with
      | zero => intro i h1 h2; omega
      | succ n ih =>
        intro i h1 h2
        have hr := ih (i + 1)
        rw [fo_s] at hr
        refine pk_le st i (fun hle => by rw [show i = st by omega]; exact H) (fun hlt => pk_le co (p % 4) (fun q => absurd q (by omega)) (fun _ => ?_))
        have hr := hr (by omega) (by omega)
        revert hr
        generalize fo (aiS E (cdF sg g) (p % 4) (p / 4)) i (-1) = A
        intro hr
        unfold aiS at hr
        rw [show (4 : Int32) = nI 4 from rfl, pk_div (show p < 2 ^ 31 by omega) (by omega) (by omega)]
        refine r_isOnWay hT hE hg hS hlt hc (fun q => ⟨fun q1 => absurd q1 (by decide), fun _ => r_at hT hE hlt hc (r_codeOf hg hS (fun x4 e4 z hz => ?_))⟩) (fun q => ⟨fun _ z hz => ?_, fun q1 => absurd rfl q1⟩)
        · rw [if_neg q.1, if_pos q.2] at hr
          unfold wtV at hr
          rw [if_neg (cdF_ne hg)] at hr
          rw [hz, nI_p1, e4]
          exact hr
        · rw [hz, nI_p1]
          by_cases e : E i (p % 4) = -1
          · rw [if_pos e] at hr; exact hr
          · rw [if_neg e, if_neg (fun w => q ⟨e, w⟩)] at hr; exact hr
    exact ⟨7, key 7 0 (by omega) (by omega)⟩
  · rw [if_neg hc] at H
    have H : post (-1) := H
    exact ⟨1, pk_le st 0 (fun _ => H) (fun _ => pk_le co (p % 4) (fun _ => H) (fun q => absurd q hc))⟩
