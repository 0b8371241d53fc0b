/-! what both sides compute: folds, the table's marks, the partings -/
def fo {α : Type} (f : Nat → α → α) : Nat → α → α
  | 0, a => a
  | n + 1, a => f n (fo f n a)
theorem fo_s {α : Type} (f : Nat → α → α) (n : Nat) (a : α) : fo f (n + 1) a = f n (fo f n a) := rfl
theorem fo_le {α : Type} {f : Nat → α → α} {φ : α → Nat} {d : Nat} (h : ∀ i x, φ (f i x) ≤ φ x + d) (n : Nat) (a : α) : φ (fo f n a) ≤ φ a + n * d := by
  induction n with
  | zero => simp [fo]
  | succ n ih =>
    have := h n (fo f n a)
    rw [fo_s, Nat.succ_mul]
    omega
theorem fo_ind {α : Type} {f : Nat → α → α} {P : Nat → α → Prop} {n : Nat} {a : α} (h0 : P 0 a) (hs : ∀ i x, i < n → P i x → P (i + 1) (f i x)) : P n (fo f n a) := by
  have : ∀ m, m ≤ n → P m (fo f m a) := by
    intro m
    induction m with
    | zero => intro _; exact h0
    | succ m ih => intro hm; exact hs m _ (by omega) (ih (by omega))
  exact this n (Nat.le_refl n)
theorem fo_cg {α : Type} {f g : Nat → α → α} {n : Nat} {a : α} (h : ∀ i x, i < n → f i x = g i x) : fo f n a = fo g n a := by
  induction n with
  | zero => rfl
  | succ n ih => rw [fo_s, fo_s, ih (fun i x hi => h i x (by omega)), h n _ (by omega)]
theorem i32_le_of {x y : Int32} (h : y ≤ x) : (if y < x then y else x) = y ∧ (if x < y then y else x) = x := by
  rw [Int32.le_iff_toInt_le] at h
  by_cases q : y < x
  · rw [if_pos q]
    refine ⟨rfl, if_neg ?_⟩
    rw [Int32.lt_iff_toInt_lt] at q ⊢
    omega
  · rw [if_neg q]
    have e : x = y := by
      apply Int32.toInt_inj.mp
      rw [Int32.lt_iff_toInt_lt] at q
      omega
    subst e
    exact ⟨rfl, if_neg q⟩
theorem i32_nle_of {x y : Int32} (h : ¬ y ≤ x) : (if y < x then y else x) = x ∧ (if x < y then y else x) = y := by
  rw [Int32.le_iff_toInt_le] at h
  refine ⟨if_neg ?_, if_pos ?_⟩
  · rw [Int32.lt_iff_toInt_lt]; omega
  · rw [Int32.lt_iff_toInt_lt]; omega
/-! the marks of a table -/
def fo2 {α : Type} (f : Nat → Nat → α → α) (co st : Nat) (a : α) : α := fo (fun s a => fo (fun c a => f s c a) co a) st a
def mvS (E : Nat → Nat → Int32) (s c : Nat) (a : Int32) : Int32 := if E s c = -1 then a else a + 1
def sbS (E : Nat → Nat → Int32) (s c : Nat) (a : Int32) : Int32 := if E s c = -1 then a else if E s c = nI s then a + 1 else a
def amS (E : Nat → Nat → Int32) (s c : Nat) (a : Int32) : Int32 := if E s c = -1 then a else if a = -1 ∧ ¬ E (E s c).toNatClampNeg c = E s c then nI (4 * s + c) else a
def MVS (st co : Nat) (E : Nat → Nat → Int32) : Int32 := fo2 (mvS E) co st 0
def SBS (st co : Nat) (E : Nat → Nat → Int32) : Int32 := fo2 (sbS E) co st 0
def AMS (st co : Nat) (E : Nat → Nat → Int32) : Int32 := fo2 (amS E) co st (-1)
/-- entries by number -/
def eqE (st co : Nat) (en : Nat → Int32) (E : Nat → Nat → Int32) : Prop := ∀ s c, s < st → c < co → en (4 * s + c) = E s c
def okE (st co : Nat) (E : Nat → Nat → Int32) : Prop := st ≤ 6 ∧ co ≤ 4 ∧ ∀ s c, s < st → c < co → E s c = -1 ∨ ∃ t, t < st ∧ E s c = nI t
theorem okE.tab {st co : Nat} {en : Nat → Int32} {E : Nat → Nat → Int32} (h : okE st co E) (he : eqE st co en E) : tabM st co en := ⟨h.1, h.2.1, fun s c h1 h2 => by rw [he s c h1 h2]; exact h.2.2 s c h1 h2⟩
theorem g_next {post : Int32 → Prop} {en : Nat → Int32} {st co s c : Nat} {E : Nat → Nat → Int32} (hT : okE st co E) (hE : eqE st co en E) (hs : s < st) (hc : c < co) (H : post (E s c)) : wp_X2_next post en (nI st) (nI co) (nI s) (nI c) := by
  have h6 := hT.1
  have h4 := hT.2.1
  refine h_next h6 h4 (fun q => absurd ⟨⟨s, hs, rfl⟩, ⟨c, hc, rfl⟩⟩ q) (fun j k hj hk e1 e2 => ?_)
  have a : s = j := nI_ij (by omega) (by omega) e1
  have b : c = k := nI_ij (by omega) (by omega) e2
  subst a
  subst b
  rw [hE s c hs hc]
  exact H
theorem r_at {post : Int32 → Prop} {en : Nat → Int32} {st co s c : Nat} {E : Nat → Nat → Int32} (hT : okE st co E) (hE : eqE st co en E) (hs : s < st) (hc : c < co) (H : post (E s c)) : wp_X10_entryAt post en (nI s) (nI c) := by
  have h6 := hT.1
  have h4 := hT.2.1
  refine e_at (by omega) ?_
  rw [hE s c hs hc]
  exact H
theorem g_inspectEntry {post : Int32 → Int32 → Int32 → Prop} {en : Nat → Int32} {st co s c : Nat} {E : Nat → Nat → Int32} {x y z : Int32} (hT : okE st co E) (hE : eqE st co en E) (hs : s < st) (hc : c < co) (H : post (mvS E s c x) (sbS E s c y) (amS E s c z)) : wp_X2_inspectEntry post en (nI st) (nI co) x y z (nI s) (nI c) := by
  have h6 := hT.1
  refine g_next hT hE hs hc ?_
  unfold mvS sbS amS at H
  rcases hT.2.2 s c hs hc with e | ⟨t, ht, e⟩
  · rw [if_pos e, if_pos e, if_pos e] at H
    exact ⟨fun _ => H, fun q => absurd e q⟩
  · have hn : ¬ E s c = -1 := by rw [e]; exact m1_ne (by omega)
    rw [if_neg hn, if_neg hn, if_neg hn] at H
    have J : ∀ w, (post (x + 1) w (if z = -1 ∧ ¬ E (E s c).toNatClampNeg c = E s c then nI (4 * s + c) else z)) → j_X2_inspectEntry_38 post en (nI st) (nI co) (x + 1) w z (nI s) (nI c) (E s c) := by
      intro w hw
      refine ⟨fun hz => ?_, fun hz => ?_⟩
      · rw [e]
        refine g_next hT hE ht hc ?_
        rw [e, nI_clamp (show t < 2 ^ 31 by omega)] at hw
        refine ⟨fun q => ?_, fun q f hf => ?_⟩
        · rw [if_neg (fun r => r.2 q)] at hw; exact hw
        · rw [if_pos ⟨hz, q⟩] at hw
          rw [hf, nI4]
          exact hw
      · rw [if_neg (fun r => hz r.1)] at hw
        exact hw
    refine ⟨fun q => absurd q hn, fun _ f hf => ⟨fun q f2 hf2 => ?_, fun q => ?_⟩⟩
    · rw [hf, hf2]
      rw [if_pos q] at H
      exact J _ H
    · rw [hf]
      rw [if_neg q] at H
      exact J _ H
theorem g_inspect {post : Int32 → Int32 → Int32 → Int32 → Prop} {en : Nat → Int32} {st co : Nat} {E : Nat → Nat → Int32} {a b c d : Int32} (hT : okE st co E) (hE : eqE st co en E) (H1 : AMS st co E = -1 → post (MVS st co E) (SBS st co E) (AMS st co E) 1) (H0 : ¬ AMS st co E = -1 → post (MVS st co E) (SBS st co E) (AMS st co E) 0) : wp_X2_inspect post en (nI st) (nI co) a b c d := by
  have h6 := hT.1
  have h4 := hT.2.1
  have k1 : ∀ (KE : Int32 → Int32 → Int32 → Prop) (s : Nat) (x y z : Int32), s < st → KE (fo (mvS E s) co x) (fo (sbS E s) co y) (fo (amS E s) co z) → ∀ n i, i ≤ co → co - i < n → w_X2_inspect_27 KE en (nI st) (nI co) (nI s) n (nI i) (fo (mvS E s) i x) (fo (sbS E s) i y) (fo (amS E s) i z) := by
    intro KE s x y z hs hK n
    induction n with
    | zero => intro i h1 h2; omega
    | succ n ih =>
      intro i h1 h2
      refine pk_le co i (fun hle => ?_) (fun hlt => g_inspectEntry hT hE hs hlt (fun z hz => ?_))
      · rw [show i = co by omega]; exact hK
      · rw [hz, nI_p1 i]; exact ih (i + 1) (by omega) (by omega)
  have k2 : ∀ n i, i ≤ st → st - i < n → w_X2_inspect_17 (fun (ymoves_7 : Int32) (ystables_7 : Int32) (yamiss_7 : Int32) => ((yamiss_7 = ((-1) : Int32) → post ymoves_7 ystables_7 yamiss_7 (1 : Int32)) ∧ (¬ yamiss_7 = ((-1) : Int32) → post ymoves_7 ystables_7 yamiss_7 (0 : Int32)))) en (nI st) (nI co) n (nI i) (fo2 (mvS E) co i 0) (fo2 (sbS E) co i 0) (fo2 (amS E) co i (-1)) := by
    intro n
    induction n with
    | zero => intro i h1 h2; omega
    | succ n ih =>
      intro i h1 h2
      refine pk_le st i (fun hle => ?_) (fun hlt => ⟨5, k1 _ i _ _ _ hlt (fun z hz => by rw [hz, nI_p1 i]; exact ih (i + 1) (by omega) (by omega)) 5 0 (by omega) (by omega)⟩)
      rw [show i = st by omega]
      exact ⟨H1, H0⟩
  exact ⟨7, k2 7 0 (by omega) (by omega)⟩
theorem am_st {E : Nat → Nat → Int32} {s c : Nat} {a : Int32} (h : ¬ a = -1) : amS E s c a = a := by
  unfold amS
  split
  · rfl
  · exact if_neg (fun q => h q.1)
theorem am_fo {E : Nat → Nat → Int32} {s : Nat} {a : Int32} (h : ¬ a = -1) (n : Nat) : fo (amS E s) n a = a := by
  induction n with
  | zero => rfl
  | succ n ih => rw [fo_s, ih, am_st h]
/-- once it is found it stays -/
theorem am_stay {st co s i : Nat} {E : Nat → Nat → Int32} (hs : s < st) (hi : i < co) (h : ¬ fo (amS E s) (i + 1) (fo2 (amS E) co s (-1)) = -1) : AMS st co E = fo (amS E s) (i + 1) (fo2 (amS E) co s (-1)) := by
  have a : ∀ m, i + 1 ≤ m → fo (amS E s) m (fo2 (amS E) co s (-1)) = fo (amS E s) (i + 1) (fo2 (amS E) co s (-1)) := by
    intro m hm
    induction m with
    | zero => omega
    | succ m ih =>
      by_cases e : m = i
      · rw [e]
      · rw [fo_s, ih (by omega), am_st h]
  have b : ∀ m, s + 1 ≤ m → fo2 (amS E) co m (-1) = fo (amS E s) (i + 1) (fo2 (amS E) co s (-1)) := by
    intro m hm
    induction m with
    | zero => omega
    | succ m ih =>
      by_cases e : m = s
      · rw [e]; exact a co hi
      · have := ih (by omega)
        show fo (amS E m) co (fo2 (amS E) co m (-1)) = _
        rw [this, am_fo h]
  exact b st hs
theorem r_amiss {post : Int32 → Prop} {en : Nat → Int32} {st co : Nat} {E : Nat → Nat → Int32} (hT : okE st co E) (hE : eqE st co en E) (H : post (AMS st co E)) : wp_X10_amiss post (nI st) (nI co) en := by
  have h6 := hT.1
  have h4 := hT.2.1
  have k1 : ∀ (KE : Prop) (s : Nat), s < st → fo2 (amS E) co s (-1) = -1 → (fo2 (amS E) co (s + 1) (-1) = -1 → KE) → ∀ n i, i ≤ co → co - i < n → fo (amS E s) i (fo2 (amS E) co s (-1)) = -1 → w_X10_amiss_12 post KE (nI co) en (nI s) n (nI i) := by
    intro KE s hs h0 hK n
    induction n with
    | zero => intro i h1 h2; omega
    | succ n ih =>
      intro i h1 h2 h3
      refine pk_le co i (fun hle => hK ?_) (fun hlt => r_at hT hE hs hlt ?_)
      · rw [show i = co by omega] at h3; exact h3
      · have hrec : amS E s i (-1) = -1 → ∀ b, b = nI i + 1 → w_X10_amiss_12 post KE (nI co) en (nI s) n b := fun hq b hb => by rw [hb, nI_p1 i]; exact ih (i + 1) (by omega) (by omega) (by rw [fo_s, h3]; exact hq)
        rcases hT.2.2 s i hs hlt with e | ⟨t, ht, e⟩
        · exact ⟨fun _ => hrec (by unfold amS; rw [if_pos e]), fun q => absurd e q⟩
        · have hn : ¬ E s i = -1 := by rw [e]; exact m1_ne (by omega)
          refine ⟨fun q => absurd q hn, fun _ => ?_⟩
          rw [e]
          refine r_at hT hE ht hlt ?_
          have ec : (E s i).toNatClampNeg = t := by rw [e]; exact nI_clamp (by omega)
          refine ⟨fun q => hrec ?_, fun q => ?_⟩
          · unfold amS; rw [if_neg hn, ec, if_neg (fun r => r.2 (by rw [e]; exact q))]
          · have e5 : fo (amS E s) (i + 1) (fo2 (amS E) co s (-1)) = nI (4 * s + i) := by
              rw [fo_s, h3]; unfold amS; rw [if_neg hn, ec, if_pos ⟨rfl, by rw [e]; exact q⟩]
            rw [am_stay hs hlt (by rw [e5]; exact m1_ne (by omega)), e5] at H
            rw [nI4]
            exact H
  have k2 : ∀ n i, i ≤ st → st - i < n → fo2 (amS E) co i (-1) = -1 → w_X10_amiss_2 post (post (-1)) (nI st) (nI co) en n (nI i) := by
    intro n
    induction n with
    | zero => intro i h1 h2; omega
    | succ n ih =>
      intro i h1 h2 h3
      refine pk_le st i (fun hle => ?_) (fun hlt => ⟨5, k1 _ i hlt h3 (fun hq b hb => by rw [hb, nI_p1 i]; exact ih (i + 1) (by omega) (by omega) hq) 5 0 (by omega) (by omega) h3⟩)
      rw [show i = st by omega] at h3
      unfold AMS at H
      rw [h3] at H
      exact H
  exact ⟨7, k2 7 0 (by omega) (by omega) rfl⟩
/-- the table is there, and nothing is amiss -/
def NRM (st co : Nat) (E : Nat → Nat → Int32) : Prop := 0 < st ∧ AMS st co E = -1
theorem r_isNormal {post : Int32 → Prop} {en : Nat → Int32} {st co : Nat} {E : Nat → Nat → Int32} (hT : okE st co E) (hE : eqE st co en E) (H1 : NRM st co E → post 1) (H0 : ¬ NRM st co E → post 0) : wp_X10_isNormal post (nI st) (nI co) en := by
  have h6 := hT.1
  exact pk_le st 0 (fun h => H0 (fun q => absurd q.1 (by omega))) (fun h => r_amiss hT hE ⟨fun e => H1 ⟨h, e⟩, fun e => H0 (fun q => e q.2)⟩)
theorem r_movesMany0 {post : Int32 → Prop} {en : Nat → Int32} {st co : Nat} {E : Nat → Nat → Int32} (hT : okE st co E) (hE : eqE st co en E) (H : post (MVS st co E)) : wp_X10_movesMany post (nI st) (nI co) en 0 := by
  have h6 := hT.1
  have h4 := hT.2.1
  have k1 : ∀ (KE : Int32 → Prop) (s : Nat) (x : Int32), s < st → KE (fo (mvS E s) co x) → ∀ n i, i ≤ co → co - i < n → w_X10_movesMany_15 KE (nI co) en 0 (nI s) n (fo (mvS E s) i x) (nI i) := by
    intro KE s x hs hK n
    induction n with
    | zero => intro i h1 h2; omega
    | succ n ih =>
      intro i h1 h2
      refine pk_le co i (fun hle => by rw [show i = co by omega]; exact hK) (fun hlt => r_at hT hE hs hlt ?_)
      have hrec : ∀ a b, a = mvS E s i (fo (mvS E s) i x) → b = nI i + 1 → w_X10_movesMany_15 KE (nI co) en 0 (nI s) n a b := fun a b ha hb => by rw [ha, hb, nI_p1 i]; exact ih (i + 1) (by omega) (by omega)
      refine ⟨fun q a ha b => hrec a b ?_, fun q => ⟨fun _ a ha b => hrec a b ?_, fun q2 => absurd rfl q2⟩⟩
      · rw [ha]; unfold mvS; rw [if_pos q, Int32.add_zero]
      · rw [ha]; unfold mvS; rw [if_neg q]
  have k2 : ∀ n i, i ≤ st → st - i < n → w_X10_movesMany_4 (fun x => post x) (nI st) (nI co) en 0 n (fo2 (mvS E) co i 0) (nI i) := by
    intro n
    induction n with
    | zero => intro i h1 h2; omega
    | succ n ih =>
      intro i h1 h2
      exact pk_le st i (fun hle => by rw [show i = st by omega]; exact H) (fun hlt => ⟨5, k1 _ i _ hlt (fun b hb => by rw [hb, nI_p1 i]; exact ih (i + 1) (by omega) (by omega)) 5 0 (by omega) (by omega)⟩)
  exact ⟨7, k2 7 0 (by omega) (by omega)⟩
theorem r_movesMany1 {post : Int32 → Prop} {en : Nat → Int32} {st co : Nat} {E : Nat → Nat → Int32} (hT : okE st co E) (hE : eqE st co en E) (H : post (SBS st co E)) : wp_X10_movesMany post (nI st) (nI co) en 1 := by
  have h6 := hT.1
  have h4 := hT.2.1
  have k1 : ∀ (KE : Int32 → Prop) (s : Nat) (x : Int32), s < st → KE (fo (sbS E s) co x) → ∀ n i, i ≤ co → co - i < n → w_X10_movesMany_15 KE (nI co) en 1 (nI s) n (fo (sbS E s) i x) (nI i) := by
    intro KE s x hs hK n
    induction n with
    | zero => intro i h1 h2; omega
    | succ n ih =>
      intro i h1 h2
      refine pk_le co i (fun hle => by rw [show i = co by omega]; exact hK) (fun hlt => r_at hT hE hs hlt ?_)
      have hrec : ∀ a b, a = sbS E s i (fo (sbS E s) i x) → b = nI i + 1 → w_X10_movesMany_15 KE (nI co) en 1 (nI s) n a b := fun a b ha hb => by rw [ha, hb, nI_p1 i]; exact ih (i + 1) (by omega) (by omega)
      refine ⟨fun q a ha b => hrec a b ?_, fun q => ⟨fun q2 => absurd q2 (by decide), fun _ => ⟨fun q3 a ha b => hrec a b ?_, fun q3 a ha b => hrec a b ?_⟩⟩⟩
      · rw [ha]; unfold sbS; rw [if_pos q, Int32.add_zero]
      · rw [ha]; unfold sbS; rw [if_neg q, if_pos q3]
      · rw [ha]; unfold sbS; rw [if_neg q, if_neg q3, Int32.add_zero]
  have k2 : ∀ n i, i ≤ st → st - i < n → w_X10_movesMany_4 (fun x => post x) (nI st) (nI co) en 1 n (fo2 (sbS E) co i 0) (nI i) := by
    intro n
    induction n with
    | zero => intro i h1 h2; omega
    | succ n ih =>
      intro i h1 h2
      exact pk_le st i (fun hle => by rw [show i = st by omega]; exact H) (fun hlt => ⟨5, k1 _ i _ hlt (fun b hb => by rw [hb, nI_p1 i]; exact ih (i + 1) (by omega) (by omega)) 5 0 (by omega) (by omega)⟩)
  exact ⟨7, k2 7 0 (by omega) (by omega)⟩
