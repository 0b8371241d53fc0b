/-! changes and wild moves -/
def pcI (x : Int32) : Int32 := fo (fun k a => a + ((x >>> (nI k &&& 31)) &&& (1 : Int32))) 8 0
theorem r_ones {post : Int32 → Prop} {x : Int32} (H : post (pcI x)) : wp_X10_ones post x := by
  have key : ∀ n i, i ≤ 8 → 8 - i < n → w_X10_ones_4 (fun a => post a) x n (fo (fun k a => a + ((x >>> (nI k &&& 31)) &&& (1 : Int32))) i 0) (nI i) := by
    intro n
    induction n with
    | zero => intro i h1 h2; omega
    | succ n ih =>
      intro i h1 h2
      refine pk_le 8 i (fun hle => by rw [show i = 8 by omega]; exact H) (fun h a ha b hb => ?_)
      rw [hb, nI_p1, ha]
      exact ih (i + 1) (by omega) (by omega)
  exact ⟨9, key 9 0 (by omega) (by omega)⟩
def bcA (x0 : Int32) : Int32 := x0 - (((x0.toUInt32 >>> ((1 : Int32).toUInt32 &&& Int32.toUInt32 31)).toInt32) &&& (1431655765 : Int32))
def bcB (x0 : Int32) : Int32 := (x0 &&& (858993459 : Int32)) + (((x0.toUInt32 >>> ((2 : Int32).toUInt32 &&& Int32.toUInt32 31)).toInt32) &&& (858993459 : Int32))
def bcC (x0 : Int32) : Int32 := (x0 + ((x0.toUInt32 >>> ((4 : Int32).toUInt32 &&& Int32.toUInt32 31)).toInt32)) &&& (252645135 : Int32)
def bcD (x0 : Int32) : Int32 := x0 + ((x0.toUInt32 >>> ((8 : Int32).toUInt32 &&& Int32.toUInt32 31)).toInt32)
def bcE (x0 : Int32) : Int32 := x0 + ((x0.toUInt32 >>> ((16 : Int32).toUInt32 &&& Int32.toUInt32 31)).toInt32)
theorem bc_eq : ∀ m, m < 128 → bcE (bcD (bcC (bcB (bcA (nI m))))) &&& (63 : Int32) = pcI (nI m) := by decide +kernel
theorem g_bitCount {post : Int32 → Prop} {m : Nat} (hm : m < 128) (H : post (pcI (nI m))) : wp_J6_bitCount post (nI m) := by
  intro a ea b eb c ec d ed e ee
  rw [← bc_eq m hm] at H
  rw [ee, ed, ec, eb, ea]
  exact H
theorem pc_le : ∀ m, m < 128 → pcI (nI m) = nI (pcI (nI m)).toNatClampNeg ∧ (pcI (nI m)).toNatClampNeg ≤ 8 := by decide +kernel
theorem pc_nn {m : Nat} (h : m < 128) : ∃ n, n ≤ 8 ∧ pcI (nI m) = nI n := ⟨_, (pc_le m h).2, (pc_le m h).1⟩
theorem cd_x {sg : Nat → Int32} {g : Nat} {a b : Int32} (hg : g ≤ 5) : ∃ m, m < 32 ∧ cdF sg g a ^^^ cdF sg g b = nI m := by
  obtain ⟨m, hm, e⟩ := cdF_lt (sg := sg) (s := a) hg
  obtain ⟨n, hn, e2⟩ := cdF_lt (sg := sg) (s := b) hg
  have := p2_5 hg
  refine ⟨m ^^^ n, ?_, by rw [e, e2, nI_xor]⟩
  exact Nat.xor_lt_two_pow (n := 5) (by omega) (by omega)
theorem g_changesBetween {post : Int32 → Prop} {sg cd : Nat → Int32} {g a b : Nat} (hg : g ≤ 5) (hC : cdOK sg cd g) (ha : a < 6) (hb : b < 6) (H : post (pcI (cdF sg g (nI a) ^^^ cdF sg g (nI b)))) : wp_X7_changesBetween post cd (nI a) (nI b) := by
  refine g_codeOf hC ha (g_codeOf hC hb ?_)
  obtain ⟨m, hm, e⟩ := cd_x (sg := sg) (a := nI a) (b := nI b) hg
  rw [e] at H ⊢
  exact g_bitCount (by omega) H
def mcS (E : Nat → Nat → Int32) (cf : Int32 → Int32) (s c : Nat) (a : Int32) : Int32 := if E s c = -1 then a else if a < pcI (cf (nI s) ^^^ cf (E s c)) then pcI (cf (nI s) ^^^ cf (E s c)) else a
def MCF (st co : Nat) (E : Nat → Nat → Int32) (cf : Int32 → Int32) : Int32 := fo2 (mcS E cf) co st 0
theorem mc_nn {E : Nat → Nat → Int32} {sg : Nat → Int32} {g s c : Nat} {a : Int32} (hg : g ≤ 5) (h : ∃ n, n ≤ 8 ∧ a = nI n) : ∃ n, n ≤ 8 ∧ mcS E (cdF sg g) s c a = nI n := by
  unfold mcS
  split
  · exact h
  · split
    · obtain ⟨m, hm, e⟩ := cd_x (sg := sg) (a := nI s) (b := E s c) hg
      rw [e]
      exact pc_nn (by omega)
    · exact h
theorem g_mostChanges {post : Int32 → Prop} {en cd sg : Nat → Int32} {st co g : Nat} {E : Nat → Nat → Int32} (hT : okE st co E) (hE : eqE st co en E) (hg : g ≤ 5) (hC : cdOK sg cd g) (H : post (MCF st co E (cdF sg g))) : wp_X7_mostChanges post en (nI st) (nI co) cd := by
  have h6 := hT.1
  have h4 := hT.2.1
  have k1 : ∀ (KE : Int32 → Prop) (s : Nat) (x : Int32), s < st → KE (fo (mcS E (cdF sg g) s) co x) → ∀ n i, i ≤ co → co - i < n → w_X7_mostChanges_15 KE en (nI st) (nI co) cd (nI s) n (fo (mcS E (cdF sg g) s) i x) (nI i) := by
    intro KE s x hs hK n
    induction n with
    | zero => intro i h1 h2; omega
    | succ n ih =>
      intro i h1 h2
      have hr := ih (i + 1)
      rw [fo_s] at hr
      refine pk_le co i (fun hle => by rw [show i = co by omega]; exact hK) (fun hlt => g_next hT hE hs hlt ?_)
      have hr := hr (by omega) (by omega)
      revert hr
      generalize fo (mcS E (cdF sg g) s) i x = A
      intro hr
      unfold mcS at hr
      refine ⟨fun q z hz => ?_, fun q => ?_⟩
      · rw [if_pos q] at hr
        rw [hz, nI_p1]
        exact hr
      · rw [if_neg q] at hr
        obtain ⟨t, ht, et⟩ := (hT.2.2 s i hs hlt).resolve_left q
        rw [et] at hr ⊢
        refine g_changesBetween hg hC (by omega) (by omega) (fun a ha z hz => ?_)
        rw [hz, nI_p1, ha]
        exact hr
  have k2 : ∀ n i, i ≤ st → st - i < n → w_X7_mostChanges_4 (fun x => post x) en (nI st) (nI co) cd n (fo2 (mcS E (cdF sg g)) co i 0) (nI i) := by
    intro n
    induction n with
    | zero => intro i h1 h2; omega
    | succ n ih =>
      intro i h1 h2
      exact pk_le st i (fun hle => by rw [show i = st by omega]; exact H) (fun hlt => ⟨5, k1 _ i _ hlt (fun b hb => by rw [hb, nI_p1 i]; exact ih (i + 1) (by omega) (by omega)) 5 0 (by omega) (by omega)⟩)
  exact ⟨7, k2 7 0 (by omega) (by omega)⟩
theorem i32_nle_lt {a b : Int32} (h : ¬ a ≤ b) : b < a := by
  rw [Int32.le_iff_toInt_le] at h
  rw [Int32.lt_iff_toInt_lt]
  omega
theorem i32_le_nlt {a b : Int32} (h : a ≤ b) : ¬ b < a := by
  rw [Int32.le_iff_toInt_le] at h
  rw [Int32.lt_iff_toInt_lt]
  omega
theorem r_mostChange {post : Int32 → Prop} {en ss sg : Nat → Int32} {st co g : Nat} {E : Nat → Nat → Int32} (hT : okE st co E) (hE : eqE st co en E) (hg : g ≤ 5) (hS : ∀ i, i < g → ss i = sg i) (H : post (MCF st co E (cdF sg g))) : wp_X10_mostChange post (nI st) (nI co) en (nI g) ss := by
  have h6 := hT.1
  have h4 := hT.2.1
  have k1 : ∀ (KE : Int32 → Prop) (s : Nat) (x : Int32), s < st → (∃ n, n ≤ 8 ∧ x = nI n) → KE (fo (mcS E (cdF sg g) s) co x) → ∀ n i, i ≤ co → co - i < n → w_X10_mostChange_14 KE (nI co) en (nI g) ss (nI s) n (fo (mcS E (cdF sg g) s) i x) (nI i) := by
    intro KE s x hs hx hK n
    induction n with
    | zero => intro i h1 h2; omega
    | succ n ih =>
      intro i h1 h2
      have hr := ih (i + 1)
      rw [fo_s] at hr
      have hA : ∃ n, n ≤ 8 ∧ fo (mcS E (cdF sg g) s) i x = nI n := fo_ind (P := fun _ a => ∃ n, n ≤ 8 ∧ a = nI n) hx (fun j a _ h => mc_nn hg h)
      refine pk_le co i (fun hle => by rw [show i = co by omega]; exact hK) (fun hlt => r_at hT hE hs hlt ?_)
      have hr := hr (by omega) (by omega)
      revert hr hA
      generalize fo (mcS E (cdF sg g) s) i x = A
      intro hA hr
      unfold mcS at hr
      refine ⟨fun q => ⟨fun _ z hz => ?_, fun q2 => ?_⟩, fun q => r_codeOf hg hS (r_codeOf hg hS (r_ones ⟨fun q2 z hz => ?_, fun q2 z hz => ?_⟩))⟩
      · rw [if_pos q] at hr
        rw [hz, nI_p1]
        exact hr
      · exfalso
        obtain ⟨n, hn, e⟩ := hA
        rw [e] at q2
        exact q2 (nI_pos' (by omega))
      · rw [if_neg q, if_neg (i32_le_nlt q2)] at hr
        rw [hz, nI_p1]
        exact hr
      · rw [if_neg q, if_pos (i32_nle_lt q2)] at hr
        rw [hz, nI_p1]
        exact hr
  have k2 : ∀ n i, i ≤ st → st - i < n → w_X10_mostChange_4 (fun x => post x) (nI st) (nI co) en (nI g) ss n (fo2 (mcS E (cdF sg g)) co i 0) (nI i) := by
    intro n
    induction n with
    | zero => intro i h1 h2; omega
    | succ n ih =>
      intro i h1 h2
      have hA : ∃ n, n ≤ 8 ∧ fo2 (mcS E (cdF sg g)) co i 0 = nI n := fo_ind (f := fun s a => fo (fun c a => mcS E (cdF sg g) s c a) co a) (P := fun _ a => ∃ n, n ≤ 8 ∧ a = nI n) ⟨0, by omega, rfl⟩ (fun j a _ h => fo_ind (P := fun _ a => ∃ n, n ≤ 8 ∧ a = nI n) h (fun j a _ h => mc_nn hg h))
      exact pk_le st i (fun hle => by rw [show i = st by omega]; exact H) (fun hlt => ⟨5, k1 _ i _ hlt hA (fun b hb => by rw [hb, nI_p1 i]; exact ih (i + 1) (by omega) (by omega)) 5 0 (by omega) (by omega)⟩)
  exact ⟨7, k2 7 0 (by omega) (by omega)⟩
/-! wild moves -/
abbrev mtP (a b c d : Int32) : Prop := ((a ^^^ c) &&& (((a ^^^ b) ||| (c ^^^ d)) ^^^ (-1))) = 0
theorem bb1 : ∀ A B C D : Bool, ((A ^^ C) = true → ((A ^^ B) || (C ^^ D)) = true) → ((A ^^ ((A ^^ C) && (A ^^ B))) ^^ C) = true → (C ^^ D) = true := by decide
theorem bb2 : ∀ A B C : Bool, ((A ^^ ((A ^^ C) && (A ^^ B))) ^^ A) = true → (A ^^ B) = true := by decide
theorem bb3 : ∀ A B C D K : Bool, ((K ^^ C) = true → (C ^^ D) = true) → ((K ^^ A) = true → (A ^^ B) = true) → (A ^^ C) = true → ((A ^^ B) || (C ^^ D)) = true := by decide
theorem mt_iff {g : Nat} {a b c d : Int32} (ha : ∃ m, m < 2 ^ g ∧ a = nI m) (hb : ∃ m, m < 2 ^ g ∧ b = nI m) (hc : ∃ m, m < 2 ^ g ∧ c = nI m) : mtP a b c d ↔ ∃ k, k < 2 ^ g ∧ wayP c d (nI k) ∧ wayP a b (nI k) := by
  constructor
  · intro h
    have h := sub_iff.mp h
    obtain ⟨ma, ha, ea⟩ := ha
    obtain ⟨mb, hb, eb⟩ := hb
    obtain ⟨mc, hc, ec⟩ := hc
    have ek : nI (ma ^^^ ((ma ^^^ mc) &&& (ma ^^^ mb))) = a ^^^ ((a ^^^ c) &&& (a ^^^ b)) := by rw [ea, eb, ec, nI_xor, nI_xor, nI_and, nI_xor]
    refine ⟨ma ^^^ ((ma ^^^ mc) &&& (ma ^^^ mb)), Nat.xor_lt_two_pow ha (Nat.and_lt_two_pow _ (Nat.xor_lt_two_pow ha hb)), ?_, ?_⟩
    · rw [ek]
      refine sub_iff.mpr (fun i hi q => ?_)
      have h1 := h i hi
      rw [bq_xor, bq_or, bq_xor, bq_xor] at h1
      rw [bq_xor, bq_xor, bq_and, bq_xor, bq_xor] at q
      rw [bq_xor]
      exact bb1 _ _ _ _ h1 q
    · rw [ek]
      refine sub_iff.mpr (fun i hi q => ?_)
      rw [bq_xor, bq_xor, bq_and, bq_xor, bq_xor] at q
      rw [bq_xor]
      exact bb2 _ _ _ q
  · rintro ⟨k, _, h1, h2⟩
    have h1 := sub_iff.mp h1
    have h2 := sub_iff.mp h2
    refine sub_iff.mpr (fun i hi q => ?_)
    have h1 := h1 i hi
    have h2 := h2 i hi
    rw [bq_xor, bq_xor] at h1 h2
    rw [bq_xor] at q
    rw [bq_or, bq_xor, bq_xor]
    exact bb3 _ _ _ _ _ h1 h2 q
def WLD (st : Nat) (E : Nat → Nat → Int32) (cf : Int32 → Int32) (s c : Nat) : Prop := ¬ E s c = -1 ∧ ∃ r, r < st ∧ ¬ E r c = -1 ∧ ¬ E r c = E s c ∧ mtP (cf (nI s)) (cf (E s c)) (cf (nI r)) (cf (E r c))
theorem g_waysMeet {post : Int32 → Prop} {sg cd : Nat → Int32} {g a b c d : Nat} (hC : cdOK sg cd g) (ha : a < 6) (hb : b < 6) (hc : c < 6) (hd : d < 6) (H1 : mtP (cdF sg g (nI a)) (cdF sg g (nI b)) (cdF sg g (nI c)) (cdF sg g (nI d)) → post 1) (H0 : ¬ mtP (cdF sg g (nI a)) (cdF sg g (nI b)) (cdF sg g (nI c)) (cdF sg g (nI d)) → post 0) : wp_X7_waysMeet post cd (nI a) (nI b) (nI c) (nI d) := by
  refine g_codeOf hC ha (g_codeOf hC hb (g_codeOf hC hc (g_codeOf hC hd (fun x hx => g_codeOf hC ha (g_codeOf hC hc ?_)))))
  rw [hx]
  exact ⟨H1, H0⟩
theorem g_isWild {post : Int32 → Prop} {en cd sg : Nat → Int32} {st co g s c : Nat} {E : Nat → Nat → Int32} (hT : okE st co E) (hE : eqE st co en E) (hC : cdOK sg cd g) (hs : s < st) (hc : c < co) (H1 : WLD st E (cdF sg g) s c → post 1) (H0 : ¬ WLD st E (cdF sg g) s c → post 0) : wp_X7_isWild post en (nI st) (nI co) cd (nI s) (nI c) := by
  have h6 := hT.1
  refine g_next hT hE hs hc ⟨fun q => H0 (fun r => r.1 q), fun q => ⟨7, ?_⟩⟩
  obtain ⟨t, ht, et⟩ := (hT.2.2 s c hs hc).resolve_left q
  have key : ∀ n i, i ≤ st → st - i < n → (∀ r, r < i → ¬ (¬ E r c = -1 ∧ ¬ E r c = E s c ∧ mtP (cdF sg g (nI s)) (cdF sg g (E s c)) (cdF sg g (nI r)) (cdF sg g (E r c)))) → w_X7_isWild_19 post (post (0 : Int32)) en (nI st) (nI co) cd (nI s) (nI c) (E s c) n (nI i) := by
    intro n
    induction n with
    | zero => intro i h1 h2; omega
    | succ n ih =>
      intro i h1 h2 h3
      refine pk_le st i (fun hle => H0 (fun w => ?_)) (fun hlt => g_next hT hE hlt hc ?_)
      · obtain ⟨_, r, r1, r2⟩ := w
        exact h3 r (by omega) r2
      · have hrec : ¬ (¬ E i c = -1 ∧ ¬ E i c = E s c ∧ mtP (cdF sg g (nI s)) (cdF sg g (E s c)) (cdF sg g (nI i)) (cdF sg g (E i c))) → ∀ b, b = nI i + 1 → w_X7_isWild_19 post (post (0 : Int32)) en (nI st) (nI co) cd (nI s) (nI c) (E s c) n b := fun hq b hb => by
          rw [hb, nI_p1 i]
          refine ih (i + 1) (by omega) (by omega) (fun r hr => ?_)
          by_cases e : r = i
          · rw [e]; exact hq
          · exact h3 r (by omega)
        refine ⟨fun q1 => hrec (fun w => w.1 q1), fun q1 => ⟨fun q2 => hrec (fun w => w.2.1 q2), fun q2 => ?_⟩⟩
        obtain ⟨u, hu, eu⟩ := (hT.2.2 i c hlt hc).resolve_left q1
        have hw : wp_X7_waysMeet (fun (r_9 : Int32) => ((r_9 = 0 → (∀ x5_11 : Int32, x5_11 = nI i + (1 : Int32) → w_X7_isWild_19 post (post (0 : Int32)) en (nI st) (nI co) cd (nI s) (nI c) (E s c) n x5_11)) ∧ (¬ r_9 = 0 → post (1 : Int32)))) cd (nI s) (nI t) (nI i) (nI u) := by
          refine g_waysMeet hC (by omega) (by omega) (by omega) (by omega) (fun w => ⟨fun q3 => absurd q3 (by decide), fun _ => H1 ⟨q, i, hlt, q1, q2, ?_⟩⟩) (fun w => ⟨fun _ => hrec (fun w2 => w ?_), fun q3 => absurd rfl q3⟩)
          · rw [et, eu]; exact w
          · have := w2.2.2
            rw [et, eu] at this
            exact this
        rw [← et, ← eu] at hw
        exact hw
  exact key 7 0 (by omega) (by omega) (fun r hr => absurd hr (by omega))
theorem r_areMeeting {post : Int32 → Prop} {en ss sg : Nat → Int32} {st co g r s c : Nat} {E : Nat → Nat → Int32} (hT : okE st co E) (hE : eqE st co en E) (hg : g ≤ 5) (hS : ∀ i, i < g → ss i = sg i) (hr : r < st) (hs : s < st) (hc : c < co) (H1 : (∃ k, k < 2 ^ g ∧ onW E (cdF sg g) r c (nI k) ∧ onW E (cdF sg g) s c (nI k)) → post 1) (H0 : ¬ (∃ k, k < 2 ^ g ∧ onW E (cdF sg g) r c (nI k) ∧ onW E (cdF sg g) s c (nI k)) → post 0) : wp_X10_areMeeting post en (nI g) ss (nI r) (nI s) (nI c) := by
  have hq := p2_5 hg
  have key1 : (∃ k, k < 2 ^ g ∧ onW E (cdF sg g) r c (nI k) ∧ onW E (cdF sg g) s c (nI k)) → ∀ n i, i ≤ 2 ^ g → 2 ^ g - i < n → w_X10_areMeeting_6 (fun (x4_11 : Int32) => (narrow .boolean (.int x4_11) = .int x4_11 ∧ post x4_11)) en (nI g) ss (nI r) (nI s) (nI c) n 1 (nI i) := by
    intro hw n
    induction n with
    | zero => intro i h1 h2; omega
    | succ n ih =>
      intro i h1 h2
      refine pk_le (2 ^ g) i (fun _ => ⟨bz1, H1 hw⟩) (fun hlt => ⟨fun q => absurd q (by decide), fun _ z hz => ?_⟩) (sh1 g (by omega))
      rw [hz, nI_p1]
      exact ih (i + 1) (by omega) (by omega)
  have key : ∀ n i, i ≤ 2 ^ g → 2 ^ g - i < n → (∀ k, k < i → ¬ (onW E (cdF sg g) r c (nI k) ∧ onW E (cdF sg g) s c (nI k))) → w_X10_areMeeting_6 (fun (x4_11 : Int32) => (narrow .boolean (.int x4_11) = .int x4_11 ∧ post x4_11)) en (nI g) ss (nI r) (nI s) (nI c) n 0 (nI i) := by
    intro n
    induction n with
    | zero => intro i h1 h2; omega
    | succ n ih =>
      intro i h1 h2 h3
      refine pk_le (2 ^ g) i (fun hle => ⟨bz0, H0 (fun w => ?_)⟩) (fun hlt => ⟨fun _ => ?_, fun q => absurd rfl q⟩) (sh1 g (by omega))
      · obtain ⟨k, k1, k2⟩ := w
        exact h3 k (by omega) k2
      · have hrec : ¬ (onW E (cdF sg g) r c (nI i) ∧ onW E (cdF sg g) s c (nI i)) → ∀ b, b = nI i + 1 → w_X10_areMeeting_6 (fun (x4_11 : Int32) => (narrow .boolean (.int x4_11) = .int x4_11 ∧ post x4_11)) en (nI g) ss (nI r) (nI s) (nI c) n 0 b := fun hq b hb => by
          rw [hb, nI_p1 i]
          refine ih (i + 1) (by omega) (by omega) (fun k hk => ?_)
          by_cases e : k = i
          · rw [e]; exact hq
          · exact h3 k (by omega)
        refine r_isOnWay hT hE hg hS hr hc (fun q1 => ⟨fun q => absurd q (by decide), fun _ => r_isOnWay hT hE hg hS hs hc (fun q2 => ⟨fun q => absurd q (by decide), fun _ z hz => ?_⟩) (fun q2 => ⟨fun _ => hrec (fun w => q2 w.2), fun q => absurd rfl q⟩)⟩) (fun q1 => ⟨fun _ => hrec (fun w => q1 w.1), fun q => absurd rfl q⟩)
        rw [hz, nI_p1]
        exact key1 ⟨i, hlt, q1, q2⟩ n (i + 1) (by omega) (by omega)
  exact ⟨33, key 33 0 (Nat.zero_le _) (by omega) (fun k hk => absurd hk (by omega))⟩
theorem WLD_iff {st co g s c : Nat} {E : Nat → Nat → Int32} {sg : Nat → Int32} (hg : g ≤ 5) : WLD st E (cdF sg g) s c ↔ ¬ E s c = -1 ∧ ∃ r, r < st ∧ ¬ E r c = -1 ∧ ¬ E r c = E s c ∧ ∃ k, k < 2 ^ g ∧ onW E (cdF sg g) r c (nI k) ∧ onW E (cdF sg g) s c (nI k) := by
  constructor
  · rintro ⟨h1, r, h2, h3, h4, h5⟩
    obtain ⟨k, k1, k2, k3⟩ := (mt_iff (cdF_lt hg) (cdF_lt hg) (cdF_lt hg)).mp h5
    exact ⟨h1, r, h2, h3, h4, k, k1, ⟨h3, k2⟩, ⟨h1, k3⟩⟩
  · rintro ⟨h1, r, h2, h3, h4, k, k1, k2, k3⟩
    exact ⟨h1, r, h2, h3, h4, (mt_iff (g := g) (cdF_lt hg) (cdF_lt hg) (cdF_lt hg)).mpr ⟨k, k1, k2.2, k3.2⟩⟩
theorem r_isWild {post : Int32 → Prop} {en ss sg : Nat → Int32} {st co g s c : Nat} {E : Nat → Nat → Int32} (hT : okE st co E) (hE : eqE st co en E) (hg : g ≤ 5) (hS : ∀ i, i < g → ss i = sg i) (hs : s < st) (hc : c < co) (H1 : WLD st E (cdF sg g) s c → post 1) (H0 : ¬ WLD st E (cdF sg g) s c → post 0) : wp_X10_isWild post (nI st) en (nI g) ss (nI s) (nI c) := by
  have h6 := hT.1
  rw [WLD_iff (co := co) hg] at H1 H0
  -- found
  have key1 : (∃ r, r < st ∧ ¬ E r c = -1 ∧ ¬ E r c = E s c ∧ ∃ k, k < 2 ^ g ∧ onW E (cdF sg g) r c (nI k) ∧ onW E (cdF sg g) s c (nI k)) → ∀ n i, i ≤ st → st - i < n → w_X10_isWild_5 (fun (x3_15 : Int32) => ((x3_15 = 0 → post (0 : Int32)) ∧ (¬ x3_15 = 0 → (wp_X10_entryAt (fun (r_17 : Int32) => ((r_17 = ((-1) : Int32) → post (0 : Int32)) ∧ (¬ r_17 = ((-1) : Int32) → post (1 : Int32)))) en (nI s) (nI c))))) (nI st) en (nI g) ss (nI s) (nI c) n 1 (nI i) := by
    intro hw n
    induction n with
    | zero => intro i h1 h2; omega
    | succ n ih =>
      intro i h1 h2
      refine pk_le st i (fun _ => ⟨fun q => absurd q (by decide), fun _ => r_at hT hE hs hc ⟨fun q => H0 (fun r => r.1 q), fun q => H1 ⟨q, hw⟩⟩⟩) (fun hlt => ?_)
      have J : ∀ v, j_X10_isWild_46 (w_X10_isWild_5 (fun (x3_15 : Int32) => ((x3_15 = 0 → post (0 : Int32)) ∧ (¬ x3_15 = 0 → (wp_X10_entryAt (fun (r_17 : Int32) => ((r_17 = ((-1) : Int32) → post (0 : Int32)) ∧ (¬ r_17 = ((-1) : Int32) → post (1 : Int32)))) en (nI s) (nI c))))) (nI st) en (nI g) ss (nI s) (nI c) n) en (nI g) ss (nI s) (nI c) 1 (nI i) v := fun v => ⟨fun q => absurd q (by decide), fun _ z hz => by
        rw [hz, nI_p1]
        exact ih (i + 1) (by omega) (by omega)⟩
      exact r_at hT hE hlt hc ⟨fun _ => J _, fun _ => r_at hT hE hlt hc (r_at hT hE hs hc ⟨fun _ => J _, fun _ => J _⟩)⟩
  have key : ∀ n i, i ≤ st → st - i < n → (∀ r, r < i → ¬ (¬ E r c = -1 ∧ ¬ E r c = E s c ∧ ∃ k, k < 2 ^ g ∧ onW E (cdF sg g) r c (nI k) ∧ onW E (cdF sg g) s c (nI k))) → w_X10_isWild_5 (fun (x3_15 : Int32) => ((x3_15 = 0 → post (0 : Int32)) ∧ (¬ x3_15 = 0 → (wp_X10_entryAt (fun (r_17 : Int32) => ((r_17 = ((-1) : Int32) → post (0 : Int32)) ∧ (¬ r_17 = ((-1) : Int32) → post (1 : Int32)))) en (nI s) (nI c))))) (nI st) en (nI g) ss (nI s) (nI c) n 0 (nI i) := by
    intro n
    induction n with
    | zero => intro i h1 h2; omega
    | succ n ih =>
      intro i h1 h2 h3
      refine pk_le st i (fun hle => ⟨fun _ => H0 (fun w => ?_), fun q => absurd rfl q⟩) (fun hlt => ?_)
      · obtain ⟨_, r, r1, r2⟩ := w
        exact h3 r (by omega) r2
      · have hrec : ¬ (¬ E i c = -1 ∧ ¬ E i c = E s c ∧ ∃ k, k < 2 ^ g ∧ onW E (cdF sg g) i c (nI k) ∧ onW E (cdF sg g) s c (nI k)) → ∀ b, b = nI i + 1 → w_X10_isWild_5 (fun (x3_15 : Int32) => ((x3_15 = 0 → post (0 : Int32)) ∧ (¬ x3_15 = 0 → (wp_X10_entryAt (fun (r_17 : Int32) => ((r_17 = ((-1) : Int32) → post (0 : Int32)) ∧ (¬ r_17 = ((-1) : Int32) → post (1 : Int32)))) en (nI s) (nI c))))) (nI st) en (nI g) ss (nI s) (nI c) n 0 b := fun hq b hb => by
          rw [hb, nI_p1 i]
          refine ih (i + 1) (by omega) (by omega) (fun r hr => ?_)
          by_cases e : r = i
          · rw [e]; exact hq
          · exact h3 r (by omega)
        refine r_at hT hE hlt hc ⟨fun q => ⟨fun _ => ⟨fun _ => hrec (fun w => w.1 q), fun q1 => absurd rfl q1⟩, fun q1 => absurd rfl q1⟩, fun q => r_at hT hE hlt hc (r_at hT hE hs hc ⟨fun q2 => ⟨fun _ => ⟨fun _ => hrec (fun w => w.2.1 q2), fun q1 => absurd rfl q1⟩, fun q1 => absurd rfl q1⟩, fun q2 => ⟨fun _ => ⟨fun q1 => absurd q1 (by decide), fun _ => ?_⟩, fun q1 => absurd rfl q1⟩⟩)⟩
        refine r_areMeeting hT hE hg hS hlt hs hc (fun w => ⟨fun q1 => absurd q1 (by decide), fun _ z hz => ?_⟩) (fun w => ⟨fun _ => hrec (fun w2 => w w2.2.2), fun q1 => absurd rfl q1⟩)
        rw [hz, nI_p1]
        exact key1 ⟨i, hlt, q, q2, w⟩ n (i + 1) (by omega) (by omega)
  exact ⟨7, key 7 0 (by omega) (by omega) (fun r hr => absurd hr (by omega))⟩
/-! how many are so, and which is the first -/
noncomputable def wcS (W : Nat → Nat → Prop) (s c : Nat) (a : Int32) : Int32 := @ite _ (W s c) (Classical.propDecidable _) (a + 1) a
theorem wcS_t {W : Nat → Nat → Prop} {s c : Nat} {a : Int32} (h : W s c) : wcS W s c a = a + 1 := if_pos h
theorem wcS_f {W : Nat → Nat → Prop} {s c : Nat} {a : Int32} (h : ¬ W s c) : wcS W s c a = a := if_neg h
noncomputable def WCF (st co : Nat) (W : Nat → Nat → Prop) : Int32 := fo2 (wcS W) co st 0
def noW (W : Nat → Nat → Prop) (co s i : Nat) : Prop := ∀ s' c', (s' < s ∧ c' < co) ∨ (s' = s ∧ c' < i) → ¬ W s' c'
def FWR (st co : Nat) (W : Nat → Nat → Prop) (r : Int32) : Prop := (r = -1 ∧ noW W co st 0) ∨ ∃ s c, s < st ∧ c < co ∧ W s c ∧ noW W co s c ∧ r = nI (4 * s + c)
theorem FWR_eq {st co : Nat} {W : Nat → Nat → Prop} {r1 r2 : Int32} (h1 : FWR st co W r1) (h2 : FWR st co W r2) : r1 = r2 := by
  rcases h1 with ⟨e1, n1⟩ | ⟨s, c, a1, a2, a3, a4, a5⟩ <;> rcases h2 with ⟨e2, n2⟩ | ⟨s', c', b1, b2, b3, b4, b5⟩
  · rw [e1, e2]
  · exact absurd b3 (n1 s' c' (Or.inl ⟨b1, b2⟩))
  · exact absurd a3 (n2 s c (Or.inl ⟨a1, a2⟩))
  · have es : s = s' := by
      rcases Nat.lt_trichotomy s s' with q | q | q
      · exact absurd a3 (b4 s c (Or.inl ⟨q, a2⟩))
      · exact q
      · exact absurd b3 (a4 s' c' (Or.inl ⟨q, b2⟩))
    subst es
    have ec : c = c' := by
      rcases Nat.lt_trichotomy c c' with q | q | q
      · exact absurd a3 (b4 s c (Or.inr ⟨rfl, q⟩))
      · exact q
      · exact absurd b3 (a4 s c' (Or.inr ⟨rfl, q⟩))
    subst ec
    rw [a5, b5]
theorem noW_c {W : Nat → Nat → Prop} {co s i : Nat} (h : noW W co s i) (hn : ¬ W s i) : noW W co s (i + 1) := fun s' c' hq => by
  by_cases e : s' = s ∧ c' = i
  · rw [e.1, e.2]; exact hn
  · exact h s' c' (by omega)
theorem noW_s {W : Nat → Nat → Prop} {co s : Nat} (h : noW W co s co) : noW W co (s + 1) 0 := fun s' c' hq => h s' c' (by omega)
theorem g_countWild {post : Int32 → Prop} {en cd sg : Nat → Int32} {st co g : Nat} {E : Nat → Nat → Int32} (hT : okE st co E) (hE : eqE st co en E) (hC : cdOK sg cd g) (H : post (WCF st co (WLD st E (cdF sg g)))) : wp_X7_countWild post en (nI st) (nI co) cd := by
  have h6 := hT.1
  have h4 := hT.2.1
  have k1 : ∀ (KE : Int32 → Prop) (s : Nat) (x : Int32), s < st → KE (fo (wcS (WLD st E (cdF sg g)) s) co x) → ∀ n i, i ≤ co → co - i < n → w_X7_countWild_15 KE en (nI st) (nI co) cd (nI s) n (fo (wcS (WLD st E (cdF sg g)) s) i x) (nI i) := by
    intro KE s x hs hK n
    induction n with
    | zero => intro i h1 h2; omega
    | succ n ih =>
      intro i h1 h2
      have hr := ih (i + 1)
      rw [fo_s] at hr
      refine pk_le co i (fun hle => by rw [show i = co by omega]; exact hK) (fun hlt => ?_)
      have hr := hr (by omega) (by omega)
      refine g_isWild hT hE hC hs hlt (fun w => ⟨fun q => absurd q (by decide), fun _ a ha z hz => ?_⟩) (fun w => ⟨fun _ z hz => ?_, fun q => absurd rfl q⟩)
      · rw [wcS_t w] at hr
        rw [hz, nI_p1, ha]
        exact hr
      · rw [wcS_f w] at hr
        rw [hz, nI_p1]
        exact hr
  have k2 : ∀ n i, i ≤ st → st - i < n → w_X7_countWild_4 (fun x => post x) en (nI st) (nI co) cd n (fo2 (wcS (WLD st E (cdF sg g))) co i 0) (nI i) := by
    intro n
    induction n with
    | zero => intro i h1 h2; omega
    | succ n ih =>
      intro i h1 h2
      exact pk_le st i (fun hle => by rw [show i = st by omega]; exact H) (fun hlt => ⟨5, k1 _ i _ hlt (fun b hb => by rw [hb, nI_p1 i]; exact ih (i + 1) (by omega) (by omega)) 5 0 (by omega) (by omega)⟩)
  exact ⟨7, k2 7 0 (by omega) (by omega)⟩
theorem g_firstWild {post : Int32 → Prop} {en cd sg : Nat → Int32} {st co g : Nat} {E : Nat → Nat → Int32} (hT : okE st co E) (hE : eqE st co en E) (hC : cdOK sg cd g) (H : ∀ r, FWR st co (WLD st E (cdF sg g)) r → post r) : wp_X7_firstWild post en (nI st) (nI co) cd := by
  have h6 := hT.1
  have h4 := hT.2.1
  have k1 : ∀ (KE : Prop) (s : Nat), s < st → (noW (WLD st E (cdF sg g)) co (s + 1) 0 → KE) → ∀ n i, i ≤ co → co - i < n → noW (WLD st E (cdF sg g)) co s i → w_X7_firstWild_12 post KE en (nI st) (nI co) cd (nI s) n (nI i) := by
    intro KE s hs hK n
    induction n with
    | zero => intro i h1 h2; omega
    | succ n ih =>
      intro i h1 h2 h3
      refine pk_le co i (fun hle => hK (noW_s (by rw [show co = i by omega] at h3 ⊢; exact h3))) (fun hlt => ?_)
      refine g_isWild hT hE hC hs hlt (fun w => ⟨fun q => absurd q (by decide), fun _ => ?_⟩) (fun w => ⟨fun _ z hz => ?_, fun q => absurd rfl q⟩)
      · rw [nI4]
        exact H _ (Or.inr ⟨s, i, hs, hlt, w, h3, rfl⟩)
      · rw [hz, nI_p1]
        exact ih (i + 1) (by omega) (by omega) (noW_c h3 w)
  have k2 : ∀ n i, i ≤ st → st - i < n → noW (WLD st E (cdF sg g)) co i 0 → w_X7_firstWild_2 post (post (-1)) en (nI st) (nI co) cd n (nI i) := by
    intro n
    induction n with
    | zero => intro i h1 h2; omega
    | succ n ih =>
      intro i h1 h2 h3
      exact pk_le st i (fun hle => H _ (Or.inl ⟨rfl, by rw [show st = i by omega] at h3 ⊢; exact h3⟩)) (fun hlt => ⟨5, k1 _ i hlt (fun hq b hb => by rw [hb, nI_p1 i]; exact ih (i + 1) (by omega) (by omega) hq) 5 0 (by omega) (by omega) h3⟩)
  exact ⟨7, k2 7 0 (by omega) (by omega) (fun s' c' hq => absurd hq (by omega))⟩
theorem r_wildNow0 {post : Int32 → Prop} {en ss sg : Nat → Int32} {st co g : Nat} {E : Nat → Nat → Int32} (hT : okE st co E) (hE : eqE st co en E) (hg : g ≤ 5) (hS : ∀ i, i < g → ss i = sg i) (H : post (WCF st co (WLD st E (cdF sg g)))) : wp_X10_wildNow post (nI st) (nI co) en (nI g) ss 0 := by
  have h6 := hT.1
  have h4 := hT.2.1
  have k1 : ∀ (KE : Int32 → Prop) (s : Nat) (x : Int32), s < st → KE (fo (wcS (WLD st E (cdF sg g)) s) co x) → ∀ n i, i ≤ co → co - i < n → w_X10_wildNow_15 post KE (nI st) (nI co) en (nI g) ss 0 (nI s) n (fo (wcS (WLD st E (cdF sg g)) s) i x) (nI i) := by
    intro KE s x hs hK n
    induction n with
    | zero => intro i h1 h2; omega
    | succ n ih =>
      intro i h1 h2
      have hr := ih (i + 1)
      rw [fo_s] at hr
      refine pk_le co i (fun hle => by rw [show i = co by omega]; exact hK) (fun hlt => ?_)
      have hr := hr (by omega) (by omega)
      refine r_isWild hT hE hg hS hs hlt (fun w => ⟨fun q => absurd q (by decide), fun _ => ⟨fun _ => ⟨fun q => absurd q (by decide), fun _ a ha z hz => ?_⟩, fun q => absurd rfl q⟩⟩) (fun w => ⟨fun _ => ⟨fun _ a ha z hz => ?_, fun q => absurd rfl q⟩, fun q => absurd rfl q⟩)
      · rw [wcS_t w] at hr
        rw [hz, nI_p1, ha]
        exact hr
      · rw [wcS_f w] at hr
        rw [hz, nI_p1, ha, Int32.add_zero]
        exact hr
  have k2 : ∀ n i, i ≤ st → st - i < n → w_X10_wildNow_4 post (fun (x2_18 : Int32) => (((0 : Int32) = 0 → post x2_18) ∧ (¬ (0 : Int32) = 0 → post ((-1) : Int32)))) (nI st) (nI co) en (nI g) ss 0 n (fo2 (wcS (WLD st E (cdF sg g))) co i 0) (nI i) := by
    intro n
    induction n with
    | zero => intro i h1 h2; omega
    | succ n ih =>
      intro i h1 h2
      exact pk_le st i (fun hle => by rw [show i = st by omega]; exact ⟨fun _ => H, fun q => absurd rfl q⟩) (fun hlt => ⟨5, k1 _ i _ hlt (fun b hb => by rw [hb, nI_p1 i]; exact ih (i + 1) (by omega) (by omega)) 5 0 (by omega) (by omega)⟩)
  exact ⟨7, k2 7 0 (by omega) (by omega)⟩
theorem r_wildNow1 {post : Int32 → Prop} {en ss sg : Nat → Int32} {st co g : Nat} {E : Nat → Nat → Int32} (hT : okE st co E) (hE : eqE st co en E) (hg : g ≤ 5) (hS : ∀ i, i < g → ss i = sg i) (H : ∀ r, FWR st co (WLD st E (cdF sg g)) r → post r) : wp_X10_wildNow post (nI st) (nI co) en (nI g) ss 1 := by
  have h6 := hT.1
  have h4 := hT.2.1
  have k1 : ∀ (KE : Int32 → Prop) (s : Nat), s < st → (noW (WLD st E (cdF sg g)) co (s + 1) 0 → ∀ x, KE x) → ∀ n i x, i ≤ co → co - i < n → noW (WLD st E (cdF sg g)) co s i → w_X10_wildNow_15 post KE (nI st) (nI co) en (nI g) ss 1 (nI s) n x (nI i) := by
    intro KE s hs hK n
    induction n with
    | zero => intro i x h1 h2; omega
    | succ n ih =>
      intro i x h1 h2 h3
      refine pk_le co i (fun hle => hK (noW_s (by rw [show co = i by omega] at h3 ⊢; exact h3)) x) (fun hlt => ?_)
      refine r_isWild hT hE hg hS hs hlt (fun w => ⟨fun q => absurd q (by decide), fun _ => ⟨fun q => absurd q (by decide), fun _ => ?_⟩⟩) (fun w => ⟨fun _ => ⟨fun _ a ha z hz => ?_, fun q => absurd rfl q⟩, fun q => absurd rfl q⟩)
      · rw [nI4]
        exact H _ (Or.inr ⟨s, i, hs, hlt, w, h3, rfl⟩)
      · rw [hz, nI_p1]
        exact ih (i + 1) a (by omega) (by omega) (noW_c h3 w)
  have k2 : ∀ n i x, i ≤ st → st - i < n → noW (WLD st E (cdF sg g)) co i 0 → w_X10_wildNow_4 post (fun (x2_18 : Int32) => (((1 : Int32) = 0 → post x2_18) ∧ (¬ (1 : Int32) = 0 → post ((-1) : Int32)))) (nI st) (nI co) en (nI g) ss 1 n x (nI i) := by
    intro n
    induction n with
    | zero => intro i x h1 h2; omega
    | succ n ih =>
      intro i x h1 h2 h3
      exact pk_le st i (fun hle => ⟨fun q => absurd q (by decide), fun _ => H _ (Or.inl ⟨rfl, by rw [show st = i by omega] at h3 ⊢; exact h3⟩)⟩) (fun hlt => ⟨5, k1 _ i hlt (fun hq a b hb => by rw [hb, nI_p1 i]; exact ih (i + 1) a (by omega) (by omega) hq) 5 0 x (by omega) (by omega) h3⟩)
  exact ⟨7, k2 7 0 0 (by omega) (by omega) (fun s' c' hq => absurd hq (by omega))⟩
