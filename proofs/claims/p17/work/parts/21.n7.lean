/-! the least code: the reference goes through the rows in order -/
abbrev KR (lo hi : Nat → Int32) : Nat → Nat → Prop := fun h p => kps (nI (2 * h)) (lo p) (hi p)
def sucR (t : Nat → Nat) (a : Nat) : Nat → Nat := fun j => if j < a then t j else t a + 1 + (j - a)
theorem sucR_lt {t : Nat → Nat} {a j : Nat} (h : j < a) : sucR t a j = t j := if_pos h
theorem sucR_ge {t : Nat → Nat} {a j : Nat} (h : ¬ j < a) : sucR t a j = t a + 1 + (j - a) := if_neg h
theorem lx_of_le {d m : Nat} {v w : Nat → Nat} (h : ∀ i, d ≤ i → i < m → v i ≤ w i) : lx d m v w := by
  rcases lx_tot (d := d) (m := m) w v with q | ⟨e, e1, e2, _, e4⟩
  · exact q
  · have := h e e1 e2
    omega
theorem Inc_up {N m : Nat} {t : Nat → Nat} (h : Inc N m t) {i j : Nat} (hij : i ≤ j) (hj : j < m) : t i + (j - i) ≤ t j := up_of (d := 0) (fun i _ hi => h.2 i hi) (Nat.zero_le _) hij hj
theorem Inc_b {N m : Nat} {t : Nat → Nat} (h : Inc N m t) {j : Nat} (hj : j < m) : t j + (m - j) ≤ N := by
  have a := Inc_up h (show j ≤ m - 1 by omega) (show m - 1 < m by omega)
  have b := h.1 (m - 1) (by omega)
  omega
theorem Inc_suc {N m a : Nat} {t : Nat → Nat} (h : Inc N m t) (ha : a < m) (hv : t a + (m - a) < N) : Inc N m (sucR t a) := by
  refine ⟨fun i hi => ?_, fun i hi => ?_⟩
  · by_cases e : i < a
    · rw [sucR_lt e]; exact h.1 i hi
    · rw [sucR_ge e]; omega
  · by_cases e : i < a
    · rw [sucR_lt e]
      by_cases e2 : i + 1 < a
      · rw [sucR_lt e2]; exact h.2 i hi
      · rw [sucR_ge e2]
        have := h.2 i hi
        have e3 : i + 1 = a := by omega
        rw [e3] at this ⊢
        omega
    · rw [sucR_ge e, sucR_ge (show ¬ i + 1 < a by omega)]; omega
theorem suc_next {N m a : Nat} {t w : Nat → Nat} (ha : a < m) (hl : ∀ j, a < j → j < m → N ≤ t j + (m - j)) (hw : Inc N m w) : lx 0 m w t ∨ lx 0 m (sucR t a) w := by
  rcases lx_tot (d := 0) (m := m) t w with q | ⟨e, _, e2, e3, e4⟩
  · exact Or.inl q
  · right
    have hea : e ≤ a := by
      rcases Nat.lt_or_ge a e with q | q
      · have := hl e q e2
        have := Inc_b hw e2
        omega
      · exact q
    by_cases ee : e = a
    · subst ee
      refine lx_of_le (fun i _ hi => ?_)
      by_cases c : i < e
      · have := e3 i (Nat.zero_le _) c
        rw [sucR_lt c]
        omega
      · rw [sucR_ge c]
        have := Inc_up hw (show e ≤ i by omega) hi
        omega
    · refine Or.inr ⟨e, Nat.zero_le _, e2, fun i _ hi => ?_, ?_⟩
      · rw [sucR_lt (show i < a by omega)]; exact e3 i (Nat.zero_le _) hi
      · rw [sucR_lt (show e < a by omega)]; exact e4
theorem r_goesOn {post : Int32 → (Nat → Int32) → Prop} {f : Nat → Int32} {st m N : Nat} {t : Nat → Nat} (hN : 2 * N = 2 ^ st) (hN2 : N ≤ 32) (hs : st ≤ 6) (hm0 : 0 < m) (hm : m ≤ 5) (ht : ∀ i, i < m → f i = nI (2 * t i)) (hI : Inc N m t)
    (H0 : (∀ w, Inc N m w → lx 0 m w t) → post 0 f)
    (H1 : ∀ f' a, (∀ i, i < m → f' i = nI (2 * sucR t a i)) → a < m → Inc N m (sucR t a) → (∀ w, Inc N m w → lx 0 m w t ∨ lx 0 m (sucR t a) w) → post 1 f') : wp_X10_goesOn post (nI st) f (nI m) := by
  have hq : 2 ^ st ≤ 64 := by omega
  -- filling up behind
  have k2 : ∀ (a : Nat), a < m → t a + (m - a) < N → (∀ j, a < j → j < m → N ≤ t j + (m - j)) → ∀ n i g, a < i → i ≤ m → m - i < n → (∀ j, j < i → g j = nI (2 * sucR t a j)) → w_X10_goesOn_55 (fun g => post 1 g) (nI m) n (nI i) g := by
    intro a ha hv hl n
    induction n with
    | zero => intro i g h1 h2 h3; omega
    | succ n ih =>
      intro i g h1 h2 h3 h4
      refine pk_le m i (fun hle => ?_) (fun hlt => ?_)
      · exact H1 g a (fun j hj => h4 j (by omega)) ha (Inc_suc hI ha hv) (fun w hw => suc_next ha hl hw)
      · obtain ⟨k, rfl⟩ : ∃ k, i = k + 1 := ⟨i - 1, by omega⟩
        rw [nI_pred, nI_clamp (show k < 2 ^ 31 by omega), nI_clamp (show k + 1 < 2 ^ 31 by omega)]
        refine ⟨pk_in k 5 (by omega), pk_in (k + 1) 5 (by omega), fun g2 hg2 z hz => ?_⟩
        rw [hz, nI_p1]
        refine ih (k + 1 + 1) g2 (by omega) (by omega) (by omega) (fun j hj => ?_)
        by_cases e : j = k + 1
        · rw [hg2, e, pk_us, h4 k (by omega), show (2 : Int32) = nI 2 from rfl, nI_add, sucR_ge (show ¬ k < a by omega), sucR_ge (show ¬ k + 1 < a by omega)]
          congr 1
          omega
        · rw [hg2, pk_un e]; exact h4 j (by omega)
  have J : ∀ a, a < m → t a + (m - a) < N → (∀ j, a < j → j < m → N ≤ t j + (m - j)) → j_X10_goesOn_35 post f (nI m) (nI a) := by
    intro a ha hv hl
    have h5 : vp_in (nI a) 5 := pk_in a 5 (by omega)
    refine ⟨fun _ => ⟨h5, h5, fun g hg z hz => ⟨6, ?_⟩⟩, fun q => absurd (nI_pos' (by omega)) q⟩
    rw [hz, nI_p1]
    rw [nI_clamp (show a < 2 ^ 31 by omega), ht a ha, show (2 : Int32) = nI 2 from rfl, nI_add] at hg
    refine k2 a ha hv hl 6 (a + 1) g (by omega) (by omega) (by omega) (fun j hj => ?_)
    by_cases e : j = a
    · rw [hg, e, pk_us, sucR_ge (show ¬ a < a by omega)]
      congr 1
      omega
    · rw [hg, pk_un e, sucR_lt (show j < a by omega)]; exact ht j (by omega)
  have k1 : ∀ n i, i ≤ m → i < n → (∀ j, i ≤ j → j < m → N ≤ t j + (m - j)) → w_X10_goesOn_4 (fun x => j_X10_goesOn_35 post f (nI m) x) (nI st) f (nI m) n (nI i + (-1)) := by
    intro n
    induction n with
    | zero => intro i h1 h2; omega
    | succ n ih =>
      intro i h1 h2 h3
      cases i with
      | zero =>
        rw [show nI 0 + (-1) = (-1 : Int32) from by decide]
        refine ⟨fun _ => ⟨fun q => absurd q (by decide), fun _ => H0 (fun w hw => lx_of_le (fun i _ hi => ?_))⟩, fun q => absurd (by decide) q⟩
        have := Inc_b hw hi
        have := h3 i (Nat.zero_le _) hi
        omega
      | succ i =>
        rw [pk_m1]
        refine pk_lt i 0 (fun q => absurd q (by omega)) (fun _ => ⟨pk_in i 5 (by omega), ?_⟩)
        have hvi := hI.1 i (by omega)
        rw [nI_clamp (show i < 2 ^ 31 by omega), ht i (by omega), pk_sub (by omega), show (2 : Int32) = nI 2 from rfl, pk_mul, nI_add]
        refine pk_lt (2 * t i + 2 * (m - i)) (2 ^ st) (fun hlt => J i (by omega) (by omega) (fun j hj hjm => h3 j (by omega) hjm)) (fun hge z hz => ?_) rfl (sh1 st (by omega))
        rw [hz]
        refine ih i (by omega) (by omega) (fun j hj hjm => ?_)
        by_cases e : j = i
        · rw [e]; omega
        · exact h3 j (by omega) hjm
  intro z hz
  refine ⟨m + 1, ?_⟩
  rw [hz, show nI m - 1 = nI m + (-1) from by obtain ⟨k, rfl⟩ : ∃ k, m = k + 1 := ⟨m - 1, by omega⟩; rw [nI_pred, pk_m1]]
  exact k1 (m + 1) m (by omega) (by omega) (fun j h1 h2 => absurd h2 (by omega))
theorem Cv_inc {K : Nat → Nat → Prop} {N m : Nat} {L : Nat → Prop} {w : Nat → Nat} (h : Cv K N 0 m 0 L w) : Inc N m w := ⟨fun i hi => (h.1 i (Nat.zero_le _) hi).2, fun i hi => h.2.1 i (Nat.zero_le _) hi⟩
theorem Cv_of {K : Nat → Nat → Prop} {N m : Nat} {L : Nat → Prop} {w : Nat → Nat} (h : Inc N m w) (hc : ∀ p, L p → ∃ i, i < m ∧ K (w i) p) : Cv K N 0 m 0 L w := ⟨fun i _ hi => ⟨Nat.zero_le _, h.1 i hi⟩, fun i _ hi => h.2 i hi, fun p hp => by
  obtain ⟨i, a, b⟩ := hc p hp
  exact ⟨i, Nat.zero_le _, a, b⟩⟩
theorem r_findLeast {post : Int32 → (Nat → Int32) → Prop} {lo hi f : Nat → Int32} {kl kh : Nat → Int64} {st m pn N : Nat} (hN : 2 * N = 2 ^ st) (hN2 : N ≤ 32) (hs : st ≤ 6) (hp : pn ≤ 63) (hm0 : 0 < m) (hm : m ≤ 5) (hk : ∀ g, g < 2 ^ st → mk (kl g) (fun p => p < 40 ∧ p < pn ∧ kps (nI g) (lo p) (hi p)) ∧ mk (kh g) (fun p => 40 + p < pn ∧ kps (nI g) (lo (40 + p)) (hi (40 + p))))
    (H1 : ∀ f' t, (∀ i, i < m → f' i = nI (2 * t i)) → Cv (KR lo hi) N 0 m 0 (fun p => p < pn) t → (∀ w, Cv (KR lo hi) N 0 m 0 (fun p => p < pn) w → lx 0 m t w) → post 1 f')
    (H0 : ∀ f', (∀ w, ¬ Cv (KR lo hi) N 0 m 0 (fun p => p < pn) w) → post 0 f') : wp_X10_findLeast post (nI st) (nI pn) f kl kh (nI m) := by
  have k2 : ∀ n g t, (∀ i, i < m → g i = nI (2 * t i)) → Inc N m t → (∀ w, Cv (KR lo hi) N 0 m 0 (fun p => p < pn) w → lx 0 m t w) → 64 ^ m - enc (fun i => 2 * t i) m < n → w_X10_findLeast_40 (fun (x : Int32) (g : Nat → Int32) => (narrow .boolean (.int x) = .int x ∧ post x g)) (nI st) (nI pn) kl kh (nI m) n 1 g := by
    intro n
    induction n with
    | zero => intro g t h1 h2 h3 h4; omega
    | succ n ih =>
      intro g t h1 h2 h3 h4
      refine ⟨fun q => absurd q (by decide), fun _ => r_isTriedGood hN hN2 hp hm (fun i hi => ⟨h1 i hi, h2.1 i hi⟩) hk (fun hgd => ⟨fun q => absurd q (by decide), fun _ => ⟨bz1, H1 g t h1 (Cv_of h2 hgd) h3⟩⟩) (fun hbd => ⟨fun _ => ?_, fun q => absurd rfl q⟩)⟩
      have hlt := enc_b (v := fun i => 2 * t i) (m := m) (fun i hi => by have := h2.1 i hi; show 2 * t i < 64; omega)
      have hno : ¬ Cv (KR lo hi) N 0 m 0 (fun p => p < pn) t := fun q => hbd (fun p hpp => by
        obtain ⟨i, _, a, b⟩ := q.2.2 p hpp
        exact ⟨i, a, b⟩)
      cases n with
      | zero => omega
      | succ n =>
        refine r_goesOn hN hN2 hs hm0 hm h1 h2 (fun hlast => ?_) (fun f' a e1 e2 e3 e4 => ih f' (sucR t a) e1 e3 (fun w hw => ?_) ?_)
        · refine ⟨fun _ => ⟨bz0, H0 g (fun w hw => hno ?_)⟩, fun q => absurd rfl q⟩
          have e := lx_anti (h3 w hw) (hlast w (Cv_inc hw))
          refine Cv_of h2 (fun p hpp => ?_)
          obtain ⟨i, _, a, b⟩ := hw.2.2 p hpp
          exact ⟨i, a, by rw [e i (Nat.zero_le _) a]; exact b⟩
        · rcases e4 w (Cv_inc hw) with q | q
          · exfalso
            apply hno
            have e := lx_anti (h3 w hw) q
            refine Cv_of h2 (fun p hpp => ?_)
            obtain ⟨i, _, a, b⟩ := hw.2.2 p hpp
            exact ⟨i, a, by rw [e i (Nat.zero_le _) a]; exact b⟩
          · exact q
        · have b1 := enc_b (v := fun i => 2 * sucR t a i) (m := m) (fun i hi => by have := e3.1 i hi; show 2 * sucR t a i < 64; omega)
          have b2 := enc_lt (v := fun i => 2 * t i) (w := fun i => 2 * sucR t a i) (a := a) (m := m) (fun i hi => by show 2 * t i = 2 * sucR t a i; rw [sucR_lt hi]) (by show 2 * t a < 2 * sucR t a a; rw [sucR_ge (show ¬ a < a by omega)]; omega) e2 (fun i hi => by have := h2.1 i hi; show 2 * t i < 64; omega)
          omega
  have k1 : ∀ n i g, i ≤ m → m - i < n → (∀ j, j < i → g j = nI (2 * j)) → w_X10_findLeast_2 (fun (ytried_4 : Nat → Int32) => ((((1 : Int32) <<< (nI st &&& 31)) < ((2 : Int32) * nI m) → (∃ fu : Nat, w_X10_findLeast_40 (fun (x2_10 : Int32) (ytried_10 : Nat → Int32) => (narrow .boolean (.int x2_10) = .int x2_10 ∧ post x2_10 ytried_10)) (nI st) (nI pn) kl kh (nI m) fu (0 : Int32) ytried_4)) ∧ (¬ ((1 : Int32) <<< (nI st &&& 31)) < ((2 : Int32) * nI m) → (∃ fu : Nat, w_X10_findLeast_40 (fun (x2_11 : Int32) (ytried_11 : Nat → Int32) => (narrow .boolean (.int x2_11) = .int x2_11 ∧ post x2_11 ytried_11)) (nI st) (nI pn) kl kh (nI m) fu (1 : Int32) ytried_4)))) (nI m) n (nI i) g := by
    intro n
    induction n with
    | zero => intro i g h1 h2; omega
    | succ n ih =>
      intro i g h1 h2 h3
      refine pk_le m i (fun hle => ?_) (fun hlt => ⟨pk_in i 5 (by omega), fun g2 hg z hz => ?_⟩)
      · refine pk_lt (2 ^ st) (2 * m) (fun hlt => ⟨1, ⟨fun _ => ⟨bz0, H0 g (fun w hw => ?_)⟩, fun q => absurd rfl q⟩⟩) (fun hge => ⟨64 ^ m + 1, k2 _ g (fun j => j) (fun j hj => h3 j (by omega)) ⟨fun j hj => by show j < N; omega, fun j hj => Nat.lt_succ_self j⟩ (fun w hw => lx_of_le (fun j _ hj => ?_)) (Nat.lt_succ_of_le (Nat.sub_le _ _))⟩) (sh1 st (by omega)) (by rw [show (2 : Int32) = nI 2 from rfl, pk_mul])
        · have := Inc_b (Cv_inc hw) (show 0 < m by omega)
          omega
        · have := Inc_up (Cv_inc hw) (Nat.zero_le j) hj
          show j ≤ w j
          omega
      · rw [hz, nI_p1]
        rw [nI_clamp (show i < 2 ^ 31 by omega), show (2 : Int32) = nI 2 from rfl, pk_mul] at hg
        refine ih (i + 1) g2 (by omega) (by omega) (fun j hj => ?_)
        by_cases e : j = i
        · rw [hg, e, pk_us]
        · rw [hg, pk_un e]; exact h3 j (by omega)
  exact ⟨6, k1 6 0 f (by omega) (by omega) (fun j hj => absurd hj (by omega))⟩
/-- how many signals the least code has, as the reference tells it -/
def lmI (g : Nat) : Int32 := if g = 0 then -1 else nI g
theorem r_layLeast {post : Int32 → (Nat → Int32) → (Nat → Int32) → (Nat → Int64) → (Nat → Int64) → Prop} {en lo hi la tr : Nat → Int32} {kl kh : Nat → Int64} {st co pn : Nat} {E : Nat → Nat → Int32} {lm : Int32} (hT : okE st co E) (hE : eqE st co en E) (hp : NRM st co E → pn ≤ 63)
    (H0 : ¬ NRM st co E → post (-1) la tr kl kh)
    (H1 : NRM st co E → ∀ g t la' tr' kl' kh', LCs (KR lo hi) (2 ^ (st - 1)) pn g t → (∀ i, i < g → la' i = nI (2 * t i)) → post (lmI g) la' tr' kl' kh') : wp_X10_layLeast post (nI st) (nI co) en (nI pn) lo hi lm la tr kl kh := by
  have h6 := hT.1
  refine r_isNormal hT hE (fun hN => ⟨fun q => absurd q (by decide), fun _ => ?_⟩) (fun hN => ⟨fun _ => H0 hN, fun q => absurd rfl q⟩)
  have hp := hp hN
  have h0 : 0 < st := hN.1
  have hN1 : 2 * 2 ^ (st - 1) = 2 ^ st := by
    obtain ⟨k, rfl⟩ : ∃ k, st = k + 1 := ⟨st - 1, by omega⟩
    rw [Nat.pow_succ, Nat.add_sub_cancel]
    omega
  have hN2 : 2 ^ (st - 1) ≤ 32 := p2_5 (by omega)
  refine r_layKept h6 hp (fun kl2 kh2 hk => ⟨7, ?_⟩)
  have k3 : ∀ (m : Nat) (tr' : Nat → Int32) (KE : (Nat → Int32) → Prop), m ≤ 5 → (∀ a, (∀ i, i < m → a i = tr' i) → KE a) → ∀ n i a, i ≤ m → m - i < n → (∀ j, j < i → a j = tr' j) → w_X10_layLeast_50 KE tr' (nI m) n (nI i) a := by
    intro m tr' KE h5 hK n
    induction n with
    | zero => intro i a h1 h2; omega
    | succ n ih =>
      intro i a h1 h2 h3
      refine pk_le m i (fun hle => hK a (fun j hj => h3 j (by omega))) (fun hlt => ⟨pk_in i 5 (by omega), pk_in i 5 (by omega), fun a2 e2 z hz => ?_⟩)
      rw [nI_clamp (show i < 2 ^ 31 by omega)] at e2
      rw [hz, nI_p1]
      refine ih (i + 1) a2 (by omega) (by omega) (fun j hj => ?_)
      by_cases e : j = i
      · rw [e2, e, pk_us]
      · rw [e2, pk_un e]; exact h3 j (by omega)
  have k1 : ∀ n i tr', 1 ≤ i → i ≤ 6 → 6 - i < n → (∀ m, 1 ≤ m → m < i → ∀ v, ¬ Cv (KR lo hi) (2 ^ (st - 1)) 0 m 0 (fun p => p < pn) v) → w_X10_layLeast_19 (fun (x1_8 : Int32) (ytried_8 : Nat → Int32) => (((5 : Int32) < x1_8 → post ((-1) : Int32) la ytried_8 kl2 kh2) ∧ (¬ (5 : Int32) < x1_8 → (∃ fu : Nat, w_X10_layLeast_50 (fun (yleastAt_14 : Nat → Int32) => post x1_8 yleastAt_14 ytried_8 kl2 kh2) ytried_8 x1_8 fu (0 : Int32) la)))) (nI st) (nI pn) kl2 kh2 n (nI i) tr' := by
    intro n
    induction n with
    | zero => intro i tr' h1 h2; omega
    | succ n ih =>
      intro i tr' h1 h2 h3 h4
      refine pk_lt 5 i (fun h => pk_lt 5 i (fun _ => ?_) (fun q => absurd q (by omega))) (fun hle => r_findLeast hN1 hN2 h6 hp (by omega) hle hk (fun f' t e1 hv hmin => ⟨fun q => absurd q (by decide), fun _ => pk_lt 5 i (fun q => absurd q (by omega)) (fun _ => ⟨7, k3 i f' _ hle (fun a ha => ?_) 7 0 la (by omega) (by omega) (fun j hj => absurd hj (by omega))⟩)⟩) (fun f' hno => ⟨fun _ z hz => ?_, fun q => absurd rfl q⟩))
      · exact H1 hN 0 (fun _ => 0) la tr' kl2 kh2 ⟨fun m m1 m2 _ => h4 m m1 (by omega), by omega, fun q => absurd q (by omega)⟩ (fun j hj => absurd hj (by omega))
      · have := H1 hN i t a f' kl2 kh2 ⟨fun m m1 m2 m3 => h4 m m1 (by omega), hle, fun _ => ⟨hv, hmin⟩⟩ (fun j hj => by rw [ha j hj]; exact e1 j hj)
        unfold lmI at this
        rw [if_neg (show ¬ i = 0 by omega)] at this
        exact this
      · rw [hz, nI_p1]
        refine ih (i + 1) f' (by omega) (by omega) (by omega) (fun m m1 m2 => ?_)
        by_cases e : m = i
        · rw [e]; exact hno
        · exact h4 m m1 (by omega)
  exact k1 7 1 tr (by omega) (by omega) (by omega) (fun m m1 m2 => absurd m2 (by omega))
