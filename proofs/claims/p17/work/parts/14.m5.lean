theorem bt_c1 : ∀ x, x < 128 → ∀ b, b < 7 → x = x &&& (127 - 2 ^ b) ∨ x = (x &&& (127 - 2 ^ b)) ||| 2 ^ b := by decide +kernel
theorem bt_c2 : ∀ x, x < 128 → ∀ b, b < 7 → (x ||| 2 ^ b) &&& (127 - 2 ^ b) = x &&& (127 - 2 ^ b) := by decide +kernel
theorem bt_c3 : ∀ x, x < 128 → ∀ b, b < 7 → x ||| 2 ^ b < 128 := by decide +kernel
theorem bt_c4 : ∀ g, g < 6 → ∀ x, x < 4 * 2 ^ g → x &&& (4 * 2 ^ g - 1) = x := by decide +kernel
theorem bt_c5 : ∀ g, g < 6 → ∀ x, x < 4 * 2 ^ g → ∀ b, b < g + 2 → x ||| 2 ^ b < 4 * 2 ^ g := by decide +kernel
/-- a wide product about a point that is wanted: the least mask that is clean -/
theorem ex_cover {w : Nat → Int32} {g p mk : Nat} (hg : g ≤ 5) (hp : p < 4 * 2 ^ g) (hw : w p = 1) (h0 : ∃ A, A < 4 * 2 ^ g ∧ A &&& mk = A ∧ clean (4 * 2 ^ g) w A (p &&& A)) : ∃ A, A < 4 * 2 ^ g ∧ A &&& mk = A ∧ wideP (4 * 2 ^ g) (g + 2) w A (p &&& A) := by
  have hq := p4_le hg
  obtain ⟨A, ⟨h1, h2, h3⟩, h4⟩ := pk_least (fun A => A < 4 * 2 ^ g ∧ A &&& mk = A ∧ clean (4 * 2 ^ g) w A (p &&& A)) h0
  refine ⟨A, h1, h2, by rw [Nat.and_assoc, Nat.and_self], ⟨p, hp, hw, rfl⟩, h3, fun b hb ht hc => ?_⟩
  have hlt := bt_lt A (by omega) b (by omega) ht
  refine h4 _ hlt ⟨by omega, ?_, ?_⟩
  · rw [Nat.and_assoc, Nat.and_comm (127 - 2 ^ b) mk, ← Nat.and_assoc, h2]
  · rw [← Nat.and_assoc]; exact hc
theorem ex_one {w : Nat → Int32} {g p : Nat} (hg : g ≤ 5) (hp : p < 4 * 2 ^ g) (hw : w p = 1) : ∃ A, A < 4 * 2 ^ g ∧ wideP (4 * 2 ^ g) (g + 2) w A (p &&& A) := by
  have hq := p4_le hg
  have hq1 : 0 < 4 * 2 ^ g := by omega
  obtain ⟨A, h1, _, h2⟩ := ex_cover (mk := 4 * 2 ^ g - 1) hg hp hw ⟨4 * 2 ^ g - 1, by omega, Nat.and_self _, fun x hx hx0 e => by
    rw [bt_c4 g (by omega) x hx, bt_c4 g (by omega) p hp] at e
    rw [e, hw] at hx0
    exact absurd hx0 (by decide)⟩
  exact ⟨A, h1, h2⟩
theorem ex_two {w : Nat → Int32} {g p b : Nat} (hg : g ≤ 5) (hp : p < 4 * 2 ^ g) (hb : b < g + 2) (hw : w p = 1) (hw2 : w (p ||| 2 ^ b) = 1) (hn : ¬ p ||| 2 ^ b = p) : ∃ A, A < 4 * 2 ^ g ∧ wideP (4 * 2 ^ g) (g + 2) w A (p &&& A) ∧ (p ||| 2 ^ b) &&& A = p &&& A := by
  have hq := p4_le hg
  have hq1 : 0 < 4 * 2 ^ g := by omega
  have key : ∀ x, x < 4 * 2 ^ g → x &&& ((4 * 2 ^ g - 1) &&& (127 - 2 ^ b)) = x &&& (127 - 2 ^ b) := fun x hx => by rw [← Nat.and_assoc, bt_c4 g (by omega) x hx]
  have hle : (4 * 2 ^ g - 1) &&& (127 - 2 ^ b) ≤ 4 * 2 ^ g - 1 := Nat.and_le_left
  obtain ⟨A, h1, h2, h3⟩ := ex_cover (mk := 127 - 2 ^ b) hg hp hw ⟨(4 * 2 ^ g - 1) &&& (127 - 2 ^ b), by omega, by rw [Nat.and_assoc, Nat.and_self], fun x hx hx0 e => by
    rw [key x hx, key p hp] at e
    rcases bt_c1 p (by omega) b (by omega) with c | c
    · rcases bt_c1 x (by omega) b (by omega) with d | d
      · rw [d, e, ← c, hw] at hx0; exact absurd hx0 (by decide)
      · rw [d, e, ← c, hw2] at hx0; exact absurd hx0 (by decide)
    · apply hn
      rw [c, Nat.or_assoc, Nat.or_self]⟩
  refine ⟨A, h1, h3, ?_⟩
  rw [← h2, Nat.and_comm A, ← Nat.and_assoc, ← Nat.and_assoc, bt_c2 p (by omega) b (by omega)]
theorem s_hasA {post : Int32 → Prop} {a b c : Int32} (H : ∀ r, post r) : wp_X10_has post a b c := ⟨fun _ => H _, fun _ => H _⟩
/-- the sum: its places are places of the list -/
def smM (wd sm : Nat) (sa : Nat → Int32) : Prop := wd ≤ 2187 ∧ ∀ k, k < sm → ∃ j, j < wd ∧ sa k = nI j
theorem smM_up {wd sm j : Nat} {sa : Nat → Int32} (h : smM wd sm sa) (hj : j < wd) : smM wd (sm + 1) (upd sa sm (nI j)) := ⟨h.1, fun k hk => by
  by_cases e : k = sm
  · exact ⟨j, hj, by rw [e, pk_us]⟩
  · rw [pk_un e]; exact h.2 k (by omega)⟩
theorem s_isSummed {post : Int32 → Prop} {wA wO sa : Nat → Int32} {wd sm : Nat} {x1 x2 : Int32} (hs : smM wd sm sa) (hm : sm ≤ 600) (H : ∀ r, post r) : wp_X10_isSummed post wA wO (nI sm) sa x1 x2 := by
  have key : ∀ n i x, (x = 0 ∨ x = 1) → i ≤ sm → sm - i < n → w_X10_isSummed_5 (fun (x : Int32) => (narrow .boolean (.int x) = .int x ∧ post x)) wA wO (nI sm) sa x1 x2 n x (nI i) := by
    intro n
    induction n with
    | zero => intro i x h h1 h2; omega
    | succ n ih =>
      intro i x h h1 h2
      have hb : narrow .boolean (.int x) = .int x ∧ post x := ⟨by rcases h with e | e <;> rw [e] <;> rfl, H _⟩
      refine pk_le sm i (fun _ => hb) (fun hlt => ⟨pk_in i 600 (by omega), fun z hz => ?_⟩)
      rw [nI_clamp (show i < 2 ^ 31 by omega)] at hz
      obtain ⟨j, hj, ej⟩ := hs.2 i hlt
      have hwd := hs.1
      have hv : vp_in z 2187 := by rw [hz, ej]; exact pk_in j 2187 (by omega)
      have r0 : ∀ b, b = nI i + 1 → w_X10_isSummed_5 (fun (x : Int32) => (narrow .boolean (.int x) = .int x ∧ post x)) wA wO (nI sm) sa x1 x2 n 0 b := fun b hb => by rw [hb, nI_p1]; exact ih (i + 1) 0 (Or.inl rfl) (by omega) (by omega)
      have r1 : ∀ b, b = nI i + 1 → w_X10_isSummed_5 (fun (x : Int32) => (narrow .boolean (.int x) = .int x ∧ post x)) wA wO (nI sm) sa x1 x2 n 1 b := fun b hb => by rw [hb, nI_p1]; exact ih (i + 1) 1 (Or.inr rfl) (by omega) (by omega)
      exact ⟨fun _ => ⟨hv, hv, s_hasA (fun _ => ⟨fun _ => r0, fun _ => ⟨hv, hv, s_hasA (fun _ => ⟨fun _ => r0, fun _ => r1⟩)⟩⟩)⟩, fun _ => r1⟩
  exact ⟨sm + 1, key (sm + 1) 0 0 (Or.inl rfl) (by omega) (by omega)⟩
theorem s_addSum {post : Int32 → (Nat → Int32) → Prop} {wA wO sa : Nat → Int32} {wd sm : Nat} {p q : Int32} (hwd : wd ≤ 2187) (hm : sm < 600) (hc : ∃ k, k < wd ∧ p &&& wA k = wO k ∧ q &&& wA k = wO k) (H : ∀ j, j < wd → post (nI (sm + 1)) (upd sa sm (nI j))) : wp_X10_addSum post (nI wd) wA wO (nI sm) sa p q := by
  obtain ⟨k, hk, c1, c2⟩ := hc
  have key : ∀ n i x, (x = -1 ∨ ∃ j, j < wd ∧ x = nI j) → i ≤ wd → wd - i < n → (k < i → ¬ x = -1) → w_X10_addSum_5 (fun (x3_21 : Int32) => (vp_in (nI sm) 600 ∧ ∀ a_22 : Nat → Int32, a_22 = upd sa (nI sm).toNatClampNeg x3_21 → (∀ f_23 : Int32, f_23 = (nI sm + (1 : Int32)) → post f_23 a_22))) (nI wd) wA wO p q n x (nI i) := by
    intro n
    induction n with
    | zero => intro i x h h1 h2; omega
    | succ n ih =>
      intro i x h h1 h2 h3
      refine pk_le wd i (fun hle => ⟨pk_in sm 600 hm, fun a ha f hf => ?_⟩) (fun hlt => ?_)
      · rw [nI_clamp (show sm < 2 ^ 31 by omega)] at ha
        rcases h with e | ⟨j, hj, e⟩
        · exact absurd e (h3 (by omega))
        · rw [hf, nI_p1, ha, e]
          exact H j hj
      · have hv : vp_in (nI i) 2187 := pk_in i 2187 (by omega)
        rw [nI_clamp (show i < 2 ^ 31 by omega)]
        have J : ∀ v, (i = k → ¬ v = 0) → j_X10_addSum_61 (w_X10_addSum_5 (fun (x3_21 : Int32) => (vp_in (nI sm) 600 ∧ ∀ a_22 : Nat → Int32, a_22 = upd sa (nI sm).toNatClampNeg x3_21 → (∀ f_23 : Int32, f_23 = (nI sm + (1 : Int32)) → post f_23 a_22))) (nI wd) wA wO p q n) wA x (nI i) v := by
          intro v hv0
          have rI : ∀ b, b = nI i + 1 → w_X10_addSum_5 (fun (x3_21 : Int32) => (vp_in (nI sm) 600 ∧ ∀ a_22 : Nat → Int32, a_22 = upd sa (nI sm).toNatClampNeg x3_21 → (∀ f_23 : Int32, f_23 = (nI sm + (1 : Int32)) → post f_23 a_22))) (nI wd) wA wO p q n (nI i) b := fun b hb => by
            rw [hb, nI_p1 i]
            exact ih (i + 1) (nI i) (Or.inr ⟨i, hlt, rfl⟩) (by omega) (by omega) (fun _ => m1_ne (by omega))
          refine ⟨fun e b hb => ?_, fun _ => ⟨fun _ => rI, fun hx => ?_⟩⟩
          · rw [hb, nI_p1 i]
            refine ih (i + 1) x h (by omega) (by omega) (fun hki => ?_)
            by_cases ek : i = k
            · exact absurd e (hv0 ek)
            · exact h3 (by omega)
          · obtain ⟨j, hj, e⟩ : ∃ j, j < wd ∧ x = nI j := h.resolve_left hx
            refine ⟨hv, s_ones _ (fun _ => ⟨by rw [e]; exact pk_in j 2187 (by omega), s_ones _ (fun _ => ⟨fun _ b hb => ?_, fun _ => rI⟩)⟩)⟩
            rw [hb, nI_p1 i]
            exact ih (i + 1) x h (by omega) (by omega) (fun _ => hx)
        by_cases ek : i = k
        · subst ek
          refine ⟨hv, hv, ⟨fun _ => ⟨fun q => absurd q (by decide), fun _ => ⟨hv, hv, ⟨fun _ => ⟨fun q => absurd q (by decide), fun _ => J 1 (fun _ => by decide)⟩, fun ne => absurd c2 ne⟩⟩⟩, fun ne => absurd c1 ne⟩⟩
        · exact ⟨hv, hv, s_hasA (fun _ => ⟨fun _ => J _ (fun e => absurd e ek), fun _ => ⟨hv, hv, s_hasA (fun _ => ⟨fun _ => J _ (fun e => absurd e ek), fun _ => J _ (fun e => absurd e ek)⟩)⟩⟩)⟩
  exact ⟨wd + 1, key (wd + 1) 0 (-1) (Or.inl rfl) (by omega) (by omega) (fun h => absurd h (by omega))⟩
/-- how many bits of p are 0 -/
def cz (p : Nat) : Nat → Nat
  | 0 => 0
  | b + 1 => cz p b + (if p ||| 2 ^ b = p then 0 else 1)
def czs (nb : Nat) : Nat → Nat
  | 0 => 0
  | p + 1 => czs nb p + cz p nb
theorem cz_mono (p : Nat) {i j : Nat} (h : i ≤ j) : cz p i ≤ cz p j := by
  induction j with
  | zero => have : i = 0 := by omega
            subst this; exact Nat.le_refl _
  | succ j ih =>
    by_cases e : i = j + 1
    · subst e; exact Nat.le_refl _
    · have := ih (by omega)
      rw [cz]
      omega
theorem czs_mono (nb : Nat) {i j : Nat} (h : i ≤ j) : czs nb i ≤ czs nb j := by
  induction j with
  | zero => have : i = 0 := by omega
            subst this; exact Nat.le_refl _
  | succ j ih =>
    by_cases e : i = j + 1
    · subst e; exact Nat.le_refl _
    · have := ih (by omega)
      rw [czs]
      omega
theorem czs_all : ∀ g, g < 6 → 4 * 2 ^ g + czs (g + 2) (4 * 2 ^ g) ≤ 576 := by decide +kernel
/-- the list of a signal is whole: each wide product is in it -/
def wholeL (g wd : Nat) (w wA wO : Nat → Int32) : Prop := wd ≤ 2187 ∧ ∀ A O, A < 4 * 2 ^ g → O ≤ A → wideP (4 * 2 ^ g) (g + 2) w A O → listed wd wA wO A O
theorem cov1 {g wd p : Nat} {w wA wO : Nat → Int32} (hg : g ≤ 5) (hL : wholeL g wd w wA wO) (hp : p < 4 * 2 ^ g) (hw : w p = 1) : ∃ k, k < wd ∧ nI p &&& wA k = wO k ∧ nI p &&& wA k = wO k := by
  obtain ⟨A, h1, h2⟩ := ex_one hg hp hw
  obtain ⟨k, hk, e1, e2⟩ := hL.2 A _ h1 Nat.and_le_right h2
  exact ⟨k, hk, by rw [e1, e2, nx_and], by rw [e1, e2, nx_and]⟩
theorem cov2 {g wd p b : Nat} {w wA wO : Nat → Int32} (hg : g ≤ 5) (hL : wholeL g wd w wA wO) (hp : p < 4 * 2 ^ g) (hb : b < g + 2) (hw : w p = 1) (hw2 : w (p ||| 2 ^ b) = 1) (hn : ¬ p ||| 2 ^ b = p) : ∃ k, k < wd ∧ nI p &&& wA k = wO k ∧ nI (p ||| 2 ^ b) &&& wA k = wO k := by
  obtain ⟨A, h1, h2, h3⟩ := ex_two hg hp hb hw hw2 hn
  obtain ⟨k, hk, e1, e2⟩ := hL.2 A _ h1 Nat.and_le_right h2
  exact ⟨k, hk, by rw [e1, e2, nx_and], by rw [e1, e2, nx_and, h3]⟩
theorem s_layFlickers {post : Int32 → Int32 → (Nat → Int32) → Prop} {w wA wO sa : Nat → Int32} {g wd sm p : Nat} {fl : Int32} (hg : g ≤ 5) (hL : wholeL g wd w wA wO) (hp : p < 4 * 2 ^ g) (hs : smM wd sm sa) (hm : sm + cz p (g + 2) ≤ 576) (H : ∀ sm' fl' sa', smM wd sm' sa' → sm' ≤ sm + cz p (g + 2) → post (nI sm') fl' sa') : wp_X10_layFlickers post (nI g) w (nI wd) wA wO (nI sm) fl sa (nI p) := by
  have hq := p4_le hg
  have e2 : nI g + (2 : Int32) = nI (g + 2) := by rw [show (2 : Int32) = nI 2 from rfl, nI_add]
  have key : ∀ n i sm' fl sa, i ≤ g + 2 → g + 2 - i < n → smM wd sm' sa → sm' ≤ sm + cz p i → w_X10_layFlickers_2 (fun a b c => post a b c) (nI g) w (nI wd) wA wO (nI p) n (nI i) (nI sm') fl sa := by
    intro n
    induction n with
    | zero => intro i sm' fl sa h1 h2; omega
    | succ n ih =>
      intro i sm' fl sa h1 h2 h3 h4
      have m1 : cz p i ≤ cz p (g + 2) := cz_mono p h1
      refine pk_le (g + 2) i (fun hle => H _ _ _ h3 (by omega)) (fun hlt z hz => ?_) e2 rfl
      rw [bt_or p (by omega) i (by omega)] at hz
      have hlt2 := bt_c5 g (by omega) p hp i hlt
      have hr : ∀ b, b = nI i + 1 → w_X10_layFlickers_2 (fun a b c => post a b c) (nI g) w (nI wd) wA wO (nI p) n b (nI sm') fl sa := fun b hb => by rw [hb, nI_p1]; exact ih (i + 1) sm' fl sa (by omega) (by omega) h3 (by rw [cz]; omega)
      rw [hz]
      refine pk_eq (p ||| 2 ^ i) p (fun _ => hr) (fun hne => ⟨pk_in p 128 (by omega), ?_⟩)
      rw [nI_clamp (show p < 2 ^ 31 by omega), nI_clamp (show p ||| 2 ^ i < 2 ^ 31 by omega)]
      refine ⟨fun w1 => ⟨pk_in (p ||| 2 ^ i) 128 (by omega), fun w2 => ?_, fun _ => hr⟩, fun _ => hr⟩
      have m2 : cz p (i + 1) ≤ cz p (g + 2) := cz_mono p (by omega)
      have m3 : cz p (i + 1) = cz p i + 1 := by rw [cz, if_neg hne]
      refine s_isSummed h3 (by omega) (fun _ => ⟨fun _ => s_addSum h3.1 (by omega) (cov2 hg hL hp hlt w1 w2 hne) (fun j hj f _ b hb => ?_), fun _ => hr⟩)
      rw [hb, nI_p1]
      exact ih (i + 1) (sm' + 1) f _ (by omega) (by omega) (smM_up h3 hj) (by omega)
  exact ⟨10, key 10 0 sm fl sa (by omega) (by omega) hs (Nat.le_add_right _ _)⟩
/-- what laySignal keeps: the sum's places are places of the list -/
theorem s_laySignal {post : Int32 → (Nat → Int32) → Int32 → (Nat → Int32) → (Nat → Int32) → Int32 → Int32 → (Nat → Int32) → Prop} {en sg w wA wO sa : Nat → Int32} {st co g wd sm : Nat} {ld fl x1 : Int32} (hT : tabM st co en) (hg : g ≤ 5) (hs : smM wd sm sa) (hm : sm ≤ 576) (H : ∀ ld' w' wd' wA' wO' sm' fl' sa', smM wd' sm' sa' → sm' ≤ 576 → post ld' w' (nI wd') wA' wO' (nI sm') fl' sa') : wp_X10_laySignal post (nI st) (nI co) en (nI g) sg ld w (nI wd) wA wO (nI sm) fl sa x1 := by
  have hq := p4_le hg
  have hz := czs_all g (by omega)
  refine ⟨fun _ => H _ _ _ _ _ _ _ _ hs hm, fun _ => ⟨129, ?_⟩⟩
  -- the second and the third loop, over a whole list
  have k3 : ∀ w' wd' wA' wO', wholeL g wd' w' wA' wO' → ∀ n i sm' fl sa, i ≤ 4 * 2 ^ g → 4 * 2 ^ g - i < n → smM wd' sm' sa → sm' ≤ 4 * 2 ^ g + czs (g + 2) i → w_X10_laySignal_99 (fun (ysum_24 : Int32) (yflickers_24 : Int32) (ysumAt_24 : Nat → Int32) => post x1 w' (nI wd') wA' wO' ysum_24 yflickers_24 ysumAt_24) (nI g) w' (nI wd') wA' wO' n (nI i) (nI sm') fl sa := by
    intro w' wd' wA' wO' hL n
    induction n with
    | zero => intro i sm' fl sa h1 h2; omega
    | succ n ih =>
      intro i sm' fl sa h1 h2 h3 h4
      have m1 : czs (g + 2) i ≤ czs (g + 2) (4 * 2 ^ g) := czs_mono _ h1
      rw [w_X10_laySignal_99]
      refine s_points hg (pk_le (4 * 2 ^ g) i (fun hle => H _ _ _ _ _ _ _ _ h3 (by omega)) (fun hlt => ?_))
      have m2 : czs (g + 2) (i + 1) ≤ czs (g + 2) (4 * 2 ^ g) := czs_mono _ (by omega)
      rw [czs] at m2
      refine s_layFlickers hg hL hlt h3 (by omega) (fun sm2 fl2 sa2 hs2 hm2 b hb => ?_)
      rw [hb, nI_p1]
      exact ih (i + 1) sm2 fl2 sa2 (by omega) (by omega) hs2 (by rw [czs]; omega)
  have k2 : ∀ w' wd' wA' wO', wholeL g wd' w' wA' wO' → ∀ n i sm' sa, i ≤ 4 * 2 ^ g → 4 * 2 ^ g - i < n → smM wd' sm' sa → sm' ≤ i → w_X10_laySignal_58 (fun (ysum_19 : Int32) (ysumAt_19 : Nat → Int32) => (∃ fu : Nat, w_X10_laySignal_99 (fun (ysum_24 : Int32) (yflickers_24 : Int32) (ysumAt_24 : Nat → Int32) => post x1 w' (nI wd') wA' wO' ysum_24 yflickers_24 ysumAt_24) (nI g) w' (nI wd') wA' wO' fu (0 : Int32) ysum_19 (0 : Int32) ysumAt_19)) (nI g) w' (nI wd') wA' wO' n (nI i) (nI sm') sa := by
    intro w' wd' wA' wO' hL n
    induction n with
    | zero => intro i sm' sa h1 h2; omega
    | succ n ih =>
      intro i sm' sa h1 h2 h3 h4
      rw [w_X10_laySignal_58]
      refine s_points hg (pk_le (4 * 2 ^ g) i (fun hle => ⟨129, k3 w' wd' wA' wO' hL 129 0 sm' 0 sa (Nat.zero_le _) (by omega) h3 (by omega)⟩) (fun hlt => ⟨pk_in i 128 (by omega), ?_⟩))
      rw [nI_clamp (show i < 2 ^ 31 by omega)]
      have hr : ∀ b, b = nI i + 1 → w_X10_laySignal_58 (fun (ysum_19 : Int32) (ysumAt_19 : Nat → Int32) => (∃ fu : Nat, w_X10_laySignal_99 (fun (ysum_24 : Int32) (yflickers_24 : Int32) (ysumAt_24 : Nat → Int32) => post x1 w' (nI wd') wA' wO' ysum_24 yflickers_24 ysumAt_24) (nI g) w' (nI wd') wA' wO' fu (0 : Int32) ysum_19 (0 : Int32) ysumAt_19)) (nI g) w' (nI wd') wA' wO' n b (nI sm') sa := fun b hb => by rw [hb, nI_p1]; exact ih (i + 1) sm' sa (by omega) (by omega) h3 (by omega)
      refine ⟨fun w1 => s_isSummed h3 (by omega) (fun _ => ⟨fun _ => s_addSum h3.1 (by omega) (cov1 hg hL hlt w1) (fun j hj b hb => ?_), fun _ => hr⟩), fun _ => hr⟩
      rw [hb, nI_p1]
      exact ih (i + 1) (sm' + 1) _ (by omega) (by omega) (smM_up h3 hj) (by omega)
  have k1 : ∀ n i w', i ≤ 4 * 2 ^ g → 4 * 2 ^ g - i < n → w_X10_laySignal_16 (fun (ywants_7 : Nat → Int32) => (wp_X10_layWide (fun (ywide_8 : Int32) (ywideAsked_8 : Nat → Int32) (ywideOnes_8 : Nat → Int32) => (∃ fu : Nat, w_X10_laySignal_58 (fun (ysum_19 : Int32) (ysumAt_19 : Nat → Int32) => (∃ fu : Nat, w_X10_laySignal_99 (fun (ysum_24 : Int32) (yflickers_24 : Int32) (ysumAt_24 : Nat → Int32) => post x1 ywants_7 ywide_8 ywideAsked_8 ywideOnes_8 ysum_24 yflickers_24 ysumAt_24) (nI g) ywants_7 ywide_8 ywideAsked_8 ywideOnes_8 fu (0 : Int32) ysum_19 (0 : Int32) ysumAt_19)) (nI g) ywants_7 ywide_8 ywideAsked_8 ywideOnes_8 fu (0 : Int32) (0 : Int32) sa)) (nI g) ywants_7 (nI wd) wA wO)) (nI st) (nI co) en (nI g) sg x1 n (nI i) w' := by
    intro n
    induction n with
    | zero => intro i w' h1 h2; omega
    | succ n ih =>
      intro i w' h1 h2
      rw [w_X10_laySignal_16]
      refine s_points hg (pk_le (4 * 2 ^ g) i (fun hle => s_layWide hg (fun wd' wA' wO' h5 h6 => ⟨129, k2 w' wd' wA' wO' ⟨h5, h6⟩ 129 0 0 sa (Nat.zero_le _) (by omega) ⟨h5, fun k hk => absurd hk (by omega)⟩ (by omega)⟩)) (fun hlt => s_wantedAt hT hg (by omega) (fun r => ⟨pk_in i 128 (by omega), fun a _ b hb => ?_⟩)))
      rw [hb, nI_p1]
      exact ih (i + 1) a (by omega) (by omega)
  exact k1 129 0 w (Nat.zero_le _) (by omega)
