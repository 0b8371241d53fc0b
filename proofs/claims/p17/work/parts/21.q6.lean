/-! sums: what stands between two calls -/
section LDEF
variable (st co : Nat) (E : Nat → Nat → Int32) (gN : Nat) (sg : Nat → Int32)
def wnt (k p : Nat) : Int32 := wtV (nI k) (AIM st co E (cdF sg gN) p)
def lgQ (g : Nat) (w : Nat → Int32) (as on sm : Nat → Int32) (wd sz fl : Int32) : Prop := rowK (PW g w) as on ∧ wd = nI (PW g w).1 ∧ smK (PW g w).1 (SF g w) sm ∧ sz = nI (SF g w).1 ∧ fl = nI ((SF g w).1 - (SP g w).1)
def loQ (as on sm : Nat → Nat → Int32) (wd sz fl rd : Nat → Int32) : Prop := GOD st co E gN sg → ∀ k, k < gN → ¬ rd k = 0 → lgQ gN (wnt st co E gN sg k) (as k) (on k) (sm k) (wd k) (sz k) (fl k)
def reQ (ld : Int32) (wv : Nat → Int32) (wd : Int32) (wA wO : Nat → Int32) (sm fl : Int32) (sa : Nat → Int32) : Prop := GOD st co E gN sg → ∀ k, k < gN → ld = nI k → (∀ p, p < 4 * 2 ^ gN → wv p = wnt st co E gN sg k p) ∧ lgQ gN (wnt st co E gN sg k) wA wO sa wd sm fl
noncomputable def ASK (g : Nat) (w : Nat → Int32) : Int32 := fo (fun i a => a + pcI (nI ((PW g w).2 ((SF g w).2 i) / 128))) (SF g w).1 0
def CNT (g : Nat) (w : Nat → Int32) (v : Int32) : Int32 := fo (fun p a => if w p = v then a + 1 else a) (4 * 2 ^ g) 0
noncomputable def lgV (g : Nat) (w : Nat → Int32) (y : Int32) : Int32 := chz (y = 0) (nI (PW g w).1) (chz (y = 1) (nI (SF g w).1) (chz (y = 2) (nI ((SF g w).1 - (SP g w).1)) (chz (y = 3) (ASK g w) (chz (y = 4) (CNT g w 1) (CNT g w 0)))))
noncomputable def ofV (x z : Int32) (W : PL) (i : Nat) : Int32 := chz (z = 0) (nI (W.2 i / 128)) (chz (z = 1) (nI (W.2 i % 128)) (-1002))
noncomputable def lgcF (x y : Int32) : Int32 := chz (GOD st co E gN sg) (chz (inr gN x) (chz (y < 0 ∨ 5 < y) (-1002) (lgV gN (wnt st co E gN sg x.toNatClampNeg) y)) (-1001)) (-1003)
noncomputable def proF (x y z : Int32) : Int32 := chz (GOD st co E gN sg) (chz (inr gN x) (chz (inr (SF gN (wnt st co E gN sg x.toNatClampNeg)).1 y) (ofV x z (PW gN (wnt st co E gN sg x.toNatClampNeg)) ((SF gN (wnt st co E gN sg x.toNatClampNeg)).2 y.toNatClampNeg)) (-1001)) (-1001)) (-1003)
noncomputable def widF (x y z : Int32) : Int32 := chz (GOD st co E gN sg) (chz (inr gN x) (chz (inr (PW gN (wnt st co E gN sg x.toNatClampNeg)).1 y) (ofV x z (PW gN (wnt st co E gN sg x.toNatClampNeg)) y.toNatClampNeg) (-1001)) (-1001)) (-1003)
end LDEF
theorem wtV_01 (x a : Int32) : wtV x a = -1 ∨ wtV x a = 0 ∨ wtV x a = 1 := by
  unfold wtV
  split
  · exact Or.inl rfl
  · obtain ⟨j, hj, e⟩ := pk_andE (a >>> (x &&& 31)) (m := (1 : Int32)) 1 (by decide)
    rw [e]
    have hj2 : j = 0 ∨ j = 1 := by omega
    rcases hj2 with q | q
    · rw [q]; exact Or.inr (Or.inl rfl)
    · rw [q]; exact Or.inr (Or.inr rfl)
theorem SF_576 {g : Nat} {w : Nat → Int32} (hg : g ≤ 5) : (SF g w).1 ≤ 576 := by
  have h1 := (SF_le (g := g) (W := PW g w) (w := w) (4 * 2 ^ g)).2
  have h2 := czs_all g (by omega)
  have e : (SF g w).1 ≤ 4 * 2 ^ g + czs (g + 2) (4 * 2 ^ g) := h1
  omega
section LCALL
variable {st co gN : Nat} {E : Nat → Nat → Int32} {sg ac se it : Nat → Int32} {as on sm : Nat → Nat → Int32} {wd sz fl rd : Nat → Int32} {bz al : Int32}
theorem loQ_0 (h : ∀ k, k < 5 → rd k = 0) (hg : gN ≤ 5) : loQ st co E gN sg as on sm wd sz fl rd := fun _ k hk q => absurd (h k (by omega)) q
theorem g_workedOut {post : Nat → (Nat → Int32) → Int32 → (Nat → Nat → Int32) → (Nat → Nat → Int32) → (Nat → Nat → Int32) → (Nat → Int32) → (Nat → Int32) → (Nat → Int32) → (Nat → Int32) → Prop} {k : Nat} (hg : gN ≤ 5) (h3 : ∀ k, k < 128 → it k = nI (t3 k)) (hA : aiK st co E gN sg ac bz) (hGd : GOD st co E gN sg) (hL : loQ st co E gN sg as on sm wd sz fl rd) (hk : k < gN)
    (H : ∀ se' al' as' on' sm' wd' sz' fl' rd', loQ st co E gN sg as' on' sm' wd' sz' fl' rd' → lgQ gN (wnt st co E gN sg k) (as' k) (on' k) (sm' k) (wd' k) (sz' k) (fl' k) → post k se' al' as' on' sm' wd' sz' fl' rd') : wp_X9_workedOut post ac bz se it al as on sm wd sz fl rd (nI k) := by
  obtain ⟨e1, e2⟩ := hA.2 hGd
  have hw : ∀ p, p < 128 → wtV (nI k) (ac p) = wnt st co E gN sg k p := fun p hp => by rw [e2 p hp]; rfl
  refine ⟨fun q => absurd q (nI_pos (by omega)), fun _ => pk_le 5 k (fun q => absurd q (by omega)) (fun _ => ⟨pk_in k 5 (by omega), ?_⟩)⟩
  rw [nI_clamp (show k < 2 ^ 31 by omega), e1]
  refine ⟨fun _ => g_look hg h3 hw (fun p => wtV_01 _ _) (fun se' hS => g_collectWide hg h3 hS (fun wA' wO' hR => ?_)), fun q => H _ _ _ _ _ _ _ _ _ hL (hL hGd k hk q)⟩
  rw [va_up_self, va_up_self, va_up_self]
  refine g_collectSum hg hw hR (fun sa' hs => H _ _ _ _ _ _ _ _ _ (fun _ k' hk' q => ?_) ?_)
  · by_cases e : k' = k
    · rw [e, va_up_self, va_up_self, va_up_self, va_up_self, va_up_self, va_up_self]
      exact ⟨hR, rfl, hs, rfl, rfl⟩
    · rw [va_up_ne _ _ e] at q
      rw [va_up_ne _ _ e, va_up_ne _ _ e, va_up_ne _ _ e, va_up_ne _ _ e, va_up_ne _ _ e, va_up_ne _ _ e]
      exact hL hGd k' hk' q
  · rw [va_up_self, va_up_self, va_up_self, va_up_self, va_up_self, va_up_self]
    exact ⟨hR, rfl, hs, rfl, rfl⟩
theorem g_askedInSum {post : Int32 → Prop} {g : Nat} {w wA sa wO : Nat → Int32} (hg : g ≤ 5) (hR : rowK (PW g w) wA wO) (hS : smK (PW g w).1 (SF g w) sa) (H : post (ASK g w)) : wp_X4_askedInSum post wA sa (nI (SF g w).1) := by
  have h576 := SF_576 (w := w) hg
  have hW := PW_ls (w := w) hg
  have h672 := hW.1
  have key : ∀ n i, i ≤ (SF g w).1 → (SF g w).1 - i < n → w_X4_askedInSum_4 (fun x => post x) wA sa (nI (SF g w).1) n (fo (fun i a => a + pcI (nI ((PW g w).2 ((SF g w).2 i) / 128))) i 0) (nI i) := by
    intro n
    induction n with
    | zero => intro i h1 h2; omega
    | succ n ih =>
      intro i h1 h2
      refine pk_le (SF g w).1 i (fun hle => by rw [show i = (SF g w).1 by omega]; exact H) (fun hlt => ⟨pk_in i 672 (by omega), ?_⟩)
      obtain ⟨e, hl⟩ := hS i hlt
      have hwl := hW.2 _ hl
      rw [nI_clamp (show i < 2 ^ 31 by omega), e, nI_clamp (show (SF g w).2 i < 2 ^ 31 by omega), (hR _ hl).1]
      refine ⟨pk_in ((SF g w).2 i) 672 (by omega), g_bitCount (by omega) (fun a ha b hb => ?_)⟩
      rw [hb, nI_p1, ha]
      exact ih (i + 1) (by omega) (by omega)
  exact ⟨(SF g w).1 + 1, key _ 0 (by omega) (by omega)⟩
theorem r_asksAll {post : Int32 → Prop} {g : Nat} {w wA sa wO : Nat → Int32} (hg : g ≤ 5) (hR : rowK (PW g w) wA wO) (hS : smK (PW g w).1 (SF g w) sa) (H : post (ASK g w)) : wp_X10_asksAll post wA (nI (SF g w).1) sa := by
  have h576 := SF_576 (w := w) hg
  have hW := PW_ls (w := w) hg
  have h672 := hW.1
  have key : ∀ n i, i ≤ (SF g w).1 → (SF g w).1 - i < n → w_X10_asksAll_4 (fun x => post x) wA (nI (SF g w).1) sa n (fo (fun i a => a + pcI (nI ((PW g w).2 ((SF g w).2 i) / 128))) i 0) (nI i) := by
    intro n
    induction n with
    | zero => intro i h1 h2; omega
    | succ n ih =>
      intro i h1 h2
      refine pk_le (SF g w).1 i (fun hle => by rw [show i = (SF g w).1 by omega]; exact H) (fun hlt => ⟨pk_in i 600 (by omega), ?_⟩)
      obtain ⟨e, hl⟩ := hS i hlt
      rw [nI_clamp (show i < 2 ^ 31 by omega), e, nI_clamp (show (SF g w).2 i < 2 ^ 31 by omega), (hR _ hl).1]
      refine ⟨pk_in ((SF g w).2 i) 2187 (by omega), r_ones (fun a ha b hb => ?_)⟩
      rw [hb, nI_p1, ha]
      exact ih (i + 1) (by omega) (by omega)
  exact ⟨(SF g w).1 + 1, key _ 0 (by omega) (by omega)⟩
theorem g_pointsWith {post : Int32 → Prop} {g : Nat} {w ac : Nat → Int32} {x v : Int32} (hg : g ≤ 5) (hw : ∀ p, p < 128 → wtV x (ac p) = w p) (H : post (CNT g w v)) : wp_X0_pointsWith post ac (nI (2 + g)) x v := by
  have hq := p4_le hg
  have key : ∀ n i, i ≤ 4 * 2 ^ g → 4 * 2 ^ g - i < n → w_X0_pointsWith_5 (fun x => post x) ac (nI (2 + g)) x v n (fo (fun p a => if w p = v then a + 1 else a) i 0) (nI i) := by
    intro n
    induction n with
    | zero => intro i h1 h2; omega
    | succ n ih =>
      intro i h1 h2
      rw [w_X0_pointsWith_5]
      have hr := ih (i + 1)
      rw [fo_s] at hr
      refine g_points hg (pk_le (4 * 2 ^ g) i (fun hle => by rw [show i = 4 * 2 ^ g by omega]; exact H) (fun hlt => g_at (by omega) ?_))
      have hr := hr (by omega) (by omega)
      rw [hw i (by omega)]
      refine ⟨fun q a ha b hb => ?_, fun q b hb => ?_⟩
      · rw [if_pos q] at hr
        rw [hb, nI_p1, ha]
        exact hr
      · rw [if_neg q] at hr
        rw [hb, nI_p1]
        exact hr
  exact ⟨129, key 129 0 (Nat.zero_le _) (by omega)⟩
theorem r_wantsMany {post : Int32 → Prop} {g : Nat} {w wv : Nat → Int32} {v : Int32} (hg : g ≤ 5) (hw : ∀ p, p < 4 * 2 ^ g → wv p = w p) (H : post (CNT g w v)) : wp_X10_wantsMany post (nI g) wv v := by
  have hq := p4_le hg
  have key : ∀ n i, i ≤ 4 * 2 ^ g → 4 * 2 ^ g - i < n → w_X10_wantsMany_4 (fun x => post x) (nI g) wv v n (fo (fun p a => if w p = v then a + 1 else a) i 0) (nI i) := by
    intro n
    induction n with
    | zero => intro i h1 h2; omega
    | succ n ih =>
      intro i h1 h2
      rw [w_X10_wantsMany_4]
      have hr := ih (i + 1)
      rw [fo_s] at hr
      refine s_points hg (pk_le (4 * 2 ^ g) i (fun hle => by rw [show i = 4 * 2 ^ g by omega]; exact H) (fun hlt => ⟨pk_in i 128 (by omega), ?_⟩))
      have hr := hr (by omega) (by omega)
      rw [nI_clamp (show i < 2 ^ 31 by omega), hw i hlt]
      refine ⟨fun q a ha b hb => ?_, fun q a ha b hb => ?_⟩
      · rw [if_pos q] at hr
        rw [hb, nI_p1, ha]
        exact hr
      · rw [if_neg q] at hr
        rw [hb, nI_p1, ha, Int32.add_zero]
        exact hr
  exact ⟨129, key 129 0 (Nat.zero_le _) (by omega)⟩
variable {mo sb am nm x y z : Int32}
theorem g_logic {post : Int32 → (Nat → Int32) → Int32 → (Nat → Nat → Int32) → (Nat → Nat → Int32) → (Nat → Nat → Int32) → (Nat → Int32) → (Nat → Int32) → (Nat → Int32) → (Nat → Int32) → Prop} (hg : gN ≤ 5) (h3 : ∀ k, k < 128 → it k = nI (t3 k)) (hM : maK st co E mo sb am nm) (hA : aiK st co E gN sg ac bz) (hL : loQ st co E gN sg as on sm wd sz fl rd)
    (H : ∀ se' al' as' on' sm' wd' sz' fl' rd', loQ st co E gN sg as' on' sm' wd' sz' fl' rd' → post (lgcF st co E gN sg x y) se' al' as' on' sm' wd' sz' fl' rd') : wp_X9_logic post (LOS st co E gN sg) nm (nI gN) ac bz se it al as on sm wd sz fl rd x y := by
  unfold lgcF at H
  refine g_refusalOf hM hg (fun w => ⟨fun q => absurd q (by decide), fun _ => by rw [chz_f w] at H; exact H _ _ _ _ _ _ _ _ _ hL⟩) (fun w q => ⟨fun q => absurd q (by decide), fun _ => by rw [chz_t w, chz_f q] at H; exact H _ _ _ _ _ _ _ _ _ hL⟩) (fun w j hj e => ⟨fun _ => ?_, fun q => absurd rfl q⟩)
  rw [chz_t w, chz_t ⟨j, hj, e⟩] at H
  subst e
  rw [nI_clamp (show j < 2 ^ 31 by omega)] at H
  refine ⟨fun a => ?_, fun a => ⟨fun b => ?_, fun b => ?_⟩⟩
  · rw [chz_t (Or.inl a)] at H; exact H _ _ _ _ _ _ _ _ _ hL
  · rw [chz_f (fun q => q.elim a (i32_le_nlt b))] at H
    refine g_workedOut hg h3 hA w hL hj (fun se' al' as' on' sm' wd' sz' fl' rd' hL' hQ => ?_)
    have H := H se' al' as' on' sm' wd' sz' fl' rd' hL'
    obtain ⟨r1, r2, r3, r4, r5⟩ := hQ
    obtain ⟨e1, e2⟩ := hA.2 w
    have hw : ∀ p, p < 128 → wtV (nI j) (ac p) = wnt st co E gN sg j p := fun p hp => by rw [e2 p hp]; rfl
    unfold lgV at H
    refine ⟨fun q0 => ?_, fun q0 => ⟨fun q1 => ?_, fun q1 => ⟨fun q2 => ?_, fun q2 => ⟨fun q3 => ?_, fun q3 => ⟨fun q4 => ?_, fun q4 => ?_⟩⟩⟩⟩⟩
    · rw [chz_t q0, ← r2] at H; exact H
    · rw [chz_f q0, chz_t q1, ← r4] at H; exact H
    · rw [chz_f q0, chz_f q1, chz_t q2, ← r5] at H; exact H
    · rw [chz_f q0, chz_f q1, chz_f q2, chz_t q3] at H
      rw [r4]
      exact g_askedInSum hg r1 r3 H
    · rw [chz_f q0, chz_f q1, chz_f q2, chz_f q3, chz_t q4] at H
      rw [e1]
      exact g_pointsWith hg hw H
    · rw [chz_f q0, chz_f q1, chz_f q2, chz_f q3, chz_f q4] at H
      rw [e1]
      exact g_pointsWith hg hw H
  · rw [chz_t (Or.inr (i32_nle_lt b))] at H; exact H _ _ _ _ _ _ _ _ _ hL
theorem g_ofWide {post : Int32 → Prop} {W : PL} {wA wO : Nat → Int32} {j : Nat} (hW : lsQ W) (hR : rowK W wA wO) (hj : j < W.1) (H : post (ofV x z W j)) : wp_X4_ofWide post wA wO (nI W.1) (nI j) z := by
  have h672 := hW.1
  unfold ofV at H
  refine ⟨fun q => absurd q (nI_pos (by omega)), fun _ => pk_lt j W.1 (fun _ => ?_) (fun q => absurd q (by omega))⟩
  rw [nI_clamp (show j < 2 ^ 31 by omega), (hR j hj).1, (hR j hj).2]
  refine ⟨fun q0 => ⟨pk_in j 672 (by omega), ?_⟩, fun q0 => ⟨fun q1 => ⟨pk_in j 672 (by omega), ?_⟩, fun q1 => ?_⟩⟩
  · rw [chz_t q0] at H; exact H
  · rw [chz_f q0, chz_t q1] at H; exact H
  · rw [chz_f q0, chz_f q1] at H; exact H
theorem g_product {post : Int32 → (Nat → Int32) → Int32 → (Nat → Nat → Int32) → (Nat → Nat → Int32) → (Nat → Nat → Int32) → (Nat → Int32) → (Nat → Int32) → (Nat → Int32) → (Nat → Int32) → Prop} (hg : gN ≤ 5) (h3 : ∀ k, k < 128 → it k = nI (t3 k)) (hM : maK st co E mo sb am nm) (hA : aiK st co E gN sg ac bz) (hL : loQ st co E gN sg as on sm wd sz fl rd)
    (H : ∀ se' al' as' on' sm' wd' sz' fl' rd', loQ st co E gN sg as' on' sm' wd' sz' fl' rd' → post (proF st co E gN sg x y z) se' al' as' on' sm' wd' sz' fl' rd') : wp_X9_product post (LOS st co E gN sg) nm (nI gN) ac bz se it al as on sm wd sz fl rd x y z := by
  unfold proF at H
  refine g_refusalOf hM hg (fun w => ⟨fun q => absurd q (by decide), fun _ => by rw [chz_f w] at H; exact H _ _ _ _ _ _ _ _ _ hL⟩) (fun w q => ⟨fun q => absurd q (by decide), fun _ => by rw [chz_t w, chz_f q] at H; exact H _ _ _ _ _ _ _ _ _ hL⟩) (fun w j hj e => ⟨fun _ => ?_, fun q => absurd rfl q⟩)
  rw [chz_t w, chz_t ⟨j, hj, e⟩] at H
  subst e
  rw [nI_clamp (show j < 2 ^ 31 by omega)] at H
  refine g_workedOut hg h3 hA w hL hj (fun se' al' as' on' sm' wd' sz' fl' rd' hL' hQ => ?_)
  have H := H se' al' as' on' sm' wd' sz' fl' rd' hL'
  obtain ⟨r1, r2, r3, r4, r5⟩ := hQ
  have h576 := SF_576 (w := wnt st co E gN sg j) hg
  have hW := PW_ls (w := wnt st co E gN sg j) hg
  rw [r2, r4]
  refine ⟨fun a => ?_, fun a => ?_⟩
  · rw [chz_f (inr_neg a (by omega))] at H; exact H
  · obtain ⟨i, hi, e⟩ := nI_of a
    subst e
    rw [nI_clamp hi] at H ⊢
    refine pk_le (SF gN (wnt st co E gN sg j)).1 i (fun h => ?_) (fun h => ⟨pk_in i 672 (by omega), ?_⟩)
    · rw [chz_f (fun q => by obtain ⟨l, hl, e⟩ := q; have := nI_ij hi (by omega) e; omega)] at H; exact H
    · rw [chz_t ⟨i, h, rfl⟩] at H
      obtain ⟨e, hl⟩ := r3 i h
      rw [e]
      exact g_ofWide hW r1 hl H
theorem g_wide {post : Int32 → (Nat → Int32) → Int32 → (Nat → Nat → Int32) → (Nat → Nat → Int32) → (Nat → Nat → Int32) → (Nat → Int32) → (Nat → Int32) → (Nat → Int32) → (Nat → Int32) → Prop} (hg : gN ≤ 5) (h3 : ∀ k, k < 128 → it k = nI (t3 k)) (hM : maK st co E mo sb am nm) (hA : aiK st co E gN sg ac bz) (hL : loQ st co E gN sg as on sm wd sz fl rd)
    (H : ∀ se' al' as' on' sm' wd' sz' fl' rd', loQ st co E gN sg as' on' sm' wd' sz' fl' rd' → post (widF st co E gN sg x y z) se' al' as' on' sm' wd' sz' fl' rd') : wp_X9_wide post (LOS st co E gN sg) nm (nI gN) ac bz se it al as on sm wd sz fl rd x y z := by
  unfold widF at H
  refine g_refusalOf hM hg (fun w => ⟨fun q => absurd q (by decide), fun _ => by rw [chz_f w] at H; exact H _ _ _ _ _ _ _ _ _ hL⟩) (fun w q => ⟨fun q => absurd q (by decide), fun _ => by rw [chz_t w, chz_f q] at H; exact H _ _ _ _ _ _ _ _ _ hL⟩) (fun w j hj e => ⟨fun _ => ?_, fun q => absurd rfl q⟩)
  rw [chz_t w, chz_t ⟨j, hj, e⟩] at H
  subst e
  rw [nI_clamp (show j < 2 ^ 31 by omega)] at H
  refine g_workedOut hg h3 hA w hL hj (fun se' al' as' on' sm' wd' sz' fl' rd' hL' hQ => ?_)
  have H := H se' al' as' on' sm' wd' sz' fl' rd' hL'
  obtain ⟨r1, r2, r3, r4, r5⟩ := hQ
  have hW := PW_ls (w := wnt st co E gN sg j) hg
  have h672 := hW.1
  rw [r2]
  by_cases q : inr (PW gN (wnt st co E gN sg j)).1 y
  · rw [chz_t q] at H
    obtain ⟨i, hi, e⟩ := q
    subst e
    rw [nI_clamp (show i < 2 ^ 31 by omega)] at H
    exact g_ofWide hW r1 hi H
  · rw [chz_f q] at H
    refine ⟨fun _ => H, fun a => ?_⟩
    obtain ⟨i, hi, e⟩ := nI_of a
    rw [e]
    exact pk_lt i (PW gN (wnt st co E gN sg j)).1 (fun h => absurd ⟨i, h, e⟩ q) (fun _ => H)
theorem g_mixedLogic {post : Int64 → (Nat → Int32) → Int32 → (Nat → Nat → Int32) → (Nat → Nat → Int32) → (Nat → Nat → Int32) → (Nat → Int32) → (Nat → Int32) → (Nat → Int32) → (Nat → Int32) → Prop} {k : Nat} {h : Int64} (hg : gN ≤ 5) (h3 : ∀ k, k < 128 → it k = nI (t3 k)) (hM : maK st co E mo sb am nm) (hA : aiK st co E gN sg ac bz) (hGd : GOD st co E gN sg) (hk : k < gN) (hL : loQ st co E gN sg as on sm wd sz fl rd)
    (H : ∀ r se' al' as' on' sm' wd' sz' fl' rd', loQ st co E gN sg as' on' sm' wd' sz' fl' rd' → post r se' al' as' on' sm' wd' sz' fl' rd') : wp_X9_mixedLogic post (LOS st co E gN sg) nm (nI gN) ac bz se it al as on sm wd sz fl rd h (nI k) := by
  have k45 : ∀ N, N ≤ 672 → ∀ n i h se al as on sm wd sz fl rd, i ≤ N → N - i < n → loQ st co E gN sg as on sm wd sz fl rd → w_X9_mixedLogic_45 post (LOS st co E gN sg) nm (nI gN) ac bz it (nI k) (nI N) n h (nI i) se al as on sm wd sz fl rd := by
    intro N hN n
    induction n with
    | zero => intro i h se al as on sm wd sz fl rd h1 h2; omega
    | succ n ih =>
      intro i h se al as on sm wd sz fl rd h1 h2 h4
      exact pk_le N i (fun _ => H _ _ _ _ _ _ _ _ _ _ h4) (fun hlt => g_product hg h3 hM hA h4 (fun _ _ _ _ _ _ _ _ _ h5 => g_product hg h3 hM hA h5 (fun _ _ _ _ _ _ _ _ _ h6 z hz => by rw [hz, nI_p1 i]; exact ih (i + 1) _ _ _ _ _ _ _ _ _ _ (by omega) (by omega) h6)))
  have k6 : ∀ (KE : Int64 → (Nat → Int32) → Int32 → (Nat → Nat → Int32) → (Nat → Nat → Int32) → (Nat → Nat → Int32) → (Nat → Int32) → (Nat → Int32) → (Nat → Int32) → (Nat → Int32) → Prop), (∀ r se' al' as' on' sm' wd' sz' fl' rd', loQ st co E gN sg as' on' sm' wd' sz' fl' rd' → KE r se' al' as' on' sm' wd' sz' fl' rd') → ∀ n i h se al as on sm wd sz fl rd, i ≤ 6 → 6 - i < n → loQ st co E gN sg as on sm wd sz fl rd → w_X9_mixedLogic_6 KE (LOS st co E gN sg) nm (nI gN) ac bz it (nI k) n h (nI i) se al as on sm wd sz fl rd := by
    intro KE hK n
    induction n with
    | zero => intro i h se al as on sm wd sz fl rd h1 h2; omega
    | succ n ih =>
      intro i h se al as on sm wd sz fl rd h1 h2 h4
      exact pk_lt 5 i (fun _ => hK _ _ _ _ _ _ _ _ _ _ h4) (fun hlt => g_logic hg h3 hM hA h4 (fun _ _ _ _ _ _ _ _ _ h5 z hz => by rw [hz, nI_p1 i]; exact ih (i + 1) _ _ _ _ _ _ _ _ _ _ (by omega) (by omega) h5))
  refine ⟨7, k6 _ (fun _ _ _ _ _ _ _ _ _ _ h5 => g_workedOut hg h3 hA hGd h5 hk (fun _ _ _ _ _ _ _ _ _ h6 hQ c hc => ?_)) 7 0 _ _ _ _ _ _ _ _ _ _ (by omega) (by omega) hL⟩
  have h576 := SF_576 (w := wnt st co E gN sg k) hg
  rw [hc, hQ.2.2.2.1]
  exact ⟨(SF gN (wnt st co E gN sg k)).1 + 1, k45 _ (by omega) _ 0 _ _ _ _ _ _ _ _ _ _ (by omega) (by omega) h6⟩
end LCALL
theorem g_digest {post : Int64 → (Nat → Int32) → Int32 → (Nat → Nat → Int32) → (Nat → Nat → Int32) → (Nat → Nat → Int32) → (Nat → Int32) → (Nat → Int32) → (Nat → Int32) → (Nat → Int32) → Prop} {lt en lo hi ls sg cd ac se it fl rd : Nat → Int32} {as on sm : Nat → Nat → Int32} {wd sz : Nat → Int32} {pl st co pn lz g : Nat} {E : Nat → Nat → Int32} {sgA : Nat → Int32} {tr mo sb am nm al wa tu ch bz : Int32} (hl : pl ≤ 40) (hs : st ≤ 6) (hc : co ≤ 4) (hp : pn ≤ 75) (hz : lz ≤ 5) (hg : g ≤ 5) (hM : maK st co E mo sb am nm) (hA : aiK st co E g sgA ac bz) (h3 : ∀ k, k < 128 → it k = nI (t3 k)) (hL : loQ st co E g sgA as on sm wd sz fl rd)
    (H : ∀ r se' al' as' on' sm' wd' sz' fl' rd', loQ st co E g sgA as' on' sm' wd' sz' fl' rd' → post r se' al' as' on' sm' wd' sz' fl' rd') : wp_X9_digest post (LOS st co E g sgA) tr lt (nI pl) en (nI st) (nI co) mo sb am nm lo hi (nI pn) ls (nI lz) sg cd (nI g) ac bz se it al as on sm wd sz fl rd wa tu ch := by
  have k20 : ∀ (KE : Int64 → Prop) (s : Int32), (∀ a, KE a) → ∀ n i a, i ≤ co → co - i < n → w_X9_digest_20 KE en (nI st) (nI co) s n a (nI i) := by
    intro KE s hK n
    induction n with
    | zero => intro i a h1 h2; omega
    | succ n ih =>
      intro i a h1 h2
      exact pk_le co i (fun _ => hK _) (fun hlt => f_entry hs hc (fun _ z hz => by rw [hz, nI_p1 i]; exact ih (i + 1) _ (by omega) (by omega)))
  have k6 : ∀ (KE : Int64 → Prop), (∀ a, KE a) → ∀ n i a, i ≤ st → st - i < n → w_X9_digest_6 KE en (nI st) (nI co) n a (nI i) := by
    intro KE hK n
    induction n with
    | zero => intro i a h1 h2; omega
    | succ n ih =>
      intro i a h1 h2
      exact pk_le st i (fun _ => hK _) (fun hlt => ⟨5, k20 _ _ (fun b z hz => by rw [hz, nI_p1 i]; exact ih (i + 1) _ (by omega) (by omega)) 5 0 _ (by omega) (by omega)⟩)
  have k107 : ∀ (KE : Int64 → Prop), (∀ a, KE a) → ∀ n i a, i ≤ 6 → 6 - i < n → w_X9_digest_107 KE (LOS st co E g sgA) en (nI st) (nI co) nm cd (nI g) n a (nI i) := by
    intro KE hK n
    induction n with
    | zero => intro i a h1 h2; omega
    | succ n ih =>
      intro i a h1 h2
      exact pk_lt 5 i (fun _ => hK _) (fun hlt => f_coded hs hc (fun _ z hz => by rw [hz, nI_p1 i]; exact ih (i + 1) _ (by omega) (by omega)))
  have k163 : ∀ (KE : Int64 → Prop), (∀ a, KE a) → ∀ n i a, i ≤ pl → pl - i < n → w_X9_digest_163 KE lt (nI pl) n a (nI i) := by
    intro KE hK n
    induction n with
    | zero => intro i a h1 h2; omega
    | succ n ih =>
      intro i a h1 h2
      exact pk_le pl i (fun _ => hK _) (fun hlt => q_at hl (fun _ z hz => by rw [hz, nI_p1 i]; exact ih (i + 1) _ (by omega) (by omega)))
  have k195 : ∀ (KE : Int64 → Prop), (∀ a, KE a) → ∀ n i a, i ≤ 7 → 7 - i < n → w_X9_digest_195 KE tr (nI pl) (nI st) (nI co) wa tu ch n a (nI i) := by
    intro KE hK n
    induction n with
    | zero => intro i a h1 h2; omega
    | succ n ih =>
      intro i a h1 h2
      exact pk_lt 6 i (fun _ => hK _) (fun hlt => f_count (fun _ z hz => by rw [hz, nI_p1 i]; exact ih (i + 1) _ (by omega) (by omega)))
  have k68 : ∀ (KE : Int64 → Prop), (∀ a, KE a) → ∀ n i a, i ≤ 5 → 5 - i < n → w_X9_digest_68 KE (nI st) mo sb am nm (nI pn) n a (nI i) := by
    intro KE hK n
    induction n with
    | zero => intro i a h1 h2; omega
    | succ n ih =>
      intro i a h1 h2
      exact pk_lt 4 i (fun _ => hK _) (fun hlt => f_about (fun _ z hz => by rw [hz, nI_p1 i]; exact ih (i + 1) _ (by omega) (by omega)))
  have k137 : GOD st co E g sgA → ∀ (KE : Int64 → (Nat → Int32) → Int32 → (Nat → Nat → Int32) → (Nat → Nat → Int32) → (Nat → Nat → Int32) → (Nat → Int32) → (Nat → Int32) → (Nat → Int32) → (Nat → Int32) → Prop), (∀ r se' al' as' on' sm' wd' sz' fl' rd', loQ st co E g sgA as' on' sm' wd' sz' fl' rd' → KE r se' al' as' on' sm' wd' sz' fl' rd') → ∀ n i h se al as on sm wd sz fl rd, i ≤ g → g - i < n → loQ st co E g sgA as on sm wd sz fl rd → w_X9_digest_137 KE (LOS st co E g sgA) nm (nI g) ac bz it n h (nI i) se al as on sm wd sz fl rd := by
    intro hGd KE hK n
    induction n with
    | zero => intro i h se al as on sm wd sz fl rd h1 h2; omega
    | succ n ih =>
      intro i h se al as on sm wd sz fl rd h1 h2 h4
      exact pk_le g i (fun _ => hK _ _ _ _ _ _ _ _ _ _ h4) (fun hlt => g_mixedLogic hg h3 hM hA hGd hlt h4 (fun _ _ _ _ _ _ _ _ _ _ h5 z hz => by rw [hz, nI_p1 i]; exact ih (i + 1) _ _ _ _ _ _ _ _ _ _ (by omega) (by omega) h5))
  refine ⟨st + 1, k6 _ (fun _ => ?_) (st + 1) 0 _ (by omega) (by omega)⟩
  refine ⟨fun _ => ⟨fun _ => ⟨7, k107 _ (fun _ => g_isGood hM (fun hGd => ⟨fun q => absurd q (by decide), fun _ => ⟨6, k137 hGd _ (fun _ _ _ _ _ _ _ _ _ _ h5 => ⟨41, k163 _ (fun _ => ⟨8, k195 _ (fun _ => H _ _ _ _ _ _ _ _ _ _ h5) 8 0 _ (by omega) (by omega)⟩) 41 0 _ (by omega) (by omega)⟩) 6 0 _ _ _ _ _ _ _ _ _ _ (by omega) (by omega) hL⟩⟩) (fun _ => ⟨fun _ => ⟨41, k163 _ (fun _ => ⟨8, k195 _ (fun _ => H _ _ _ _ _ _ _ _ _ _ hL) 8 0 _ (by omega) (by omega)⟩) 41 0 _ (by omega) (by omega)⟩, fun q => absurd rfl q⟩)) 7 0 _ (by omega) (by omega)⟩, fun _ => f_mixedCode hs hp hz hg (fun _ => ⟨7, k107 _ (fun _ => g_isGood hM (fun hGd => ⟨fun q => absurd q (by decide), fun _ => ⟨6, k137 hGd _ (fun _ _ _ _ _ _ _ _ _ _ h5 => ⟨41, k163 _ (fun _ => ⟨8, k195 _ (fun _ => H _ _ _ _ _ _ _ _ _ _ h5) 8 0 _ (by omega) (by omega)⟩) 41 0 _ (by omega) (by omega)⟩) 6 0 _ _ _ _ _ _ _ _ _ _ (by omega) (by omega) hL⟩⟩) (fun _ => ⟨fun _ => ⟨41, k163 _ (fun _ => ⟨8, k195 _ (fun _ => H _ _ _ _ _ _ _ _ _ _ hL) 8 0 _ (by omega) (by omega)⟩) 41 0 _ (by omega) (by omega)⟩, fun q => absurd rfl q⟩)) 7 0 _ (by omega) (by omega)⟩)⟩, fun _ => ⟨6, k68 _ (fun _ => ⟨fun _ => ⟨7, k107 _ (fun _ => g_isGood hM (fun hGd => ⟨fun q => absurd q (by decide), fun _ => ⟨6, k137 hGd _ (fun _ _ _ _ _ _ _ _ _ _ h5 => ⟨41, k163 _ (fun _ => ⟨8, k195 _ (fun _ => H _ _ _ _ _ _ _ _ _ _ h5) 8 0 _ (by omega) (by omega)⟩) 41 0 _ (by omega) (by omega)⟩) 6 0 _ _ _ _ _ _ _ _ _ _ (by omega) (by omega) hL⟩⟩) (fun _ => ⟨fun _ => ⟨41, k163 _ (fun _ => ⟨8, k195 _ (fun _ => H _ _ _ _ _ _ _ _ _ _ hL) 8 0 _ (by omega) (by omega)⟩) 41 0 _ (by omega) (by omega)⟩, fun q => absurd rfl q⟩)) 7 0 _ (by omega) (by omega)⟩, fun _ => f_mixedCode hs hp hz hg (fun _ => ⟨7, k107 _ (fun _ => g_isGood hM (fun hGd => ⟨fun q => absurd q (by decide), fun _ => ⟨6, k137 hGd _ (fun _ _ _ _ _ _ _ _ _ _ h5 => ⟨41, k163 _ (fun _ => ⟨8, k195 _ (fun _ => H _ _ _ _ _ _ _ _ _ _ h5) 8 0 _ (by omega) (by omega)⟩) 41 0 _ (by omega) (by omega)⟩) 6 0 _ _ _ _ _ _ _ _ _ _ (by omega) (by omega) hL⟩⟩) (fun _ => ⟨fun _ => ⟨41, k163 _ (fun _ => ⟨8, k195 _ (fun _ => H _ _ _ _ _ _ _ _ _ _ hL) 8 0 _ (by omega) (by omega)⟩) 41 0 _ (by omega) (by omega)⟩, fun q => absurd rfl q⟩)) 7 0 _ (by omega) (by omega)⟩)⟩) 6 0 _ (by omega) (by omega)⟩⟩
section RCALL
variable {st co gN : Nat} {E : Nat → Nat → Int32} {sg ss en lo hi wv wA wO sa : Nat → Int32} {pz ld wd sm fl x y z : Int32}
theorem r_laySignal {post : Int32 → (Nat → Int32) → Int32 → (Nat → Int32) → (Nat → Int32) → Int32 → Int32 → (Nat → Int32) → Prop} {k : Nat} (hT : okE st co E) (hE : eqE st co en E) (hG : gnK st co E gN sg ss) (hGd : GOD st co E gN sg) (hQ : reQ st co E gN sg ld wv wd wA wO sm fl sa) (hk : k < gN)
    (H : ∀ ld' wv' wd' wA' wO' sm' fl' sa', reQ st co E gN sg ld' wv' wd' wA' wO' sm' fl' sa' → (∀ p, p < 4 * 2 ^ gN → wv' p = wnt st co E gN sg k p) → lgQ gN (wnt st co E gN sg k) wA' wO' sa' wd' sm' fl' → post ld' wv' wd' wA' wO' sm' fl' sa') : wp_X10_laySignal post (nI st) (nI co) en (nI gN) ss ld wv wd wA wO sm fl sa (nI k) := by
  have hg := hG.1
  have hq := p4_le hg
  refine ⟨fun e => ?_, fun _ => ⟨129, ?_⟩⟩
  · obtain ⟨a, b⟩ := hQ hGd k hk e
    exact H _ _ _ _ _ _ _ _ hQ a b
  · have key : ∀ (KE : (Nat → Int32) → Prop), (∀ v, (∀ p, p < 4 * 2 ^ gN → v p = wnt st co E gN sg k p) → KE v) → ∀ n i v, i ≤ 4 * 2 ^ gN → 4 * 2 ^ gN - i < n → (∀ p, p < i → v p = wnt st co E gN sg k p) → w_X10_laySignal_16 KE (nI st) (nI co) en (nI gN) ss (nI k) n (nI i) v := by
      intro KE hK n
      induction n with
      | zero => intro i v h1 h2; omega
      | succ n ih =>
        intro i v h1 h2 h3
        rw [w_X10_laySignal_16]
        refine s_points hg (pk_le (4 * 2 ^ gN) i (fun hle => hK v (fun p hp => h3 p (by omega))) (fun hlt => r_wantedAt hT hE hg hG.2.2 (by omega) ⟨pk_in i 128 (by omega), fun a ha b hb => ?_⟩))
        rw [nI_clamp (show i < 2 ^ 31 by omega)] at ha
        rw [hb, nI_p1]
        refine ih (i + 1) a (by omega) (by omega) (fun p hp => ?_)
        by_cases e : p = i
        · rw [ha, e, pk_us]; rfl
        · rw [ha, pk_un e]; exact h3 p (by omega)
    refine key _ (fun v hv => r_layWide hg (fun wA' wO' hR => r_sums (post := fun a b c => post (nI k) v (nI (PW gN v).1) wA' wO' a b c) hg hR (fun sa' hs => ?_))) 129 0 wv (Nat.zero_le _) (by omega) (fun p hp => absurd hp (by omega))
    have e1 := PW_cg hv
    have e2 := SP_cg hv
    have e3 := SF_cg hg hv
    rw [e1] at hR hs ⊢
    rw [e3] at hs ⊢
    rw [e2]
    have hq2 : lgQ gN (wnt st co E gN sg k) wA' wO' sa' (nI (PW gN (wnt st co E gN sg k)).1) (nI (SF gN (wnt st co E gN sg k)).1) (nI ((SF gN (wnt st co E gN sg k)).1 - (SP gN (wnt st co E gN sg k)).1)) := ⟨hR, rfl, hs, rfl, rfl⟩
    refine H _ _ _ _ _ _ _ _ (fun _ k' hk' e => ?_) hv hq2
    have : k = k' := nI_ij (by omega) (by omega) e
    subst this
    exact ⟨hv, hq2⟩
theorem r_logicNow {post : Int32 → Int32 → (Nat → Int32) → Int32 → (Nat → Int32) → (Nat → Int32) → Int32 → Int32 → (Nat → Int32) → Prop} {k : Nat} (hT : okE st co E) (hE : eqE st co en E) (hG : gnK st co E gN sg ss) (hGd : GOD st co E gN sg) (hQ : reQ st co E gN sg ld wv wd wA wO sm fl sa) (hk : k < gN)
    (H : ∀ ld' wv' wd' wA' wO' sm' fl' sa', reQ st co E gN sg ld' wv' wd' wA' wO' sm' fl' sa' → (∃ n, sm' = nI n ∧ n ≤ 576 ∧ ∀ i, i < n → ∃ j, j < 672 ∧ sa' i = nI j) → post (lgV gN (wnt st co E gN sg k) y) ld' wv' wd' wA' wO' sm' fl' sa') : wp_X10_logicNow post (nI st) (nI co) en (nI gN) ss ld wv wd wA wO sm fl sa (nI k) y := by
  have hg := hG.1
  refine r_laySignal hT hE hG hGd hQ hk (fun ld' wv' wd' wA' wO' sm' fl' sa' hQ' hv hq => ?_)
  obtain ⟨r1, r2, r3, r4, r5⟩ := hq
  have h672 := (PW_ls (w := wnt st co E gN sg k) hg).1
  have H := H ld' wv' wd' wA' wO' sm' fl' sa' hQ' ⟨_, r4, SF_576 hg, fun i hi => ⟨_, Nat.lt_of_lt_of_le (r3 i hi).2 h672, (r3 i hi).1⟩⟩
  unfold lgV at H
  refine ⟨fun q0 => ?_, fun q0 => ⟨fun q1 => ?_, fun q1 => ⟨fun q2 => ?_, fun q2 => ⟨fun q3 => ?_, fun q3 => ⟨fun q4 => ?_, fun q4 => ?_⟩⟩⟩⟩⟩
  · rw [chz_t q0, ← r2] at H; exact H
  · rw [chz_f q0, chz_t q1, ← r4] at H; exact H
  · rw [chz_f q0, chz_f q1, chz_t q2, ← r5] at H; exact H
  · rw [chz_f q0, chz_f q1, chz_f q2, chz_t q3] at H
    subst r4
    exact r_asksAll hg r1 r3 H
  · rw [chz_f q0, chz_f q1, chz_f q2, chz_f q3, chz_t q4] at H
    exact r_wantsMany hg hv H
  · rw [chz_f q0, chz_f q1, chz_f q2, chz_f q3, chz_f q4] at H
    exact r_wantsMany hg hv H
theorem r_logic {post : Int32 → Int32 → (Nat → Int32) → Int32 → (Nat → Int32) → (Nat → Int32) → Int32 → Int32 → (Nat → Int32) → Prop} (hT : okE st co E) (hE : eqE st co en E) (hp : ptK st co E pz lo hi) (hG : gnK st co E gN sg ss) (hQ : reQ st co E gN sg ld wv wd wA wO sm fl sa)
    (H : ∀ ld' wv' wd' wA' wO' sm' fl' sa', reQ st co E gN sg ld' wv' wd' wA' wO' sm' fl' sa' → post (lgcF st co E gN sg x y) ld' wv' wd' wA' wO' sm' fl' sa') : wp_X10_logic post (nI st) (nI co) en (nI gN) ss pz lo hi ld wv wd wA wO sm fl sa x y := by
  have hg := hG.1
  unfold lgcF at H
  refine r_isGood hT hE hp hG (fun w => ⟨fun q => absurd q (by decide), fun _ => ?_⟩) (fun w => ⟨fun _ => by rw [chz_f w] at H; exact H _ _ _ _ _ _ _ _ hQ, fun q => absurd rfl q⟩)
  rw [chz_t w] at H
  refine s_in1 (n := gN) (by omega) (fun q => ⟨fun _ => by rw [chz_f q] at H; exact H _ _ _ _ _ _ _ _ hQ, fun q1 => absurd rfl q1⟩) (fun j hj e => ⟨fun q1 => absurd q1 (by decide), fun _ => ?_⟩)
  rw [chz_t ⟨j, hj, e⟩] at H
  subst e
  rw [nI_clamp (show j < 2 ^ 31 by omega)] at H
  refine s_within (fun a => ⟨fun _ => ?_, fun q => absurd rfl q⟩) (fun a => ⟨fun _ => ?_, fun q => absurd rfl q⟩) (fun a b => ⟨fun q => absurd q (by decide), fun _ => ?_⟩)
  · rw [chz_t (Or.inl a)] at H; exact H _ _ _ _ _ _ _ _ hQ
  · rw [chz_t (Or.inr a)] at H; exact H _ _ _ _ _ _ _ _ hQ
  · rw [chz_f (fun q => q.elim a b)] at H
    exact r_logicNow hT hE hG w hQ hj (fun _ _ _ _ _ _ _ _ h _ => H _ _ _ _ _ _ _ _ h)
theorem r_product {post : Int32 → Int32 → (Nat → Int32) → Int32 → (Nat → Int32) → (Nat → Int32) → Int32 → Int32 → (Nat → Int32) → Prop} (hT : okE st co E) (hE : eqE st co en E) (hp : ptK st co E pz lo hi) (hG : gnK st co E gN sg ss) (hQ : reQ st co E gN sg ld wv wd wA wO sm fl sa)
    (H : ∀ ld' wv' wd' wA' wO' sm' fl' sa', reQ st co E gN sg ld' wv' wd' wA' wO' sm' fl' sa' → post (proF st co E gN sg x y z) ld' wv' wd' wA' wO' sm' fl' sa') : wp_X10_product post (nI st) (nI co) en (nI gN) ss pz lo hi ld wv wd wA wO sm fl sa x y z := by
  have hg := hG.1
  unfold proF at H
  refine r_isGood hT hE hp hG (fun w => ⟨fun q => absurd q (by decide), fun _ => ?_⟩) (fun w => ⟨fun _ => by rw [chz_f w] at H; exact H _ _ _ _ _ _ _ _ hQ, fun q => absurd rfl q⟩)
  rw [chz_t w] at H
  refine s_in1 (n := gN) (by omega) (fun q => ⟨fun _ => by rw [chz_f q] at H; exact H _ _ _ _ _ _ _ _ hQ, fun q1 => absurd rfl q1⟩) (fun j hj e => ⟨fun q1 => absurd q1 (by decide), fun _ => ?_⟩)
  rw [chz_t ⟨j, hj, e⟩] at H
  subst e
  rw [nI_clamp (show j < 2 ^ 31 by omega)] at H
  refine r_laySignal hT hE hG w hQ hj (fun ld' wv' wd' wA' wO' sm' fl' sa' hQ' hv hq => ?_)
  obtain ⟨r1, r2, r3, r4, r5⟩ := hq
  have H := H ld' wv' wd' wA' wO' sm' fl' sa' hQ'
  have h576 := SF_576 (w := wnt st co E gN sg j) hg
  have h672 := (PW_ls (w := wnt st co E gN sg j) hg).1
  rw [r4]
  rw [r4] at H
  refine s_in1 (n := (SF gN (wnt st co E gN sg j)).1) (by omega) (fun q => ⟨fun _ => by rw [chz_f q] at H; exact H, fun q1 => absurd rfl q1⟩) (fun i hi e => ⟨fun q1 => absurd q1 (by decide), fun _ => ?_⟩)
  subst e
  rw [chz_t ⟨i, hi, rfl⟩, nI_clamp (show i < 2 ^ 31 by omega)] at H
  obtain ⟨e, hl⟩ := r3 i hi
  rw [nI_clamp (show i < 2 ^ 31 by omega), e, nI_clamp (show (SF gN (wnt st co E gN sg j)).2 i < 2 ^ 31 by omega), (r1 _ hl).1, (r1 _ hl).2]
  unfold ofV at H
  refine ⟨fun q0 => ⟨pk_in i 600 (by omega), pk_in ((SF gN (wnt st co E gN sg j)).2 i) 2187 (by omega), ?_⟩, fun q0 => ⟨fun q1 => ⟨pk_in i 600 (by omega), pk_in ((SF gN (wnt st co E gN sg j)).2 i) 2187 (by omega), ?_⟩, fun q1 => ?_⟩⟩
  · rw [chz_t q0] at H; exact H
  · rw [chz_f q0, chz_t q1] at H; exact H
  · rw [chz_f q0, chz_f q1] at H; exact H
theorem r_wide {post : Int32 → Int32 → (Nat → Int32) → Int32 → (Nat → Int32) → (Nat → Int32) → Int32 → Int32 → (Nat → Int32) → Prop} (hT : okE st co E) (hE : eqE st co en E) (hp : ptK st co E pz lo hi) (hG : gnK st co E gN sg ss) (hQ : reQ st co E gN sg ld wv wd wA wO sm fl sa)
    (H : ∀ ld' wv' wd' wA' wO' sm' fl' sa', reQ st co E gN sg ld' wv' wd' wA' wO' sm' fl' sa' → post (widF st co E gN sg x y z) ld' wv' wd' wA' wO' sm' fl' sa') : wp_X10_wide post (nI st) (nI co) en (nI gN) ss pz lo hi ld wv wd wA wO sm fl sa x y z := by
  have hg := hG.1
  unfold widF at H
  refine r_isGood hT hE hp hG (fun w => ⟨fun q => absurd q (by decide), fun _ => ?_⟩) (fun w => ⟨fun _ => by rw [chz_f w] at H; exact H _ _ _ _ _ _ _ _ hQ, fun q => absurd rfl q⟩)
  rw [chz_t w] at H
  refine s_in1 (n := gN) (by omega) (fun q => ⟨fun _ => by rw [chz_f q] at H; exact H _ _ _ _ _ _ _ _ hQ, fun q1 => absurd rfl q1⟩) (fun j hj e => ⟨fun q1 => absurd q1 (by decide), fun _ => ?_⟩)
  rw [chz_t ⟨j, hj, e⟩] at H
  subst e
  rw [nI_clamp (show j < 2 ^ 31 by omega)] at H
  refine r_laySignal hT hE hG w hQ hj (fun ld' wv' wd' wA' wO' sm' fl' sa' hQ' hv hq => ?_)
  obtain ⟨r1, r2, r3, r4, r5⟩ := hq
  have H := H ld' wv' wd' wA' wO' sm' fl' sa' hQ'
  have h672 := (PW_ls (w := wnt st co E gN sg j) hg).1
  rw [r2]
  rw [r2] at H
  refine s_in1 (n := (PW gN (wnt st co E gN sg j)).1) (by omega) (fun q => ⟨fun _ => by rw [chz_f q] at H; exact H, fun q1 => absurd rfl q1⟩) (fun i hi e => ⟨fun q1 => absurd q1 (by decide), fun _ => ?_⟩)
  subst e
  rw [chz_t ⟨i, hi, rfl⟩, nI_clamp (show i < 2 ^ 31 by omega)] at H
  rw [nI_clamp (show i < 2 ^ 31 by omega), (r1 i hi).1, (r1 i hi).2]
  unfold ofV at H
  refine ⟨fun q0 => ⟨pk_in i 2187 (by omega), ?_⟩, fun q0 => ⟨fun q1 => ⟨pk_in i 2187 (by omega), ?_⟩, fun q1 => ?_⟩⟩
  · rw [chz_t q0] at H; exact H
  · rw [chz_f q0, chz_t q1] at H; exact H
  · rw [chz_f q0, chz_f q1] at H; exact H
theorem r_mixLogic {post : Int32 → (Nat → Int32) → Int32 → (Nat → Int32) → (Nat → Int32) → Int32 → Int32 → (Nat → Int32) → Int64 → Prop} {k : Nat} {h : Int64} (hT : okE st co E) (hE : eqE st co en E) (hG : gnK st co E gN sg ss) (hGd : GOD st co E gN sg) (hk : k < gN) (hQ : reQ st co E gN sg ld wv wd wA wO sm fl sa)
    (H : ∀ ld' wv' wd' wA' wO' sm' fl' sa' h', reQ st co E gN sg ld' wv' wd' wA' wO' sm' fl' sa' → post ld' wv' wd' wA' wO' sm' fl' sa' h') : wp_X10_mixLogic post (nI st) (nI co) en (nI gN) ss ld wv wd wA wO sm fl sa h (nI k) := by
  have k2 : ∀ (KE : Int64 → Prop) (wA wO sa : Nat → Int32) (n0 : Nat), n0 ≤ 576 → (∀ i, i < n0 → ∃ j, j < 672 ∧ sa i = nI j) → (∀ r, KE r) → ∀ n i h, i ≤ n0 → n0 - i < n → w_X10_mixLogic_27 KE wA wO (nI n0) sa n (nI i) h := by
    intro KE wA wO sa n0 hn hs hK n
    induction n with
    | zero => intro i h h1 h2; omega
    | succ n ih =>
      intro i h h1 h2
      refine pk_le n0 i (fun _ => hK _) (fun hlt => ?_)
      obtain ⟨j, hj, e⟩ := hs i hlt
      rw [nI_clamp (show i < 2 ^ 31 by omega), e]
      have v1 : vp_in (nI i) 600 := pk_in i 600 (by omega)
      have v2 : vp_in (nI j) 2187 := pk_in j 2187 (by omega)
      exact ⟨v1, v2, s_mix (fun _ => ⟨v1, v2, s_mix (fun r b hb => by rw [hb, nI_p1 i]; exact ih (i + 1) r (by omega) (by omega))⟩)⟩
  have k1 : ∀ n i ld wv wd wA wO sm fl sa h, i ≤ 6 → 6 - i < n → reQ st co E gN sg ld wv wd wA wO sm fl sa → (i = 6 → ∃ n, sm = nI n ∧ n ≤ 576 ∧ ∀ i, i < n → ∃ j, j < 672 ∧ sa i = nI j) → w_X10_mixLogic_2 (fun (ylaid_5 : Int32) (ywants_5 : Nat → Int32) (ywide_5 : Int32) (ywideAsked_5 : Nat → Int32) (ywideOnes_5 : Nat → Int32) (ysum_5 : Int32) (yflickers_5 : Int32) (ysumAt_5 : Nat → Int32) (yh_5 : Int64) => (∃ fu : Nat, w_X10_mixLogic_27 (fun (yh_14 : Int64) => post ylaid_5 ywants_5 ywide_5 ywideAsked_5 ywideOnes_5 ysum_5 yflickers_5 ysumAt_5 yh_14) ywideAsked_5 ywideOnes_5 ysum_5 ysumAt_5 fu (0 : Int32) yh_5)) (nI st) (nI co) en (nI gN) ss (nI k) n (nI i) ld wv wd wA wO sm fl sa h := by
    intro n
    induction n with
    | zero => intro i ld wv wd wA wO sm fl sa h h1 h2; omega
    | succ n ih =>
      intro i ld wv wd wA wO sm fl sa h h1 h2 h3 h4
      refine pk_le 6 i (fun hle => ?_) (fun hlt => r_logicNow hT hE hG hGd h3 hk (fun ld' wv' wd' wA' wO' sm' fl' sa' q1 q2 => s_mix (fun r b hb => ?_)))
      · obtain ⟨n0, e, hn, hs⟩ := h4 (by omega)
        subst e
        exact ⟨n0 + 1, k2 _ wA wO sa n0 hn hs (fun _ => H _ _ _ _ _ _ _ _ _ h3) (n0 + 1) 0 _ (by omega) (by omega)⟩
      · rw [hb, nI_p1 i]
        exact ih (i + 1) ld' wv' wd' wA' wO' sm' fl' sa' r (by omega) (by omega) q1 (fun _ => q2)
  exact ⟨7, k1 7 0 ld wv wd wA wO sm fl sa h (by omega) (by omega) hQ (fun e => absurd e (by omega))⟩
end RCALL
theorem r_digest {post : Int64 → Int32 → (Nat → Int32) → Int32 → (Nat → Int32) → (Nat → Int32) → Int32 → Int32 → (Nat → Int32) → Int64 → Prop} {pg en sg lo hi la w wA wO sa : Nat → Int32} {pl st co g pn : Nat} {E : Nat → Nat → Int32} {sgA : Nat → Int32} {wa tu ch rd lm ld fl wd sm : Int32} {h : Int64} (hpl : pl ≤ 40) (hTE : okE st co E) (hE : eqE st co en E) (hPt : ptK st co E (nI pn) lo hi) (hG : gnK st co E g sgA sg) (hp : pn ≤ 75) (hl : lmM lm) (hs : reQ st co E g sgA ld w wd wA wO sm fl sa) (H : ∀ r ld' w' wd' wA' wO' sm' fl' sa' h', reQ st co E g sgA ld' w' wd' wA' wO' sm' fl' sa' → post r ld' w' wd' wA' wO' sm' fl' sa' h') : wp_X10_digest post (nI pl) pg (nI st) (nI co) en (nI g) sg wa tu ch rd (nI pn) lo hi lm la ld w wd wA wO sm fl sa h := by
  have hT := hTE.tab hE
  have hg := hG.1
  have h6 := hT.1
  have h4 := hT.2.1
  have k6 : ∀ (KE : Int64 → Prop), (∀ r, KE r) → ∀ n i h, i ≤ 7 → 7 - i < n → w_X10_digest_148 KE (nI pl) (nI st) (nI co) wa tu ch rd n (nI i) h := by
    intro KE hK n
    induction n with
    | zero => intro i h h1 h2; omega
    | succ n ih =>
      intro i h h1 h2
      exact pk_le 7 i (fun _ => hK _) (fun hlt => s_howMany (fun _ => s_mix (fun r b hb => by rw [hb, nI_p1 i]; exact ih (i + 1) r (by omega) (by omega))))
  have k5 : ∀ (KE : Int64 → Prop), (∀ r, KE r) → ∀ n i h, i ≤ pl → pl - i < n → w_X10_digest_121 KE (nI pl) pg n (nI i) h := by
    intro KE hK n
    induction n with
    | zero => intro i h h1 h2; omega
    | succ n ih =>
      intro i h h1 h2
      exact pk_le pl i (fun _ => hK _) (fun hlt => ⟨pk_in i 40 (by omega), s_mix (fun r b hb => by rw [hb, nI_p1 i]; exact ih (i + 1) r (by omega) (by omega))⟩)
  have k4 : ∀ n i ld w wd wA wO sm fl sa h, i ≤ g → g - i < n → reQ st co E g sgA ld w wd wA wO sm fl sa → w_X10_digest_93 (fun (ylaid_22 : Int32) (ywants_22 : Nat → Int32) (ywide_22 : Int32) (ywideAsked_22 : Nat → Int32) (ywideOnes_22 : Nat → Int32) (ysum_22 : Int32) (yflickers_22 : Int32) (ysumAt_22 : Nat → Int32) (yh_22 : Int64) => (∃ fu : Nat, w_X10_digest_121 (fun (yh_27 : Int64) => (∃ fu : Nat, w_X10_digest_148 (fun (yh_32 : Int64) => post yh_32 ylaid_22 ywants_22 ywide_22 ywideAsked_22 ywideOnes_22 ysum_22 yflickers_22 ysumAt_22 yh_32) (nI pl) (nI st) (nI co) wa tu ch rd fu (0 : Int32) yh_27)) (nI pl) pg fu (0 : Int32) yh_22)) (nI st) (nI co) en (nI g) sg (nI pn) lo hi n (nI i) ld w wd wA wO sm fl sa h := by
    intro n
    induction n with
    | zero => intro i ld w wd wA wO sm fl sa h h1 h2; omega
    | succ n ih =>
      intro i ld w wd wA wO sm fl sa h h1 h2 h3
      have fin : ∀ h, (∃ fu : Nat, w_X10_digest_121 (fun (yh_27 : Int64) => (∃ fu : Nat, w_X10_digest_148 (fun (yh_32 : Int64) => post yh_32 ld w wd wA wO sm fl sa yh_32) (nI pl) (nI st) (nI co) wa tu ch rd fu (0 : Int32) yh_27)) (nI pl) pg fu (0 : Int32) h) := fun h => ⟨41, k5 _ (fun _ => ⟨8, k6 _ (fun _ => H _ _ _ _ _ _ _ _ _ _ h3) 8 0 _ (by omega) (by omega)⟩) 41 0 _ (by omega) (by omega)⟩
      refine pk_le g i (fun _ => fin _) (fun hlt => r_isGood hTE hE hPt hG (fun hGd => ⟨fun q => absurd q (by decide), fun _ => r_mixLogic hTE hE hG hGd hlt h3 (fun ld' w' wd' wA' wO' sm' fl' sa' h' q1 b hb => ?_)⟩) (fun _ => ⟨fun _ => fin _, fun q => absurd rfl q⟩))
      rw [hb, nI_p1 i]
      exact ih (i + 1) ld' w' wd' wA' wO' sm' fl' sa' h' (by omega) (by omega) q1
  have k3 : ∀ (KE : Int64 → Prop), (∀ r, KE r) → ∀ n i h, i ≤ 5 → 5 - i < n → w_X10_digest_52 KE (nI st) (nI co) en (nI pn) n (nI i) h := by
    intro KE hK n
    induction n with
    | zero => intro i h h1 h2; omega
    | succ n ih =>
      intro i h h1 h2
      exact pk_le 5 i (fun _ => hK _) (fun hlt => ⟨fun _ => hK _, fun _ => s_aboutNow hT (fun _ => s_mix (fun r b hb => by rw [hb, nI_p1 i]; exact ih (i + 1) r (by omega) (by omega)))⟩)
  have k1 : ∀ (KE : Int64 → Prop) (s : Nat), s < st → (∀ r, KE r) → ∀ n i h, i ≤ co → co - i < n → w_X10_digest_19 KE (nI co) en (nI s) n (nI i) h := by
    intro KE s hs hK n
    induction n with
    | zero => intro i h h1 h2; omega
    | succ n ih =>
      intro i h h1 h2
      exact pk_le co i (fun _ => hK _) (fun hlt => e_entA hT hs hlt (fun _ => s_mix (fun r b hb => by rw [hb, nI_p1 i]; exact ih (i + 1) r (by omega) (by omega))))
  have k2 : ∀ (KE : Int64 → Prop), (∀ r, KE r) → ∀ n i h, i ≤ st → st - i < n → w_X10_digest_9 KE (nI st) (nI co) en n (nI i) h := by
    intro KE hK n
    induction n with
    | zero => intro i h h1 h2; omega
    | succ n ih =>
      intro i h h1 h2
      exact pk_le st i (fun _ => hK _) (fun hlt => ⟨5, k1 _ i hlt (fun r b hb => by rw [hb, nI_p1 i]; exact ih (i + 1) r (by omega) (by omega)) 5 0 _ (by omega) (by omega)⟩)
  refine ⟨7, k2 _ (fun _ => ⟨6, k3 _ (fun _ => ?_) 6 0 _ (by omega) (by omega)⟩) 7 0 _ (by omega) (by omega)⟩
  have fin : ∀ h, ∃ fu : Nat, w_X10_digest_93 (fun (ylaid_22 : Int32) (ywants_22 : Nat → Int32) (ywide_22 : Int32) (ywideAsked_22 : Nat → Int32) (ywideOnes_22 : Nat → Int32) (ysum_22 : Int32) (yflickers_22 : Int32) (ysumAt_22 : Nat → Int32) (yh_22 : Int64) => (∃ fu : Nat, w_X10_digest_121 (fun (yh_27 : Int64) => (∃ fu : Nat, w_X10_digest_148 (fun (yh_32 : Int64) => post yh_32 ylaid_22 ywants_22 ywide_22 ywideAsked_22 ywideOnes_22 ysum_22 yflickers_22 ysumAt_22 yh_32) (nI pl) (nI st) (nI co) wa tu ch rd fu (0 : Int32) yh_27)) (nI pl) pg fu (0 : Int32) yh_22)) (nI st) (nI co) en (nI g) sg (nI pn) lo hi fu (0 : Int32) ld w wd wA wO sm fl sa h := fun h => ⟨7, k4 7 0 _ _ _ _ _ _ _ _ h (by omega) (by omega) hs⟩
  exact s_isNormal hT ⟨fun _ => fin _, fun q => absurd rfl q⟩ (fun _ => ⟨fun _ => fin _, fun _ => s_mixNormal hT hg hp hl (fun _ => fin _)⟩)
